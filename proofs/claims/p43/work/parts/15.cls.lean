section
/-! plain arithmetic of the class: what each small method answers, as the machine counts it -/
def jk (j : Nat) : mH := List.replicate j junk
def wOrder (a b : Int64) : Int32 := if a < b then -1 else if b < a then 1 else 0
def wWithin (l : Int32) (v : Int64) : Int32 := if l = 0 then (if v = v.toInt32.toInt64 then 1 else 0) else 1
def wGone (l : Int32) (v : Int64) : Int64 := if l = 0 then v.toInt32.toInt64 else v
def wEdge (l : Int32) (v : Int64) : Int32 := if l = 0 then (if v = -2147483648 then -1 else if v = 2147483647 then 1 else 0) else (if v = -9223372036854775808 then -1 else if v = 9223372036854775807 then 1 else 0)
def wJoin (a b : Int64) (w : Int32) : Int64 := if w = 0 then a + b else if w = 1 then a - b else a * b
def wTrue (a b : Int64) (w : Int32) (r : Int64) : Int32 := if w = 0 then (if (a ^^^ r) &&& (b ^^^ r) < 0 then 0 else 1) else if w = 1 then (if (a ^^^ b) &&& (a ^^^ r) < 0 then 0 else 1) else if b = 0 then 1 else if b = -1 then (if a = -9223372036854775808 then 0 else 1) else if r / b = a then 1 else 0
def wExact (l : Int32) (a b : Int64) (w : Int32) : Int32 := if wTrue a b w (wJoin a b w) = 0 then 0 else if wWithin l (wJoin a b w) = 0 then 0 else 1
def sh32 : Int64 := (32 : Int32).toInt64 &&& 63
def wUpper (l : Int32) (a b : Int64) : Int64 := if l = 0 then (a * b) >>> sh32 else
  ((a >>> sh32) * (b >>> sh32) + (((a >>> sh32) * (b &&& 4294967295) + (((a &&& 4294967295) * (b &&& 4294967295)).toUInt64 >>> ((32 : Int32).toInt64.toUInt64 &&& Int64.toUInt64 63)).toInt64) >>> sh32)) +
    (((a &&& 4294967295) * (b >>> sh32) + (((a >>> sh32) * (b &&& 4294967295) + (((a &&& 4294967295) * (b &&& 4294967295)).toUInt64 >>> ((32 : Int32).toInt64.toUInt64 &&& Int64.toUInt64 63)).toInt64) &&& 4294967295)) >>> sh32)
def wAvg (a b : Int64) (u : Int32) : Int64 := if u = 0 then (a &&& b) + (a ^^^ b) >>> ((1 : Int32).toInt64 &&& 63) else (a ||| b) - (a ^^^ b) >>> ((1 : Int32).toInt64 &&& 63)
def wFDiv (a b : Int64) : Int64 := if a ^^^ b < 0 then (if a / b * b = a then a / b else a / b - 1) else a / b
def wFloor (a b : Int64) : Int64 := if b = 0 then 0 else wFDiv a b
def wRem (a b : Int64) : Int64 := a - a / b * b
def wRest (a b : Int64) : Int64 := if b = 0 then 0 else if wRem a b = 0 then wRem a b else if wRem a b < 0 then (if b < 0 then wRem a b else wRem a b + b) else (if b < 0 then wRem a b + b else wRem a b)
def wQuot (a b : Int64) : Int64 := if b = 0 then 0 else a / b
def wRestT (a b : Int64) : Int64 := if b = 0 then 0 else wRem a b
def wChain (v : Int64) (a b c : Int32) : Int64 := wFloor (wFloor (wFloor v a.toInt64) b.toInt64) c.toInt64
def lAbs (a : Int64) : Int64 := if a < 0 then -a else a
def lMax (a b : Int64) : Int64 := if a < b then b else a
def lMin (a b : Int64) : Int64 := if b < a then b else a
def iMax (a b : Int32) : Int32 := if a < b then b else a
def iMin (a b : Int32) : Int32 := if b < a then b else a
section PLAIN
variable {P : GP} {K : Kt}
theorem rI {h : mH} {x y : Int32} (hK : K (.inl (some (.int x))) h) (e : x = y) : K (.inl (some (.int y))) h := e ▸ hK
theorem rL {h : mH} {x y : Int64} (hK : K (.inl (some (.long x))) h) (e : x = y) : K (.inl (some (.long y))) h := e ▸ hK
theorem kZ0 {h : mH} {x : Int32} (hK : K (.inl (some (.int x))) h) (e : x = 0) : narrow .boolean (.int 0) = .int 0 ∧ K (.inl (some (.int 0))) h := ⟨rfl, e ▸ hK⟩
theorem kZ1 {h : mH} {x : Int32} (hK : K (.inl (some (.int x))) h) (e : x = 1) : narrow .boolean (.int 1) = .int 1 ∧ K (.inl (some (.int 1))) h := ⟨rfl, e ▸ hK⟩
theorem L_order (a b : Int64) (h : mH) (hK : K (.inl (some (.int (wOrder a b)))) h) : M P n_W_order [.long a, .long b] h 0 0 6 K := by
  refine Mgo ok_W_order 60 rfl ?_
  refine ⟨fun q => ?_, fun q => ⟨fun q2 => ?_, fun q2 => ?_⟩⟩ <;> refine rI hK ?_ <;> simp [wOrder, *]
theorem L_within (l : Int32) (v : Int64) (h : mH) (hK : K (.inl (some (.int (wWithin l v)))) h) : M P n_W_isWithin [.int l, .long v] h 0 0 6 K := by
  refine Mgo ok_W_isWithin 60 rfl ?_
  refine ⟨fun q => ⟨fun q2 => ?_, fun q2 => ?_⟩, fun q => ?_⟩
  · exact kZ1 hK (by rw [wWithin, if_pos q, if_pos q2])
  · exact kZ0 hK (by rw [wWithin, if_pos q, if_neg q2])
  · exact kZ1 hK (by rw [wWithin, if_neg q])
theorem L_gone (l : Int32) (v : Int64) (h : mH) (hK : K (.inl (some (.long (wGone l v)))) h) : M P n_W_goneRound [.int l, .long v] h 0 0 6 K := by
  refine Mgo ok_W_goneRound 60 rfl ?_
  refine ⟨fun q => ?_, fun q => ?_⟩ <;> refine rL hK ?_ <;> simp [wGone, *]
theorem L_edge (l : Int32) (v : Int64) (h : mH) (hK : K (.inl (some (.int (wEdge l v)))) h) : M P n_W_edge [.int l, .long v] h 0 0 6 K := by
  refine Mgo ok_W_edge 60 rfl ?_
  refine ⟨fun q => ⟨fun _ => ⟨fun q2 => ?_, fun q2 => ⟨fun q3 => ?_, fun q3 => ?_⟩⟩, fun q9 => absurd q q9⟩, fun q => ⟨fun q9 => absurd q9 q, fun _ => ⟨fun q2 => ?_, fun q2 => ⟨fun q3 => ?_, fun q3 => ?_⟩⟩⟩⟩ <;> refine rI hK ?_ <;> simp [wEdge, *]
theorem L_joined (a b : Int64) (w : Int32) (h : mH) (hK : K (.inl (some (.long (wJoin a b w)))) h) : M P n_W_joined [.long a, .long b, .int w] h 0 0 6 K := by
  refine Mgo ok_W_joined 60 rfl ?_
  refine ⟨fun q => ?_, fun q => ⟨fun q2 => ?_, fun q2 => ?_⟩⟩ <;> refine rL hK ?_ <;> simp [wJoin, *]
theorem L_isTrue (a b : Int64) (w : Int32) (r : Int64) (h : mH) (hK : K (.inl (some (.int (wTrue a b w r)))) h) : M P n_W_isTrue [.long a, .long b, .int w, .long r] h 0 0 6 K := by
  refine Mgo ok_W_isTrue 80 rfl ?_
  refine ⟨fun q => ⟨fun q2 => ?_, fun q2 => ?_⟩, fun q => ⟨fun q1 => ⟨fun q2 => ?_, fun q2 => ?_⟩, fun q1 => ⟨fun q2 => ⟨fun _ => ?_, fun q9 => absurd q2 q9⟩, fun q2 => ⟨fun q3 => ⟨fun q9 => absurd q9 q2, fun _ => ⟨fun q4 => ?_, fun q4 => ?_⟩⟩, fun q3 => ⟨q2, ⟨fun q4 => ?_, fun q4 => ?_⟩⟩⟩⟩⟩⟩
  · exact kZ0 hK (by simp [wTrue, *])
  · exact kZ1 hK (by simp [wTrue, *])
  · exact kZ0 hK (by simp [wTrue, *])
  · exact kZ1 hK (by simp [wTrue, *])
  · exact kZ1 hK (by simp [wTrue, *])
  · exact kZ0 hK (by simp [wTrue, *])
  · exact kZ1 hK (by simp [wTrue, *])
  · exact kZ1 hK (by simp [wTrue, *])
  · exact kZ0 hK (by simp [wTrue, *])
theorem L_isExact (l : Int32) (a b : Int64) (w : Int32) (h : mH) (hK : K (.inl (some (.int (wExact l a b w)))) h) : M P n_W_isExact [.int l, .long a, .long b, .int w] h 0 0 7 K := by
  refine Mgo ok_W_isExact 80 rfl ?_
  refine ⟨_, _, _, L_joined _ _ _ _ ?_, by decide, by decide, by decide⟩
  refine ⟨_, _, _, L_isTrue _ _ _ _ _ ?_, by decide, by decide, by decide⟩
  refine ⟨fun q => ?_, fun q => ?_⟩
  · exact kZ0 hK (by simp [wExact, *])
  · refine ⟨_, _, _, L_within _ _ _ ?_, by decide, by decide, by decide⟩
    refine ⟨fun q2 => ?_, fun q2 => ?_⟩
    · exact kZ0 hK (by simp [wExact, *])
    · exact kZ1 hK (by simp [wExact, *])
theorem L_upper (l : Int32) (a b : Int64) (h : mH) (hK : K (.inl (some (.long (wUpper l a b)))) h) : M P n_W_upperHalf [.int l, .long a, .long b] h 0 0 6 K := by
  refine Mgo ok_W_upperHalf 80 rfl ?_
  refine ⟨fun q => ?_, fun q => ?_⟩
  · refine rL hK ?_
    simp [wUpper, sh32, *]
  · refine rL hK ?_
    rw [wUpper, if_neg q]
    rfl
theorem L_avg (a b : Int64) (u : Int32) (h : mH) (hK : K (.inl (some (.long (wAvg a b u)))) h) : M P n_W_averageOf [.long a, .long b, .int u] h 0 0 6 K := by
  refine Mgo ok_W_averageOf 80 rfl ?_
  refine ⟨fun q => ?_, fun q => ?_⟩ <;> refine rL hK ?_ <;> simp [wAvg, *]
theorem L_floorDiv (a b : Int64) (h : mH) (hb : ¬ b = 0) (hK : K (.inl (some (.long (wFDiv a b)))) h) : M P n_MA_floorDiv [.long a, .long b] h 0 0 6 K := by
  refine Mgo ok_MA_floorDiv 80 rfl ?_
  refine ⟨hb, fun q => ⟨fun q2 => ?_, fun q2 => ?_⟩, fun q => ?_⟩ <;> refine rL hK ?_ <;> simp [wFDiv, *]
theorem L_floorOf (a b : Int64) (h : mH) (hK : K (.inl (some (.long (wFloor a b)))) h) : M P n_W_floorOf [.long a, .long b] h 0 0 7 K := by
  refine Mgo ok_W_floorOf 80 rfl ?_
  refine ⟨fun q => ?_, fun q => ?_⟩
  · refine rL hK ?_
    simp [wFloor, *]
  · refine ⟨_, _, _, L_floorDiv _ _ _ q ?_, by decide, by decide, by decide⟩
    refine rL hK ?_
    simp [wFloor, *]
theorem L_restOf (a b : Int64) (h : mH) (hK : K (.inl (some (.long (wRest a b)))) h) : M P n_W_restOf [.long a, .long b] h 0 0 6 K := by
  refine Mgo ok_W_restOf 80 rfl ?_
  refine ⟨fun q => ?_, fun q => ⟨q, ⟨fun q2 => ?_, fun q2 => ⟨fun q3 => ⟨fun q4 => ⟨fun _ => ?_, fun q9 => absurd rfl q9⟩, fun q4 => ⟨fun q9 => absurd q9 (by decide), fun _ => ?_⟩⟩, fun q3 => ⟨fun q4 => ⟨fun q9 => absurd q9 (by decide), fun _ => ?_⟩, fun q4 => ⟨fun _ => ?_, fun q9 => absurd rfl q9⟩⟩⟩⟩⟩⟩
  · exact rL hK (by rw [wRest, if_pos q])
  · exact rL hK (by rw [wRest, if_neg q, if_pos (show wRem a b = 0 from q2)]; rfl)
  · exact rL hK (by rw [wRest, if_neg q, if_neg (show ¬ wRem a b = 0 from q2), if_pos (show wRem a b < 0 from q3), if_pos q4]; rfl)
  · exact rL hK (by rw [wRest, if_neg q, if_neg (show ¬ wRem a b = 0 from q2), if_pos (show wRem a b < 0 from q3), if_neg q4]; rfl)
  · exact rL hK (by rw [wRest, if_neg q, if_neg (show ¬ wRem a b = 0 from q2), if_neg (show ¬ wRem a b < 0 from q3), if_pos q4]; rfl)
  · exact rL hK (by rw [wRest, if_neg q, if_neg (show ¬ wRem a b = 0 from q2), if_neg (show ¬ wRem a b < 0 from q3), if_neg q4]; rfl)
theorem L_quotT (a b : Int64) (h : mH) (hK : K (.inl (some (.long (wQuot a b)))) h) : M P n_W_quotientTowards [.long a, .long b] h 0 0 6 K := by
  refine Mgo ok_W_quotientTowards 80 rfl ?_
  refine ⟨fun q => ?_, fun q => ⟨q, ?_⟩⟩ <;> refine rL hK ?_ <;> simp [wQuot, *]
theorem L_restT (a b : Int64) (h : mH) (hK : K (.inl (some (.long (wRestT a b)))) h) : M P n_W_restTowards [.long a, .long b] h 0 0 6 K := by
  refine Mgo ok_W_restTowards 80 rfl ?_
  refine ⟨fun q => ?_, fun q => ⟨q, ?_⟩⟩ <;> refine rL hK ?_ <;> simp [wRestT, wRem, *]
theorem L_chained (v : Int64) (a b c : Int32) (h : mH) (hK : K (.inl (some (.long (wChain v a b c)))) h) : M P n_W_chained [.long v, .int a, .int b, .int c] h 0 0 8 K := by
  refine Mgo ok_W_chained 80 rfl ?_
  refine ⟨_, _, _, L_floorOf _ _ _ ?_, by decide, by decide, by decide⟩
  refine ⟨_, _, _, L_floorOf _ _ _ ?_, by decide, by decide, by decide⟩
  refine ⟨_, _, _, L_floorOf _ _ _ ?_, by decide, by decide, by decide⟩
  exact hK
theorem L_absJ (a : Int64) (h : mH) (hK : K (.inl (some (.long (lAbs a)))) h) : M P n_MA_abs [.long a] h 0 0 6 K := by
  refine Mgo ok_MA_abs 80 rfl ?_
  refine ⟨fun q => ?_, fun q => ?_⟩ <;> refine rL hK ?_ <;> simp [lAbs, *]
theorem L_maxJ (a b : Int64) (h : mH) (hK : K (.inl (some (.long (lMax a b)))) h) : M P n_MA_max_JJ [.long a, .long b] h 0 0 6 K := by
  refine Mgo ok_MA_max_JJ 80 rfl ?_
  refine ⟨fun q => ?_, fun q => ?_⟩ <;> refine rL hK ?_ <;> simp [lMax, *]
theorem L_minJ (a b : Int64) (h : mH) (hK : K (.inl (some (.long (lMin a b)))) h) : M P n_MA_min_JJ [.long a, .long b] h 0 0 6 K := by
  refine Mgo ok_MA_min_JJ 80 rfl ?_
  refine ⟨fun q => ?_, fun q => ?_⟩ <;> refine rL hK ?_ <;> simp [lMin, *]
theorem L_maxI (a b : Int32) (h : mH) (hK : K (.inl (some (.int (iMax a b)))) h) : M P n_MA_max_II [.int a, .int b] h 0 0 6 K := by
  refine Mgo ok_MA_max_II 80 rfl ?_
  refine ⟨fun q => ?_, fun q => ?_⟩ <;> refine rI hK ?_ <;> simp [iMax, *]
theorem L_minI (a b : Int32) (h : mH) (hK : K (.inl (some (.int (iMin a b)))) h) : M P n_MA_min_II [.int a, .int b] h 0 0 6 K := by
  refine Mgo ok_MA_min_II 80 rfl ?_
  refine ⟨fun q => ?_, fun q => ?_⟩ <;> refine rI hK ?_ <;> simp [iMin, *]
end PLAIN
end
section
/-! residues: what the ring's methods answer -/
def rSize (m : Int32) : Int64 := lAbs m.toInt64
def rRes (v : Int64) (m : Int32) : Int32 := (wRest v m.toInt64).toInt32
def rRaiseL (e m : Int32) : Nat → Int32 → Int32 → Int32 → Int32
  | 0, _, r, _ => r
  | n + 1, b, r, s => rRaiseL e m n (b + 1) (if (e >>> (b &&& 31)) &&& 1 = 1 then rRes (r.toInt64 * s.toInt64) m else r) (rRes (s.toInt64 * s.toInt64) m)
termination_by n => n
def rRaise (b e m : Int32) : Int32 := rRaiseL e m 31 0 (rRes 1 m) b
def rGcdL : Nat → Int64 → Int64 → Int64
  | 0, g, _ => g
  | n + 1, g, l => if l = 0 then g else rGcdL n l (wRem g l)
termination_by n => n
def rGcd (a b : Int64) : Int64 := rGcdL 1000 a b
def rInvL : Nat → Int64 → Int64 → Int64 → Int64 → Int64 × Int64
  | 0, g, _, f, _ => (g, f)
  | n + 1, g, l, f, nf => if l = 0 then (g, f) else rInvL n l (g - g / l * l) nf (f - g / l * nf)
termination_by n => n
def rInv (v sz : Int64) : Int64 := if (rInvL 1000 sz (wRest v sz) 0 1).1 = 1 then wRest (rInvL 1000 sz (wRest v sz) 0 1).2 sz else -1
def rHas (r m : Int32) : Int32 := if rInv r.toInt64 (rSize m) = -1 then 0 else 1
def rInverse (r m : Int32) : Int32 := rRes (rInv r.toInt64 (rSize m)) m
def rMeet (a m b n : Int32) : Int64 :=
  if wRest (b.toInt64 - wRest a.toInt64 (rSize m)) (rGcd (rSize m) (rSize n)) = 0 then
    wRest a.toInt64 (rSize m) + rSize m * wRest (wFloor (b.toInt64 - wRest a.toInt64 (rSize m)) (rGcd (rSize m) (rSize n)) * rInv (wFloor (rSize m) (rGcd (rSize m) (rSize n))) (wFloor (rSize n) (rGcd (rSize m) (rSize n)))) (wFloor (rSize n) (rGcd (rSize m) (rSize n)))
  else -1
theorem i32_lt {b : Int32} {n m : Nat} (hb : b.toInt + (n : Int) + 1 = m) (c : Int32) (hc : c.toInt = m) : b < c := by
  rw [Int32.lt_iff_toInt_lt]
  omega
theorem i32_nlt {b : Int32} {m : Nat} (hb : b.toInt + 0 = m) (c : Int32) (hc : c.toInt = m) : ¬ b < c := by
  rw [Int32.lt_iff_toInt_lt]
  omega
theorem i32_s {b : Int32} {n m : Nat} (h0 : 0 ≤ b.toInt) (hb : b.toInt + (n : Int) + 1 = m) (hm : m < 2147483647) : (b + 1).toInt = b.toInt + 1 := by
  rw [Int32.toInt_add]
  have e : (1 : Int32).toInt = 1 := by decide
  rw [e]
  exact Int.bmod_eq_of_le (by omega) (by omega)
section RES
variable {P : GP} {K : Kt}
theorem L_sizeOf (m : Int32) (h : mH) (hK : K (.inl (some (.long (rSize m)))) h) : M P n_R_sizeOf [.int m] h 0 0 7 K := by
  refine Mgo ok_R_sizeOf 60 rfl ?_
  refine ⟨_, _, _, L_absJ _ _ ?_, by decide, by decide, by decide⟩
  exact hK
theorem L_residueOf (v : Int64) (m : Int32) (h : mH) (hK : K (.inl (some (.int (rRes v m)))) h) : M P n_R_residueOf [.long v, .int m] h 0 0 7 K := by
  refine Mgo ok_R_residueOf 60 rfl ?_
  refine ⟨_, _, _, L_restOf _ _ _ ?_, by decide, by decide, by decide⟩
  exact hK
theorem l_raised {base e m : Int32} {h : mH} : ∀ (n : Nat) (b r s : Int32), 0 ≤ b.toInt → b.toInt + n = 31 → K (.inl (some (.int (rRaiseL e m n b r s)))) h →
    G P n_R_raised K 8 12 [some (.int base), some (.int e), some (.int m), some (.int r), some (.int s), some (.int b)] [] h 0 0
  | 0, b, r, s, h0, hb, hK => by
    refine go ok_R_raised 80 ?_
    have hn := i32_nlt (m := 31) (by omega) 31 (by decide) (b := b)
    refine ⟨fun q => absurd q hn, fun q => ?_⟩
    rw [rRaiseL] at hK
    exact hK
  | n + 1, b, r, s, h0, hb, hK => by
    refine go ok_R_raised 80 ?_
    have hn := i32_lt (b := b) (n := n) (m := 31) (by omega) 31 (by decide)
    have hs := i32_s (b := b) (n := n) (m := 31) h0 (by omega) (by decide)
    refine ⟨fun q => ?_, fun q => absurd hn q⟩
    rw [rRaiseL] at hK
    refine ⟨fun q2 => ?_, fun q2 => ?_⟩
    · rw [if_pos q2] at hK
      refine ⟨_, _, _, L_residueOf _ _ _ ?_, by decide, by decide, by decide⟩
      refine ⟨_, _, _, L_residueOf _ _ _ ?_, by decide, by decide, by decide⟩
      exact l_raised n (b + 1) _ _ (by omega) (by omega) hK
    · rw [if_neg q2] at hK
      refine ⟨_, _, _, L_residueOf _ _ _ ?_, by decide, by decide, by decide⟩
      exact l_raised n (b + 1) _ _ (by omega) (by omega) hK
theorem L_raised (b e m : Int32) (h : mH) (hK : K (.inl (some (.int (rRaise b e m)))) h) : M P n_R_raised [.int b, .int e, .int m] h 0 0 8 K := by
  refine Mgo ok_R_raised 60 rfl ?_
  refine ⟨_, _, _, L_residueOf _ _ _ ?_, by decide, by decide, by decide⟩
  exact l_raised 31 0 _ _ (by decide) (by decide) hK
theorem l_gcd {a b : Int64} {h : mH} : ∀ (n : Nat) (s : Int32) (g l : Int64) (x : Option Value), 0 ≤ s.toInt → s.toInt + n = 1000 → K (.inl (some (.long (rGcdL n g l)))) h →
    G P n_R_greatestDivisor K 6 9 [some (.long a), none, some (.long b), none, some (.long g), none, some (.long l), none, some (.int s), x, none] [] h 0 0
  | 0, s, g, l, x, h0, hb, hK => by
    refine go ok_R_greatestDivisor 80 ?_
    have hn := i32_nlt (m := 1000) (by omega) 1000 (by decide) (b := s)
    refine ⟨fun q => absurd q hn, fun q => ?_⟩
    rw [rGcdL] at hK
    exact hK
  | n + 1, s, g, l, x, h0, hb, hK => by
    refine go ok_R_greatestDivisor 80 ?_
    have hn := i32_lt (b := s) (n := n) (m := 1000) (by omega) 1000 (by decide)
    have hs := i32_s (b := s) (n := n) (m := 1000) h0 (by omega) (by decide)
    refine ⟨fun q => ?_, fun q => absurd hn q⟩
    rw [rGcdL] at hK
    refine ⟨fun q2 => ?_, fun q2 => ?_⟩
    · rw [if_pos q2] at hK
      exact hK
    · rw [if_neg q2] at hK
      refine ⟨q2, ?_⟩
      exact l_gcd n (s + 1) _ _ _ (by omega) (by omega) hK
theorem L_gcd (a b : Int64) (h : mH) (hK : K (.inl (some (.long (rGcd a b)))) h) : M P n_R_greatestDivisor [.long a, .long b] h 0 0 6 K := by
  refine Mgo ok_R_greatestDivisor 60 rfl ?_
  exact l_gcd 1000 0 _ _ none (by decide) (by decide) hK
theorem l_inv {v sz : Int64} {h : mH} : ∀ (n : Nat) (s : Int32) (g l f nf : Int64) (x y z : Option Value), 0 ≤ s.toInt → s.toInt + n = 1000 →
    K (.inl (some (.long (if (rInvL n g l f nf).1 = 1 then wRest (rInvL n g l f nf).2 sz else -1)))) h →
    G P n_R_inverseBelow K 7 19 [some (.long v), none, some (.long sz), none, some (.long g), none, some (.long l), none, some (.long f), none, some (.long nf), none, some (.int s), x, none, y, none, z, none] [] h 0 0
  | 0, s, g, l, f, nf, x, y, z, h0, hb, hK => by
    refine go ok_R_inverseBelow 80 ?_
    have hn := i32_nlt (m := 1000) (by omega) 1000 (by decide) (b := s)
    refine ⟨fun q => absurd q hn, fun q => ?_⟩
    rw [rInvL] at hK
    refine ⟨fun q2 => ?_, fun q2 => ?_⟩
    · rw [if_pos q2] at hK
      refine ⟨_, _, _, L_restOf _ _ _ ?_, by decide, by decide, by decide⟩
      exact hK
    · rw [if_neg q2] at hK
      exact hK
  | n + 1, s, g, l, f, nf, x, y, z, h0, hb, hK => by
    refine go ok_R_inverseBelow 80 ?_
    have hn := i32_lt (b := s) (n := n) (m := 1000) (by omega) 1000 (by decide)
    have hs := i32_s (b := s) (n := n) (m := 1000) h0 (by omega) (by decide)
    refine ⟨fun q => ?_, fun q => absurd hn q⟩
    rw [rInvL] at hK
    refine ⟨fun q2 => ?_, fun q2 => ?_⟩
    · rw [if_pos q2] at hK
      refine ⟨fun q3 => ?_, fun q3 => ?_⟩
      · rw [if_pos q3] at hK
        refine ⟨_, _, _, L_restOf _ _ _ ?_, by decide, by decide, by decide⟩
        exact hK
      · rw [if_neg q3] at hK
        exact hK
    · rw [if_neg q2] at hK
      refine ⟨q2, ?_⟩
      exact l_inv n (s + 1) _ _ _ _ _ _ _ (by omega) (by omega) hK
theorem L_inverseBelow (v sz : Int64) (h : mH) (hK : K (.inl (some (.long (rInv v sz)))) h) : M P n_R_inverseBelow [.long v, .long sz] h 0 0 7 K := by
  refine Mgo ok_R_inverseBelow 60 rfl ?_
  refine ⟨_, _, _, L_restOf _ _ _ ?_, by decide, by decide, by decide⟩
  exact l_inv 1000 0 _ _ _ _ none none none (by decide) (by decide) hK
theorem L_hasInverse (r m : Int32) (h : mH) (hK : K (.inl (some (.int (rHas r m)))) h) : M P n_R_hasInverse [.int r, .int m] h 0 0 8 K := by
  refine Mgo ok_R_hasInverse 60 rfl ?_
  refine ⟨_, _, _, L_sizeOf _ _ ?_, by decide, by decide, by decide⟩
  refine ⟨_, _, _, L_inverseBelow _ _ _ ?_, by decide, by decide, by decide⟩
  refine ⟨fun q => ?_, fun q => ?_⟩
  · exact kZ0 hK (by simp [rHas, q])
  · exact kZ1 hK (by simp [rHas, q])
theorem L_inverseOf (r m : Int32) (h : mH) (hK : K (.inl (some (.int (rInverse r m)))) h) : M P n_R_inverseOf [.int r, .int m] h 0 0 8 K := by
  refine Mgo ok_R_inverseOf 60 rfl ?_
  refine ⟨_, _, _, L_sizeOf _ _ ?_, by decide, by decide, by decide⟩
  refine ⟨_, _, _, L_inverseBelow _ _ _ ?_, by decide, by decide, by decide⟩
  refine ⟨_, _, _, L_residueOf _ _ _ ?_, by decide, by decide, by decide⟩
  exact hK
theorem L_meetingOf (a m b n : Int32) (h : mH) (hK : K (.inl (some (.long (rMeet a m b n)))) h) : M P n_R_meetingOf [.int a, .int m, .int b, .int n] h 0 0 8 K := by
  refine Mgo ok_R_meetingOf 80 rfl ?_
  unfold rMeet at hK
  refine ⟨_, _, _, L_sizeOf _ _ ?_, by decide, by decide, by decide⟩
  refine ⟨_, _, _, L_sizeOf _ _ ?_, by decide, by decide, by decide⟩
  refine ⟨_, _, _, L_restOf _ _ _ ?_, by decide, by decide, by decide⟩
  refine ⟨_, _, _, L_gcd _ _ _ ?_, by decide, by decide, by decide⟩
  refine ⟨_, _, _, L_restOf _ _ _ ?_, by decide, by decide, by decide⟩
  refine ⟨fun q => ?_, fun q => ?_⟩
  · rw [if_pos q] at hK
    refine ⟨_, _, _, L_floorOf _ _ _ ?_, by decide, by decide, by decide⟩
    refine ⟨_, _, _, L_floorOf _ _ _ ?_, by decide, by decide, by decide⟩
    refine ⟨_, _, _, L_floorOf _ _ _ ?_, by decide, by decide, by decide⟩
    refine ⟨_, _, _, L_inverseBelow _ _ _ ?_, by decide, by decide, by decide⟩
    refine ⟨_, _, _, L_restOf _ _ _ ?_, by decide, by decide, by decide⟩
    exact hK
  · rw [if_neg q] at hK
    exact hK
end RES
end
section
/-! the laws that isSound puts to its numbers -/
def aAvgs (w v : Int64) : Int32 := if wAvg w v 0 + wAvg w v 1 = w + v then (if wAvg w v 1 - wAvg w v 0 = (w ^^^ v) &&& 1 then (if wAvg w v 0 < lMin w v then 0 else if lMax w v < wAvg w v 1 then 0 else 1) else 0) else 0
def aSide (w v : Int64) : Int32 := if v < 0 then (if 0 < wRest w v then 0 else if v < wRest w v then 1 else 0) else (if wRest w v < 0 then 0 else if wRest w v < v then 1 else 0)
def aFloor (l : Int32) (w v : Int64) : Int32 := if aSide w v = 0 then 0 else if wGone l (wGone l (wFloor w v) * v + wRest w v) = w then 1 else 0
def aTow (l : Int32) (w v : Int64) : Int32 := if wGone l (wGone l (wQuot w v) * v + wRestT w v) = w then 1 else 0
def aProd (l : Int32) (w v : Int64) : Int32 := if (if wUpper l w v = (if wGone l (w * v) < 0 then -1 else 0) then 1 else 0) = wExact l w v 2 then 1 else 0
def aTail (l : Int32) (w v : Int64) : Int32 := if aProd l w v = 0 then 0 else if l = 0 then 1 else if wChain w 2 3 5 = wFloor w 30 then 1 else 0
def aPair (l : Int32) (w v : Int64) : Int32 := if aAvgs w v = 0 then 0 else if v = 0 then aTail l w v else if aFloor l w v = 0 then 0 else if aTow l w v = 0 then 0 else aTail l w v
def aRes (r m : Int32) : Int32 := if rRes r.toInt64 m = r then (if rHas r m = 0 then 1 else if rRes (r.toInt64 * (rInverse r m).toInt64) m = rRes 1 m then 1 else 0) else 0
def aKeep (a b : Int64) (m : Int32) : Int32 := if rRes (a + b) m = rRes ((rRes a m).toInt64 + (rRes b m).toInt64) m then (if rRes (a * b) m = rRes ((rRes a m).toInt64 * (rRes b m).toInt64) m then 1 else 0) else 0
def aMeet (a m b n : Int32) : Int32 := if rMeet a m b n = -1 then 1 else if rRes (rMeet a m b n) m = a then (if rRes (rMeet a m b n) n = b then 1 else 0) else 0
section LAWS
variable {P : GP} {K : Kt}
theorem L_avgs (w v : Int64) (h : mH) (hK : K (.inl (some (.int (aAvgs w v)))) h) : M P n_A_holdForAverages [.long w, .long v] h 0 0 7 K := by
  refine Mgo ok_A_holdForAverages 80 rfl ?_
  unfold aAvgs at hK
  refine ⟨_, _, _, L_avg _ _ _ _ ?_, by decide, by decide, by decide⟩
  refine ⟨_, _, _, L_avg _ _ _ _ ?_, by decide, by decide, by decide⟩
  refine ⟨fun q => ?_, fun q => ?_⟩
  · rw [if_pos q] at hK
    refine ⟨fun q2 => ?_, fun q2 => ?_⟩
    · rw [if_pos q2] at hK
      refine ⟨_, _, _, L_minJ _ _ _ ?_, by decide, by decide, by decide⟩
      refine ⟨fun q3 => ?_, fun q3 => ?_⟩
      · rw [if_pos q3] at hK
        exact ⟨rfl, hK⟩
      · rw [if_neg q3] at hK
        refine ⟨_, _, _, L_maxJ _ _ _ ?_, by decide, by decide, by decide⟩
        refine ⟨fun q4 => ?_, fun q4 => ?_⟩
        · rw [if_pos q4] at hK
          exact ⟨rfl, hK⟩
        · rw [if_neg q4] at hK
          exact ⟨rfl, hK⟩
    · rw [if_neg q2] at hK
      exact ⟨rfl, hK⟩
  · rw [if_neg q] at hK
    exact ⟨rfl, hK⟩
theorem L_aFloor (l : Int32) (w v : Int64) (h : mH) (hK : K (.inl (some (.int (aFloor l w v)))) h) : M P n_A_holdForFloor [.int l, .long w, .long v] h 0 0 8 K := by
  refine Mgo ok_A_holdForFloor 80 rfl ?_
  refine ⟨_, _, _, L_floorOf _ _ _ ?_, by decide, by decide, by decide⟩
  refine ⟨_, _, _, L_gone _ _ _ ?_, by decide, by decide, by decide⟩
  refine ⟨_, _, _, L_restOf _ _ _ ?_, by decide, by decide, by decide⟩
  have hN : aSide w v = 0 → aFloor l w v = 0 := fun e => by rw [aFloor, if_pos e]
  have hY : aSide w v = 1 → aFloor l w v = if wGone l (wGone l (wFloor w v) * v + wRest w v) = w then 1 else 0 := fun e => by rw [aFloor, e, if_neg (by decide)]
  have h0 : aSide w v = 0 → narrow .boolean (.int 0) = .int 0 ∧ K (.inl (some (.int 0))) h := fun e => kZ0 hK (hN e)
  have h1 : aSide w v = 1 → wGone l (wGone l (wFloor w v) * v + wRest w v) = w → narrow .boolean (.int 1) = .int 1 ∧ K (.inl (some (.int 1))) h := fun e q => kZ1 hK (by rw [hY e, if_pos q])
  have h2 : aSide w v = 1 → ¬ wGone l (wGone l (wFloor w v) * v + wRest w v) = w → narrow .boolean (.int 0) = .int 0 ∧ K (.inl (some (.int 0))) h := fun e q => kZ0 hK (by rw [hY e, if_neg q])
  unfold aSide at h0 h1 h2
  refine ⟨fun q => ?_, fun q => ?_⟩
  · rw [if_pos q] at h0 h1 h2
    refine ⟨fun q2 => ?_, fun q2 => ?_⟩
    · rw [if_pos q2] at h0
      refine ⟨fun _ => h0 rfl, fun e => absurd rfl e⟩
    · rw [if_neg q2] at h0 h1 h2
      refine ⟨fun q3 => ?_, fun q3 => ?_⟩
      · rw [if_pos q3] at h1 h2
        refine ⟨fun e => absurd e (by decide), fun _ => ?_⟩
        refine ⟨_, _, _, L_gone _ _ _ ?_, by decide, by decide, by decide⟩
        exact ⟨fun e => h1 rfl e, fun e => h2 rfl e⟩
      · rw [if_neg q3] at h0
        refine ⟨fun _ => h0 rfl, fun e => absurd rfl e⟩
  · rw [if_neg q] at h0 h1 h2
    refine ⟨fun q2 => ?_, fun q2 => ?_⟩
    · rw [if_pos q2] at h0
      refine ⟨fun _ => h0 rfl, fun e => absurd rfl e⟩
    · rw [if_neg q2] at h0 h1 h2
      refine ⟨fun q3 => ?_, fun q3 => ?_⟩
      · rw [if_pos q3] at h1 h2
        refine ⟨fun e => absurd e (by decide), fun _ => ?_⟩
        refine ⟨_, _, _, L_gone _ _ _ ?_, by decide, by decide, by decide⟩
        exact ⟨fun e => h1 rfl e, fun e => h2 rfl e⟩
      · rw [if_neg q3] at h0
        refine ⟨fun _ => h0 rfl, fun e => absurd rfl e⟩
theorem L_tow (l : Int32) (w v : Int64) (h : mH) (hK : K (.inl (some (.int (aTow l w v)))) h) : M P n_A_holdForTowards [.int l, .long w, .long v] h 0 0 7 K := by
  refine Mgo ok_A_holdForTowards 80 rfl ?_
  unfold aTow at hK
  refine ⟨_, _, _, L_quotT _ _ _ ?_, by decide, by decide, by decide⟩
  refine ⟨_, _, _, L_gone _ _ _ ?_, by decide, by decide, by decide⟩
  refine ⟨_, _, _, L_restT _ _ _ ?_, by decide, by decide, by decide⟩
  refine ⟨_, _, _, L_gone _ _ _ ?_, by decide, by decide, by decide⟩
  refine ⟨fun q => ?_, fun q => ?_⟩
  · rw [if_pos q] at hK
    exact ⟨rfl, hK⟩
  · rw [if_neg q] at hK
    exact ⟨rfl, hK⟩
theorem L_prod (l : Int32) (w v : Int64) (h : mH) (hK : K (.inl (some (.int (aProd l w v)))) h) : M P n_A_holdForProduct [.int l, .long w, .long v] h 0 0 8 K := by
  refine Mgo ok_A_holdForProduct 80 rfl ?_
  unfold aProd at hK
  refine ⟨_, _, _, L_gone _ _ _ ?_, by decide, by decide, by decide⟩
  refine ⟨fun q => ?_, fun q => ?_⟩
  · rw [if_pos q] at hK
    refine ⟨_, _, _, L_upper _ _ _ _ ?_, by decide, by decide, by decide⟩
    refine ⟨fun q2 => ?_, fun q2 => ?_⟩
    · rw [if_pos q2] at hK
      refine ⟨_, _, _, L_isExact _ _ _ _ _ ?_, by decide, by decide, by decide⟩
      refine ⟨fun q3 => ?_, fun q3 => ?_⟩
      · rw [if_pos q3] at hK
        exact ⟨rfl, hK⟩
      · rw [if_neg q3] at hK
        exact ⟨rfl, hK⟩
    · rw [if_neg q2] at hK
      refine ⟨_, _, _, L_isExact _ _ _ _ _ ?_, by decide, by decide, by decide⟩
      refine ⟨fun q3 => ?_, fun q3 => ?_⟩
      · rw [if_pos q3] at hK
        exact ⟨rfl, hK⟩
      · rw [if_neg q3] at hK
        exact ⟨rfl, hK⟩
  · rw [if_neg q] at hK
    refine ⟨_, _, _, L_upper _ _ _ _ ?_, by decide, by decide, by decide⟩
    refine ⟨fun q2 => ?_, fun q2 => ?_⟩
    · rw [if_pos q2] at hK
      refine ⟨_, _, _, L_isExact _ _ _ _ _ ?_, by decide, by decide, by decide⟩
      refine ⟨fun q3 => ?_, fun q3 => ?_⟩
      · rw [if_pos q3] at hK
        exact ⟨rfl, hK⟩
      · rw [if_neg q3] at hK
        exact ⟨rfl, hK⟩
    · rw [if_neg q2] at hK
      refine ⟨_, _, _, L_isExact _ _ _ _ _ ?_, by decide, by decide, by decide⟩
      refine ⟨fun q3 => ?_, fun q3 => ?_⟩
      · rw [if_pos q3] at hK
        exact ⟨rfl, hK⟩
      · rw [if_neg q3] at hK
        exact ⟨rfl, hK⟩
theorem L_pair (l : Int32) (w v : Int64) (h : mH) (hK : K (.inl (some (.int (aPair l w v)))) h) : M P n_A_holdForPair [.int l, .long w, .long v] h 0 0 9 K := by
  refine Mgo ok_A_holdForPair 80 rfl ?_
  unfold aPair at hK
  refine ⟨_, _, _, L_avgs _ _ _ ?_, by decide, by decide, by decide⟩
  refine ⟨fun q => ?_, fun q => ?_⟩
  · rw [if_pos q] at hK
    exact ⟨rfl, hK⟩
  · rw [if_neg q] at hK
    refine ⟨fun q2 => ?_, fun q2 => ?_⟩
    · rw [if_pos q2] at hK
      unfold aTail at hK
      refine ⟨_, _, _, L_prod _ _ _ _ ?_, by decide, by decide, by decide⟩
      refine ⟨fun q3 => ?_, fun q3 => ?_⟩
      · rw [if_pos q3] at hK
        exact ⟨rfl, hK⟩
      · rw [if_neg q3] at hK
        refine ⟨fun q4 => ?_, fun q4 => ?_⟩
        · rw [if_pos q4] at hK
          exact ⟨rfl, hK⟩
        · rw [if_neg q4] at hK
          refine ⟨_, _, _, L_chained _ _ _ _ _ ?_, by decide, by decide, by decide⟩
          refine ⟨_, _, _, L_floorOf _ _ _ ?_, by decide, by decide, by decide⟩
          refine ⟨fun q5 => ?_, fun q5 => ?_⟩
          · rw [if_pos q5] at hK
            exact ⟨rfl, hK⟩
          · rw [if_neg q5] at hK
            exact ⟨rfl, hK⟩
    · rw [if_neg q2] at hK
      refine ⟨_, _, _, L_aFloor _ _ _ _ ?_, by decide, by decide, by decide⟩
      refine ⟨fun q6 => ?_, fun q6 => ?_⟩
      · rw [if_pos q6] at hK
        exact ⟨rfl, hK⟩
      · rw [if_neg q6] at hK
        refine ⟨_, _, _, L_tow _ _ _ _ ?_, by decide, by decide, by decide⟩
        refine ⟨fun q7 => ?_, fun q7 => ?_⟩
        · rw [if_pos q7] at hK
          exact ⟨rfl, hK⟩
        · rw [if_neg q7] at hK
          unfold aTail at hK
          refine ⟨_, _, _, L_prod _ _ _ _ ?_, by decide, by decide, by decide⟩
          refine ⟨fun q3 => ?_, fun q3 => ?_⟩
          · rw [if_pos q3] at hK
            exact ⟨rfl, hK⟩
          · rw [if_neg q3] at hK
            refine ⟨fun q4 => ?_, fun q4 => ?_⟩
            · rw [if_pos q4] at hK
              exact ⟨rfl, hK⟩
            · rw [if_neg q4] at hK
              refine ⟨_, _, _, L_chained _ _ _ _ _ ?_, by decide, by decide, by decide⟩
              refine ⟨_, _, _, L_floorOf _ _ _ ?_, by decide, by decide, by decide⟩
              refine ⟨fun q5 => ?_, fun q5 => ?_⟩
              · rw [if_pos q5] at hK
                exact ⟨rfl, hK⟩
              · rw [if_neg q5] at hK
                exact ⟨rfl, hK⟩
theorem L_aRes (r m : Int32) (h : mH) (hK : K (.inl (some (.int (aRes r m)))) h) : M P n_A_holdForResidue [.int r, .int m] h 0 0 9 K := by
  refine Mgo ok_A_holdForResidue 80 rfl ?_
  unfold aRes at hK
  refine ⟨_, _, _, L_residueOf _ _ _ ?_, by decide, by decide, by decide⟩
  refine ⟨fun q => ?_, fun q => ?_⟩
  · rw [if_pos q] at hK
    refine ⟨_, _, _, L_hasInverse _ _ _ ?_, by decide, by decide, by decide⟩
    refine ⟨fun q2 => ?_, fun q2 => ?_⟩
    · rw [if_pos q2] at hK
      exact ⟨rfl, hK⟩
    · rw [if_neg q2] at hK
      refine ⟨_, _, _, L_inverseOf _ _ _ ?_, by decide, by decide, by decide⟩
      refine ⟨_, _, _, L_residueOf _ _ _ ?_, by decide, by decide, by decide⟩
      refine ⟨_, _, _, L_residueOf _ _ _ ?_, by decide, by decide, by decide⟩
      refine ⟨fun q3 => ?_, fun q3 => ?_⟩
      · rw [if_pos q3] at hK
        exact ⟨rfl, hK⟩
      · rw [if_neg q3] at hK
        exact ⟨rfl, hK⟩
  · rw [if_neg q] at hK
    exact ⟨rfl, hK⟩
theorem L_aKeep (a b : Int64) (m : Int32) (h : mH) (hK : K (.inl (some (.int (aKeep a b m)))) h) : M P n_A_keepResidues [.long a, .long b, .int m] h 0 0 8 K := by
  refine Mgo ok_A_keepResidues 80 rfl ?_
  unfold aKeep at hK
  refine ⟨_, _, _, L_residueOf _ _ _ ?_, by decide, by decide, by decide⟩
  refine ⟨_, _, _, L_residueOf _ _ _ ?_, by decide, by decide, by decide⟩
  refine ⟨_, _, _, L_residueOf _ _ _ ?_, by decide, by decide, by decide⟩
  refine ⟨_, _, _, L_residueOf _ _ _ ?_, by decide, by decide, by decide⟩
  refine ⟨fun q => ?_, fun q => ?_⟩
  · rw [if_pos q] at hK
    refine ⟨_, _, _, L_residueOf _ _ _ ?_, by decide, by decide, by decide⟩
    refine ⟨_, _, _, L_residueOf _ _ _ ?_, by decide, by decide, by decide⟩
    refine ⟨fun q2 => ?_, fun q2 => ?_⟩
    · rw [if_pos q2] at hK
      exact ⟨rfl, hK⟩
    · rw [if_neg q2] at hK
      exact ⟨rfl, hK⟩
  · rw [if_neg q] at hK
    exact ⟨rfl, hK⟩
theorem L_aMeet (a m b n : Int32) (h : mH) (hK : K (.inl (some (.int (aMeet a m b n)))) h) : M P n_A_holdForMeeting [.int a, .int m, .int b, .int n] h 0 0 9 K := by
  refine Mgo ok_A_holdForMeeting 80 rfl ?_
  unfold aMeet at hK
  refine ⟨_, _, _, L_meetingOf _ _ _ _ _ ?_, by decide, by decide, by decide⟩
  refine ⟨fun q => ?_, fun q => ?_⟩
  · rw [if_pos q] at hK
    exact ⟨rfl, hK⟩
  · rw [if_neg q] at hK
    refine ⟨_, _, _, L_residueOf _ _ _ ?_, by decide, by decide, by decide⟩
    refine ⟨fun q2 => ?_, fun q2 => ?_⟩
    · rw [if_pos q2] at hK
      refine ⟨_, _, _, L_residueOf _ _ _ ?_, by decide, by decide, by decide⟩
      refine ⟨fun q3 => ?_, fun q3 => ?_⟩
      · rw [if_pos q3] at hK
        exact ⟨rfl, hK⟩
      · rw [if_neg q3] at hK
        exact ⟨rfl, hK⟩
    · rw [if_neg q2] at hK
      exact ⟨rfl, hK⟩
end LAWS
end
section
/-! THE CLASS: its cells, what its methods answer and leave -/
abbrev XS : Type := (Nat → Int64) × (Nat → Int64) × (Nat → Int32) × (Nat → Int32) × Int32 × Int32
abbrev xI (s : XS) : Nat → Int64 := s.1
abbrev xL (s : XS) : Nat → Int64 := s.2.1
abbrev xM (s : XS) : Nat → Int32 := s.2.2.1
abbrev xR (s : XS) : Nat → Int32 := s.2.2.2.1
abbrev xF (s : XS) : Int32 := s.2.2.2.2.1
abbrev xK (s : XS) : Int32 := s.2.2.2.2.2
def hx (s : XS) (t : mH) : mH := .inr (2, [.ref 1, .ref 2, .ref 3, .ref 4, .int (xF s), .int (xK s)]) :: .inl (2, 4, .inr (.inl (xI s))) :: .inl (2, 4, .inr (.inl (xL s))) :: .inl (1, 3, .inl (xM s)) :: .inl (1, 12, .inl (xR s)) :: t
abbrev ok4 (k : Int32) : Prop := ¬ k < 0 ∧ k < 4
abbrev ok3 (k : Int32) : Prop := ¬ k < 0 ∧ k < 3
abbrev okC (k c : Int32) : Prop := ¬ k < 0 ∧ ¬ c < k
abbrev okV (a b c : Int32) : Prop := ¬ a < 1 ∧ ¬ b < 1 ∧ ¬ c < 1
abbrev Out : Type := (Int32 ⊕ Nat) × XS
def ans (K : Kt) (t : mH) (o : Out) : Prop := match o.1 with
  | .inl v => K (.inl (some (.int v))) (hx o.2 t)
  | .inr E => ∀ j, K (.inr E) (hx o.2 (t ++ jk j))
def nd (c : Prop) [Decidable c] (E : Nat) (s : XS) (r : Out) : Out := if c then r else (.inr E, s)
theorem ans_nd {K : Kt} {t : mH} {c : Prop} [Decidable c] {E : Nat} {s : XS} {r : Out} (hK : ans K t (nd c E s r)) : (c → ans K t r) ∧ (¬ c → ∀ j, K (.inr E) (hx s (t ++ jk j))) := by
  unfold nd at hK
  by_cases q : c
  · rw [if_pos q] at hK
    exact ⟨fun _ => hK, fun e => absurd q e⟩
  · rw [if_neg q] at hK
    exact ⟨fun e => absurd e q, fun _ => hK⟩
theorem am {K K' : Kt} {t : mH} {o : Out} (hK : ans K t o) (h1 : ∀ v h, K (.inl (some (.int v))) h → K' (.inl (some (.int v))) h) (h2 : ∀ E h, K (.inr E) h → K' (.inr E) h) : ans K' t o := by
  obtain ⟨o, s⟩ := o
  cases o with
  | inl v => exact h1 _ _ hK
  | inr E => exact fun j => h2 _ _ (hK j)
theorem vp4 {k : Int32} (h : ok4 k) : vp_in k 4 := by
  rw [vp_in_iff]
  have h1 := h.1
  have h2 := h.2
  rw [Int32.lt_iff_toInt_lt] at h1 h2
  have e : (4 : Int32).toInt = 4 := by decide
  have e0 : (0 : Int32).toInt = 0 := by decide
  omega
theorem vp3 {k : Int32} (h : ok3 k) : vp_in k 3 := by
  rw [vp_in_iff]
  have h1 := h.1
  have h2 := h.2
  rw [Int32.lt_iff_toInt_lt] at h1 h2
  have e : (3 : Int32).toInt = 3 := by decide
  have e0 : (0 : Int32).toInt = 0 := by decide
  omega
theorem c4 {k : Int32} (h : ok4 k) : k = 0 ∨ k = 1 ∨ k = 2 ∨ k = 3 := by
  have h1 := h.1
  have h2 := h.2
  rw [Int32.lt_iff_toInt_lt] at h1 h2
  have e : (4 : Int32).toInt = 4 := by decide
  have e0 : (0 : Int32).toInt = 0 := by decide
  have c : k.toInt = 0 ∨ k.toInt = 1 ∨ k.toInt = 2 ∨ k.toInt = 3 := by omega
  rcases c with c | c | c | c
  · exact Or.inl (Int32.toInt_inj.mp (c.trans (by decide)))
  · exact Or.inr (Or.inl (Int32.toInt_inj.mp (c.trans (by decide))))
  · exact Or.inr (Or.inr (Or.inl (Int32.toInt_inj.mp (c.trans (by decide)))))
  · exact Or.inr (Or.inr (Or.inr (Int32.toInt_inj.mp (c.trans (by decide)))))
theorem c3 {k : Int32} (h : ok3 k) : k = 0 ∨ k = 1 ∨ k = 2 := by
  have h1 := h.1
  have h2 := h.2
  rw [Int32.lt_iff_toInt_lt] at h1 h2
  have e : (3 : Int32).toInt = 3 := by decide
  have e0 : (0 : Int32).toInt = 0 := by decide
  have c : k.toInt = 0 ∨ k.toInt = 1 ∨ k.toInt = 2 := by omega
  rcases c with c | c | c
  · exact Or.inl (Int32.toInt_inj.mp (c.trans (by decide)))
  · exact Or.inr (Or.inl (Int32.toInt_inj.mp (c.trans (by decide))))
  · exact Or.inr (Or.inr (Int32.toInt_inj.mp (c.trans (by decide))))
theorem vp12 {r k : Int32} (hr : ok3 r) (hk : ok4 k) : vp_in (r * 4 + k) 12 := by
  rw [vp_in_iff]
  rcases c3 hr with rfl | rfl | rfl <;> rcases c4 hk with rfl | rfl | rfl | rfl <;> decide
def xNum (l k : Int32) (s : XS) : Int64 := if l = 0 then xI s k.toNatClampNeg else xL s k.toNatClampNeg
def xSet (l k : Int32) (v : Int64) (s : XS) : XS := if l = 0 then (vp_updL (xI s) k.toNatClampNeg v, s.2) else (s.1, vp_updL (xL s) k.toNatClampNeg v, s.2.2)
def xMod (r : Int32) (s : XS) : Int32 := xM s r.toNatClampNeg
def xRes (r k : Int32) (s : XS) : Int32 := xR s (r * 4 + k).toNatClampNeg
def xSetR (r k : Int32) (v : Int32) (s : XS) : XS := (s.1, s.2.1, s.2.2.1, upd (xR s) (r * 4 + k).toNatClampNeg v, s.2.2.2.2)
def xRefuse (s : XS) : Out := (.inl (-9), (s.1, s.2.1, s.2.2.1, s.2.2.2.1, xF s + 1, xK s))
def xKeep (l k : Int32) (v : Int64) (s : XS) : Out := nd (ok4 k) 0 s (.inl (wOrder v 0), xSet l k v s)
def xKeepR (l k : Int32) (v : Int64) (s : XS) : Out := xKeep l k (wGone l v) s
def xKeepE (l k : Int32) (a b : Int64) (w : Int32) (s : XS) : Out := if wExact l a b w = 0 then xRefuse s else xKeep l k (wJoin a b w) s
def xKeepF (l k : Int32) (d : Int64) (r : Int32) (s : XS) : Out := nd (ok4 k) 0 s (if d = 0 then xRefuse s else xKeepR l k (if r = 0 then wFloor (xNum l k s) d else wRest (xNum l k s) d) s)
def xKeepM (r k : Int32) (v : Int64) (s : XS) : Out := nd (ok3 r) 0 s (nd (ok4 k) 0 s (.inl (rRes v (xMod r s)), xSetR r k (rRes v (xMod r s)) s))
section CLS
variable {P : GP} {K : Kt}
theorem L_needIndex (i c : Int32) {h : mH} (h1 : ¬ i < 0) (h2 : i < c) (hK : K (.inl none) h) : M P n_X_needIndex [.int i, .int c] h 0 0 6 K := by
  refine Mgo ok_X_needIndex 60 rfl ?_
  refine ⟨fun q => absurd q h1, fun _ => ?_⟩
  exact ⟨fun _ => hK, fun q => absurd h2 q⟩
theorem L_needIx (i c : Int32) {h : mH} (hK : ¬ i < 0 ∧ i < c → K (.inl none) h) (h0 : ¬ (¬ i < 0 ∧ i < c) → ∀ j, K (.inr 0) (h ++ jk j)) : M P n_X_needIndex [.int i, .int c] h 1 6 6 K := by
  refine Mgo ok_X_needIndex 60 rfl ?_
  refine ⟨fun q => ?_, fun q => ?_⟩
  · exact ⟨by decide, h0 (fun e => e.1 q)⟩
  · refine ⟨fun q2 => ?_, fun q2 => ?_⟩
    · exact hK ⟨q, q2⟩
    · exact ⟨by decide, h0 (fun e => q2 e.2)⟩
theorem L_needChoice (i c : Int32) {h : mH} (hK : okC i c → K (.inl none) h) (h0 : ¬ okC i c → ∀ j, K (.inr 1) (h ++ jk j)) : M P n_X_needChoice [.int i, .int c] h 1 6 6 K := by
  refine Mgo ok_X_needChoice 60 rfl ?_
  refine ⟨fun q => ?_, fun q => ?_⟩
  · exact ⟨by decide, h0 (fun e => e.1 q)⟩
  · refine ⟨fun q2 => ?_, fun q2 => ?_⟩
    · exact ⟨by decide, h0 (fun e => e.2 q2)⟩
    · exact hK ⟨q, q2⟩
theorem L_needNotZero (m : Int32) {h : mH} (hK : ¬ m = 0 → K (.inl none) h) (h0 : ¬ ¬ m = 0 → ∀ j, K (.inr 1) (h ++ jk j)) : M P n_X_needNotZero [.int m] h 1 6 6 K := by
  refine Mgo ok_X_needNotZero 60 rfl ?_
  refine ⟨fun q => ?_, fun q => ?_⟩
  · exact ⟨by decide, h0 (fun e => e q)⟩
  · exact hK q
theorem L_needDivisors (a b c : Int32) {h : mH} (hK : okV a b c → K (.inl none) h) (h0 : ¬ okV a b c → ∀ j, K (.inr 1) (h ++ jk j)) : M P n_X_needDivisors [.int a, .int b, .int c] h 1 6 6 K := by
  refine Mgo ok_X_needDivisors 60 rfl ?_
  refine ⟨fun q => ?_, fun q => ?_⟩
  · exact ⟨by decide, h0 (fun e => e.1 q)⟩
  · refine ⟨fun q2 => ?_, fun q2 => ?_⟩
    · exact ⟨by decide, h0 (fun e => e.2.1 q2)⟩
    · refine ⟨fun q3 => ?_, fun q3 => ?_⟩
      · exact ⟨by decide, h0 (fun e => e.2.2 q3)⟩
      · exact hK ⟨q, q2, q3⟩
theorem L_numberAt {s : XS} {t : mH} (l k : Int32) (hk : ok4 k) (hK : K (.inl (some (.long (xNum l k s)))) (hx s t)) : M P n_X_numberAt [.ref 0, .int l, .int k] (hx s t) 0 0 7 K := by
  refine Mgo ok_X_numberAt 60 rfl ?_
  unfold xNum at hK
  refine ⟨_, _, _, L_needIndex _ _ hk.1 hk.2 ?_, by decide, by decide, by decide⟩
  refine ⟨fun q => ?_, fun q => ?_⟩
  · rw [if_pos q] at hK
    exact ⟨vp4 hk, hK⟩
  · rw [if_neg q] at hK
    exact ⟨vp4 hk, hK⟩
theorem L_num {s : XS} {t : mH} (l k : Int32) (hK : ok4 k → K (.inl (some (.long (xNum l k s)))) (hx s t)) (h0 : ¬ ok4 k → ∀ j, K (.inr 0) (hx s (t ++ jk j))) : M P n_X_numberAt [.ref 0, .int l, .int k] (hx s t) 1 6 7 K := by
  refine Mgo ok_X_numberAt 60 rfl ?_
  unfold xNum at hK
  refine ⟨_, _, _, L_needIx _ _ (fun hk => ?_) h0, by decide, by decide, by decide⟩
  have hK := hK hk
  refine ⟨fun q => ?_, fun q => ?_⟩
  · rw [if_pos q] at hK
    exact ⟨vp4 hk, hK⟩
  · rw [if_neg q] at hK
    exact ⟨vp4 hk, hK⟩
theorem L_modulusAt {s : XS} {t : mH} (r : Int32) (hr : ok3 r) (hK : K (.inl (some (.int (xMod r s)))) (hx s t)) : M P n_X_modulusAt [.ref 0, .int r] (hx s t) 0 0 7 K := by
  refine Mgo ok_X_modulusAt 60 rfl ?_
  refine ⟨_, _, _, L_needIndex _ _ hr.1 hr.2 ?_, by decide, by decide, by decide⟩
  exact ⟨vp3 hr, hK⟩
theorem L_modAt {s : XS} {t : mH} (r : Int32) (hK : ok3 r → K (.inl (some (.int (xMod r s)))) (hx s t)) (h0 : ¬ ok3 r → ∀ j, K (.inr 0) (hx s (t ++ jk j))) : M P n_X_modulusAt [.ref 0, .int r] (hx s t) 1 6 7 K := by
  refine Mgo ok_X_modulusAt 60 rfl ?_
  refine ⟨_, _, _, L_needIx _ _ (fun hr => ?_) h0, by decide, by decide, by decide⟩
  exact ⟨vp3 hr, hK hr⟩
theorem L_residueAt {s : XS} {t : mH} (r k : Int32) (hr : ok3 r) (hk : ok4 k) (hK : K (.inl (some (.int (xRes r k s)))) (hx s t)) : M P n_X_residueAt [.ref 0, .int r, .int k] (hx s t) 0 0 7 K := by
  refine Mgo ok_X_residueAt 60 rfl ?_
  refine ⟨_, _, _, L_needIndex _ _ hr.1 hr.2 ?_, by decide, by decide, by decide⟩
  refine ⟨_, _, _, L_needIndex _ _ hk.1 hk.2 ?_, by decide, by decide, by decide⟩
  exact ⟨vp12 hr hk, hK⟩
theorem L_resAt {s : XS} {t : mH} (r k : Int32) (hK : ok3 r ∧ ok4 k → K (.inl (some (.int (xRes r k s)))) (hx s t)) (h0 : ¬ (ok3 r ∧ ok4 k) → ∀ j, K (.inr 0) (hx s (t ++ jk j))) : M P n_X_residueAt [.ref 0, .int r, .int k] (hx s t) 2 12 7 K := by
  refine Mgo ok_X_residueAt 60 rfl ?_
  refine ⟨_, _, _, L_needIx _ _ (fun hr => ?_) (fun q => h0 (fun e => q e.1)), by decide, by decide, by decide⟩
  refine ⟨_, _, _, L_needIx _ _ (fun hk => ?_) (fun q => h0 (fun e => q e.2)), by decide, by decide, by decide⟩
  exact ⟨vp12 hr hk, hK ⟨hr, hk⟩⟩
theorem L_refuse {s : XS} {t : mH} (hK : ans K t (xRefuse s)) : M P n_X_refuse [.ref 0] (hx s t) 0 0 6 K := by
  refine Mgo ok_X_refuse 60 rfl ?_
  exact hK
theorem L_keep {s : XS} {t : mH} (l k : Int32) (v : Int64) (hK : ans K t (xKeep l k v s)) : M P n_X_keep [.ref 0, .int l, .int k, .long v] (hx s t) 1 6 7 K := by
  refine Mgo ok_X_keep 60 rfl ?_
  have hK := ans_nd hK
  refine ⟨_, _, _, L_needIx _ _ (fun hk => ?_) hK.2, by decide, by decide, by decide⟩
  have hK := hK.1 hk
  unfold xSet at hK
  refine ⟨fun q => ?_, fun q => ?_⟩
  · rw [if_pos q] at hK
    refine ⟨vp4 hk, _, _, _, L_order _ _ _ ?_, by decide, by decide, by decide⟩
    exact hK
  · rw [if_neg q] at hK
    refine ⟨vp4 hk, _, _, _, L_order _ _ _ ?_, by decide, by decide, by decide⟩
    exact hK
theorem L_keepRound {s : XS} {t : mH} (l k : Int32) (v : Int64) (hK : ans K t (xKeepR l k v s)) : M P n_X_keepRound [.ref 0, .int l, .int k, .long v] (hx s t) 1 6 8 K := by
  refine Mgo ok_X_keepRound 60 rfl ?_
  refine ⟨_, _, _, L_gone _ _ _ ?_, by decide, by decide, by decide⟩
  exact ⟨_, _, _, L_keep _ _ _ (am hK (fun _ _ e => e) (fun _ _ e => e)), by decide, by decide, by decide⟩
theorem L_keepExact {s : XS} {t : mH} (l k : Int32) (a b : Int64) (w : Int32) (hK : ans K t (xKeepE l k a b w s)) : M P n_X_keepExact [.ref 0, .int l, .int k, .long a, .long b, .int w] (hx s t) 1 6 8 K := by
  refine Mgo ok_X_keepExact 60 rfl ?_
  unfold xKeepE at hK
  refine ⟨_, _, _, L_isExact _ _ _ _ _ ?_, by decide, by decide, by decide⟩
  refine ⟨fun q => ?_, fun q => ?_⟩
  · rw [if_pos q] at hK
    exact ⟨_, _, _, L_refuse (am hK (fun _ _ e => e) (fun _ _ e => e)), by decide, by decide, by decide⟩
  · rw [if_neg q] at hK
    refine ⟨_, _, _, L_joined _ _ _ _ ?_, by decide, by decide, by decide⟩
    exact ⟨_, _, _, L_keep _ _ _ (am hK (fun _ _ e => e) (fun _ _ e => e)), by decide, by decide, by decide⟩
theorem L_keepFloor {s : XS} {t : mH} (l k : Int32) (d : Int64) (r : Int32) (hK : ans K t (xKeepF l k d r s)) : M P n_X_keepFloor [.ref 0, .int l, .int k, .long d, .int r] (hx s t) 2 12 9 K := by
  refine Mgo ok_X_keepFloor 60 rfl ?_
  have hK := ans_nd hK
  refine ⟨_, _, _, L_num _ _ (fun hk => ?_) hK.2, by decide, by decide, by decide⟩
  have hK := hK.1 hk
  refine ⟨fun q => ?_, fun q => ?_⟩
  · rw [if_pos q] at hK
    exact ⟨_, _, _, L_refuse (am hK (fun _ _ e => e) (fun _ _ e => e)), by decide, by decide, by decide⟩
  · rw [if_neg q] at hK
    refine ⟨fun q2 => ?_, fun q2 => ?_⟩
    · rw [if_pos q2] at hK
      refine ⟨_, _, _, L_floorOf _ _ _ ?_, by decide, by decide, by decide⟩
      exact ⟨_, _, _, L_keepRound _ _ _ (am hK (fun _ _ e => e) (fun _ _ e => e)), by decide, by decide, by decide⟩
    · rw [if_neg q2] at hK
      refine ⟨_, _, _, L_restOf _ _ _ ?_, by decide, by decide, by decide⟩
      exact ⟨_, _, _, L_keepRound _ _ _ (am hK (fun _ _ e => e) (fun _ _ e => e)), by decide, by decide, by decide⟩
theorem L_keepResidue {s : XS} {t : mH} (r k : Int32) (v : Int64) (hK : ans K t (xKeepM r k v s)) : M P n_X_keepResidue [.ref 0, .int r, .int k, .long v] (hx s t) 2 12 8 K := by
  refine Mgo ok_X_keepResidue 60 rfl ?_
  have hK := ans_nd hK
  refine ⟨_, _, _, L_modAt _ (fun hr => ?_) hK.2, by decide, by decide, by decide⟩
  have hK := hK.1 hr
  refine ⟨_, _, _, L_residueOf _ _ _ ?_, by decide, by decide, by decide⟩
  have hK := ans_nd hK
  refine ⟨_, _, _, L_needIx _ _ (fun hk => ?_) hK.2, by decide, by decide, by decide⟩
  have hK := hK.1 hk
  exact ⟨vp12 hr hk, hK⟩
theorem L_keepResidue0 {s : XS} {t : mH} (r k : Int32) (v : Int64) (hr : ok3 r) (hk : ok4 k) (hK : K (.inl (some (.int (rRes v (xMod r s))))) (hx (xSetR r k (rRes v (xMod r s)) s) t)) : M P n_X_keepResidue [.ref 0, .int r, .int k, .long v] (hx s t) 0 0 8 K := by
  refine Mgo ok_X_keepResidue 60 rfl ?_
  refine ⟨_, _, _, L_modulusAt _ hr ?_, by decide, by decide, by decide⟩
  refine ⟨_, _, _, L_residueOf _ _ _ ?_, by decide, by decide, by decide⟩
  refine ⟨_, _, _, L_needIndex _ _ hk.1 hk.2 ?_, by decide, by decide, by decide⟩
  exact ⟨vp12 hr hk, hK⟩
theorem L_keep0 {s : XS} {t : mH} (l k : Int32) (v : Int64) (hk : ok4 k) (hK : K (.inl (some (.int (wOrder v 0)))) (hx (xSet l k v s) t)) : M P n_X_keep [.ref 0, .int l, .int k, .long v] (hx s t) 0 0 7 K := by
  refine Mgo ok_X_keep 60 rfl ?_
  refine ⟨_, _, _, L_needIndex _ _ hk.1 hk.2 ?_, by decide, by decide, by decide⟩
  unfold xSet at hK
  refine ⟨fun q => ?_, fun q => ?_⟩
  · rw [if_pos q] at hK
    refine ⟨vp4 hk, _, _, _, L_order _ _ _ ?_, by decide, by decide, by decide⟩
    exact hK
  · rw [if_neg q] at hK
    refine ⟨vp4 hk, _, _, _, L_order _ _ _ ?_, by decide, by decide, by decide⟩
    exact hK
end CLS
end
section
/-! THE CLASS: what is asked of it from outside -/
def xPut (l k hi lo : Int32) (s : XS) : Out := xKeep l k (if l = 0 then lo.toInt64 else (hi.toInt64 <<< sh32 ||| (lo.toInt64 &&& 4294967295))) s
def xCopy (l k f : Int32) (s : XS) : Out := nd (ok4 f) 0 s (xKeep l k (xNum l f s) s)
def xWiden (k f : Int32) (s : XS) : Out := nd (ok4 f) 0 s (xKeep 1 k (xNum 0 f s) s)
def xNarrow (k f : Int32) (s : XS) : Out := nd (ok4 k) 0 s (nd (ok4 f) 0 s (if wWithin 0 (xNum 1 f s) = 0 then xRefuse s else xKeep 0 k (xNum 1 f s) s))
def xExact (l k f w : Int32) (s : XS) : Out := nd (ok4 k) 0 s (nd (ok4 f) 0 s (nd (okC w 2) 1 s (xKeepE l k (xNum l k s) (xNum l f s) w s)))
def xFits (l k f w : Int32) (s : XS) : Out := nd (ok4 k) 0 s (nd (ok4 f) 0 s (nd (okC w 2) 1 s (.inl (wExact l (xNum l k s) (xNum l f s) w), s)))
def xAlone (l k w : Int32) (s : XS) : Out := nd (ok4 k) 0 s (nd (okC w 2) 1 s (if w = 2 then xKeepE l k 0 (xNum l k s) 1 s else xKeepE l k (xNum l k s) 1 (if w = 0 then 0 else 1) s))
def xAbs (l k : Int32) (s : XS) : Out := nd (ok4 k) 0 s (xKeepR l k (lAbs (xNum l k s)) s)
def xRound (l k f w : Int32) (s : XS) : Out := nd (ok4 k) 0 s (nd (ok4 f) 0 s (nd (okC w 2) 1 s (xKeepR l k (wJoin (xNum l k s) (xNum l f s) w) s)))
def xExtreme (l k f g : Int32) (s : XS) : Out := nd (ok4 k) 0 s (nd (ok4 f) 0 s (if g = 0 then (.inl (if lMin (xNum l k s) (xNum l f s) = xNum l k s then 0 else 1), xSet l k (lMin (xNum l k s) (xNum l f s)) s) else (.inl (if lMax (xNum l k s) (xNum l f s) = xNum l k s then 0 else 1), xSet l k (lMax (xNum l k s) (xNum l f s)) s)))
def xAverage (l k f u : Int32) (s : XS) : Out := nd (ok4 k) 0 s (nd (ok4 f) 0 s (xKeep l k (wAvg (xNum l k s) (xNum l f s) u) s))
def xHigh (k a b : Int32) (s : XS) : Out := nd (ok4 a) 0 s (nd (ok4 b) 0 s (xKeep 1 k (wUpper 1 (xNum 1 a s) (xNum 1 b s)) s))
def xFull (k a b : Int32) (s : XS) : Out := nd (ok4 a) 0 s (nd (ok4 b) 0 s (xKeep 1 k (xNum 0 a s * xNum 0 b s) s))
def xTimesInt (k f : Int32) (s : XS) : Out := nd (ok4 k) 0 s (nd (ok4 f) 0 s (xKeepE 1 k (xNum 1 k s) (xNum 0 f s) 2 s))
def xAtOnce (k a b c : Int32) (s : XS) : Out := nd (ok4 k) 0 s (nd (okV a b c) 1 s (if wExact 1 (a.toInt64 * b.toInt64) c.toInt64 2 = 0 then xRefuse s else xKeep 1 k (wFloor (xNum 1 k s) (a.toInt64 * b.toInt64 * c.toInt64)) s))
def xChain (k a b c : Int32) (s : XS) : Out := nd (ok4 k) 0 s (nd (okV a b c) 1 s (xKeep 1 k (wChain (xNum 1 k s) a b c) s))
def xFloor (l k f r : Int32) (s : XS) : Out := nd (ok4 f) 0 s (xKeepF l k (xNum l f s) r s)
def xFloorInt (k f r : Int32) (s : XS) : Out := nd (ok4 f) 0 s (xKeepF 1 k (xNum 0 f s) r s)
def xTowards (l k f r : Int32) (s : XS) : Out := nd (ok4 k) 0 s (nd (ok4 f) 0 s (if xNum l f s = 0 then xRefuse s else xKeepR l k (if r = 0 then wQuot (xNum l k s) (xNum l f s) else wRestT (xNum l k s) (xNum l f s)) s))
def xRest (l k m : Int32) (s : XS) : Out := nd (ok4 k) 0 s (nd (¬ m = 0) 1 s (.inl (rRes (xNum l k s) m), s))
def xBring (r k l f : Int32) (s : XS) : Out := nd (ok4 f) 0 s (xKeepM r k (xNum l f s) s)
def xLift (r i l k : Int32) (s : XS) : Out := nd (ok3 r ∧ ok4 i) 0 s (xKeep l k (xRes r i s).toInt64 s)
def xPlus (r k f m : Int32) (s : XS) : Out := nd (ok3 r ∧ ok4 k) 0 s (nd (ok3 r ∧ ok4 f) 0 s (xKeepM r k (if m = 0 then (xRes r k s).toInt64 + (xRes r f s).toInt64 else (xRes r k s).toInt64 - (xRes r f s).toInt64) s))
def xTimes (r k f : Int32) (s : XS) : Out := nd (ok3 r ∧ ok4 k) 0 s (nd (ok3 r ∧ ok4 f) 0 s (xKeepM r k ((xRes r k s).toInt64 * (xRes r f s).toInt64) s))
def xPower (r k e : Int32) (s : XS) : Out := nd (ok3 r ∧ ok4 k) 0 s (nd (¬ e < 0) 1 s (xKeepM r k (rRaise (xRes r k s) e (xMod r s)).toInt64 s))
def xInverse (r k : Int32) (s : XS) : Out := nd (ok3 r ∧ ok4 k) 0 s (if rHas (xRes r k s) (xMod r s) = 0 then xRefuse s else (.inl 1, xSetR r k (rRes (rInverse (xRes r k s) (xMod r s)).toInt64 (xMod r s)) s))
def xResidue (r k : Int32) (s : XS) : Out := nd (ok3 r ∧ ok4 k) 0 s (.inl (xRes r k s), s)
def xSetM (r m : Int32) (s : XS) : XS := (s.1, s.2.1, upd (xM s) r.toNatClampNeg m, s.2.2.2)
def xRing1 (r k : Int32) (s : XS) : XS := xSetR r k (rRes (xRes r k s).toInt64 (xMod r s)) s
def rgL (r : Int32) : Nat → Int32 → XS → XS
  | 0, _, s => s
  | n + 1, i, s => rgL r n (i + 1) (xRing1 r i s)
def xModulus (r m : Int32) (s : XS) : Out := nd (ok3 r) 0 s (nd (¬ m = 0) 1 s (.inl (xMod r s), rgL r 4 0 (xSetM r m s)))
def xTogether (k r a q b : Int32) (s : XS) : Out := nd (ok4 k) 0 s (nd (ok3 r ∧ ok4 a) 0 s (nd (ok3 q ∧ ok4 b) 0 s (if rMeet (xRes r a s) (xMod r s) (xRes q b s) (xMod q s) = -1 then xRefuse s else xKeep 1 k (rMeet (xRes r a s) (xMod r s) (xRes q b s) (xMod q s)) s)))
def xAlike (r l a b : Int32) (s : XS) : Out := nd (ok3 r) 0 s (nd (ok4 a) 0 s (nd (ok4 b) 0 s (.inl (if wRest (xNum l a s) (xMod r s).toInt64 = wRest (xNum l b s) (xMod r s).toInt64 then 1 else 0), s)))
def xUnit (r k : Int32) (s : XS) : Out := nd (ok3 r ∧ ok4 k) 0 s (.inl (rHas (xRes r k s) (xMod r s)), s)
def xKnock (s : XS) : Out := (.inl (xK s + 1), (s.1, s.2.1, s.2.2.1, s.2.2.2.1, xF s, xK s + 1))
theorem nb {x : Int32} (h : x = 0 ∨ x = 1) : narrow .boolean (.int x) = .int x := by
  rcases h with rfl | rfl <;> rfl
theorem b_exact (l : Int32) (a b : Int64) (w : Int32) : wExact l a b w = 0 ∨ wExact l a b w = 1 := by
  unfold wExact
  by_cases q : wTrue a b w (wJoin a b w) = 0
  · rw [if_pos q]
    exact Or.inl rfl
  · rw [if_neg q]
    by_cases q2 : wWithin l (wJoin a b w) = 0
    · rw [if_pos q2]
      exact Or.inl rfl
    · rw [if_neg q2]
      exact Or.inr rfl
theorem b_has (r m : Int32) : rHas r m = 0 ∨ rHas r m = 1 := by
  unfold rHas
  by_cases q : rInv r.toInt64 (rSize m) = -1
  · rw [if_pos q]
    exact Or.inl rfl
  · rw [if_neg q]
    exact Or.inr rfl
section CLSP
variable {P : GP} {K : Kt} {s : XS} {t : mH}
theorem L_put (l k hi lo : Int32) (hK : ans K t (xPut l k hi lo s)) : M P n_X_put [.ref 0, .int l, .int k, .int hi, .int lo] (hx s t) 10 60 10 K := by
  refine Mgo ok_X_put 60 rfl ?_
  unfold xPut at hK
  refine ⟨fun q => ?_, fun q => ?_⟩
  · rw [if_pos q] at hK
    exact ⟨_, _, _, L_keep _ _ _ (am hK (fun _ _ e => e) (fun _ _ e => e)), by decide, by decide, by decide⟩
  · rw [if_neg q] at hK
    exact ⟨_, _, _, L_keep _ _ _ (am hK (fun _ _ e => e) (fun _ _ e => e)), by decide, by decide, by decide⟩
theorem L_copy (l k f : Int32) (hK : ans K t (xCopy l k f s)) : M P n_X_copy [.ref 0, .int l, .int k, .int f] (hx s t) 10 60 10 K := by
  refine Mgo ok_X_copy 60 rfl ?_
  have hK := ans_nd hK
  refine ⟨_, _, _, L_num _ _ (fun h1 => ?_) hK.2, by decide, by decide, by decide⟩
  have hK := hK.1 h1
  exact ⟨_, _, _, L_keep _ _ _ (am hK (fun _ _ e => e) (fun _ _ e => e)), by decide, by decide, by decide⟩
theorem L_widen (k f : Int32) (hK : ans K t (xWiden k f s)) : M P n_X_widen [.ref 0, .int k, .int f] (hx s t) 10 60 10 K := by
  refine Mgo ok_X_widen 60 rfl ?_
  have hK := ans_nd hK
  refine ⟨_, _, _, L_num _ _ (fun h1 => ?_) hK.2, by decide, by decide, by decide⟩
  have hK := hK.1 h1
  exact ⟨_, _, _, L_keep _ _ _ (am hK (fun _ _ e => e) (fun _ _ e => e)), by decide, by decide, by decide⟩
theorem L_narrow (k f : Int32) (hK : ans K t (xNarrow k f s)) : M P n_X_narrow [.ref 0, .int k, .int f] (hx s t) 10 60 10 K := by
  refine Mgo ok_X_narrow 60 rfl ?_
  have hK := ans_nd hK
  refine ⟨_, _, _, L_needIx _ _ (fun h1 => ?_) hK.2, by decide, by decide, by decide⟩
  have hK := hK.1 h1
  have hK := ans_nd hK
  refine ⟨_, _, _, L_num _ _ (fun h2 => ?_) hK.2, by decide, by decide, by decide⟩
  have hK := hK.1 h2
  refine ⟨_, _, _, L_within _ _ _ ?_, by decide, by decide, by decide⟩
  refine ⟨fun q => ?_, fun q => ?_⟩
  · rw [if_pos q] at hK
    exact ⟨_, _, _, L_refuse (am hK (fun _ _ e => e) (fun _ _ e => e)), by decide, by decide, by decide⟩
  · rw [if_neg q] at hK
    exact ⟨_, _, _, L_keep _ _ _ (am hK (fun _ _ e => e) (fun _ _ e => e)), by decide, by decide, by decide⟩
theorem L_exact (l k f w : Int32) (hK : ans K t (xExact l k f w s)) : M P n_X_exact [.ref 0, .int l, .int k, .int f, .int w] (hx s t) 10 60 10 K := by
  refine Mgo ok_X_exact 60 rfl ?_
  have hK := ans_nd hK
  refine ⟨_, _, _, L_num _ _ (fun h1 => ?_) hK.2, by decide, by decide, by decide⟩
  have hK := hK.1 h1
  have hK := ans_nd hK
  refine ⟨_, _, _, L_num _ _ (fun h2 => ?_) hK.2, by decide, by decide, by decide⟩
  have hK := hK.1 h2
  have hK := ans_nd hK
  refine ⟨_, _, _, L_needChoice _ _ (fun h3 => ?_) hK.2, by decide, by decide, by decide⟩
  have hK := hK.1 h3
  exact ⟨_, _, _, L_keepExact _ _ _ _ _ (am hK (fun _ _ e => e) (fun _ _ e => e)), by decide, by decide, by decide⟩
theorem L_fits (l k f w : Int32) (hK : ans K t (xFits l k f w s)) : M P n_X_fits [.ref 0, .int l, .int k, .int f, .int w] (hx s t) 10 60 10 K := by
  refine Mgo ok_X_fits 60 rfl ?_
  have hK := ans_nd hK
  refine ⟨_, _, _, L_num _ _ (fun h1 => ?_) hK.2, by decide, by decide, by decide⟩
  have hK := hK.1 h1
  have hK := ans_nd hK
  refine ⟨_, _, _, L_num _ _ (fun h2 => ?_) hK.2, by decide, by decide, by decide⟩
  have hK := hK.1 h2
  have hK := ans_nd hK
  refine ⟨_, _, _, L_needChoice _ _ (fun h3 => ?_) hK.2, by decide, by decide, by decide⟩
  have hK := hK.1 h3
  refine ⟨_, _, _, L_isExact _ _ _ _ _ ?_, by decide, by decide, by decide⟩
  exact ⟨nb (b_exact _ _ _ _), hK⟩
theorem L_alone (l k w : Int32) (hK : ans K t (xAlone l k w s)) : M P n_X_alone [.ref 0, .int l, .int k, .int w] (hx s t) 10 60 10 K := by
  refine Mgo ok_X_alone 60 rfl ?_
  have hK := ans_nd hK
  refine ⟨_, _, _, L_num _ _ (fun h1 => ?_) hK.2, by decide, by decide, by decide⟩
  have hK := hK.1 h1
  have hK := ans_nd hK
  refine ⟨_, _, _, L_needChoice _ _ (fun h3 => ?_) hK.2, by decide, by decide, by decide⟩
  have hK := hK.1 h3
  refine ⟨fun q => ?_, fun q => ?_⟩
  · rw [if_pos q] at hK
    exact ⟨_, _, _, L_keepExact _ _ _ _ _ (am hK (fun _ _ e => e) (fun _ _ e => e)), by decide, by decide, by decide⟩
  · rw [if_neg q] at hK
    refine ⟨fun q2 => ?_, fun q2 => ?_⟩
    · rw [if_pos q2] at hK
      exact ⟨_, _, _, L_keepExact _ _ _ _ _ (am hK (fun _ _ e => e) (fun _ _ e => e)), by decide, by decide, by decide⟩
    · rw [if_neg q2] at hK
      exact ⟨_, _, _, L_keepExact _ _ _ _ _ (am hK (fun _ _ e => e) (fun _ _ e => e)), by decide, by decide, by decide⟩
theorem L_abs (l k : Int32) (hK : ans K t (xAbs l k s)) : M P n_X_abs [.ref 0, .int l, .int k] (hx s t) 10 60 10 K := by
  refine Mgo ok_X_abs 60 rfl ?_
  have hK := ans_nd hK
  refine ⟨_, _, _, L_num _ _ (fun h1 => ?_) hK.2, by decide, by decide, by decide⟩
  have hK := hK.1 h1
  unfold lAbs at hK
  refine ⟨fun q => ?_, fun q => ?_⟩
  · rw [if_pos q] at hK
    exact ⟨_, _, _, L_keepRound _ _ _ (am hK (fun _ _ e => e) (fun _ _ e => e)), by decide, by decide, by decide⟩
  · rw [if_neg q] at hK
    exact ⟨_, _, _, L_keepRound _ _ _ (am hK (fun _ _ e => e) (fun _ _ e => e)), by decide, by decide, by decide⟩
theorem L_round (l k f w : Int32) (hK : ans K t (xRound l k f w s)) : M P n_X_round [.ref 0, .int l, .int k, .int f, .int w] (hx s t) 10 60 10 K := by
  refine Mgo ok_X_round 60 rfl ?_
  have hK := ans_nd hK
  refine ⟨_, _, _, L_num _ _ (fun h1 => ?_) hK.2, by decide, by decide, by decide⟩
  have hK := hK.1 h1
  have hK := ans_nd hK
  refine ⟨_, _, _, L_num _ _ (fun h2 => ?_) hK.2, by decide, by decide, by decide⟩
  have hK := hK.1 h2
  have hK := ans_nd hK
  refine ⟨_, _, _, L_needChoice _ _ (fun h3 => ?_) hK.2, by decide, by decide, by decide⟩
  have hK := hK.1 h3
  refine ⟨_, _, _, L_joined _ _ _ _ ?_, by decide, by decide, by decide⟩
  exact ⟨_, _, _, L_keepRound _ _ _ (am hK (fun _ _ e => e) (fun _ _ e => e)), by decide, by decide, by decide⟩
theorem L_extreme (l k f g : Int32) (hK : ans K t (xExtreme l k f g s)) : M P n_X_extreme [.ref 0, .int l, .int k, .int f, .int g] (hx s t) 10 60 10 K := by
  refine Mgo ok_X_extreme 60 rfl ?_
  have hK := ans_nd hK
  refine ⟨_, _, _, L_num _ _ (fun h1 => ?_) hK.2, by decide, by decide, by decide⟩
  have hK := hK.1 h1
  have hK := ans_nd hK
  refine ⟨_, _, _, L_num _ _ (fun h2 => ?_) hK.2, by decide, by decide, by decide⟩
  have hK := hK.1 h2
  refine ⟨fun q => ?_, fun q => ?_⟩
  · rw [if_pos q] at hK
    refine ⟨_, _, _, L_minJ _ _ _ ?_, by decide, by decide, by decide⟩
    refine ⟨_, _, _, L_keep0 _ _ _ h1 ?_, by decide, by decide, by decide⟩
    refine ⟨fun q2 => ?_, fun q2 => ?_⟩
    · rw [if_pos q2] at hK
      exact hK
    · rw [if_neg q2] at hK
      exact hK
  · rw [if_neg q] at hK
    refine ⟨_, _, _, L_maxJ _ _ _ ?_, by decide, by decide, by decide⟩
    refine ⟨_, _, _, L_keep0 _ _ _ h1 ?_, by decide, by decide, by decide⟩
    refine ⟨fun q2 => ?_, fun q2 => ?_⟩
    · rw [if_pos q2] at hK
      exact hK
    · rw [if_neg q2] at hK
      exact hK
theorem L_average (l k f u : Int32) (hK : ans K t (xAverage l k f u s)) : M P n_X_average [.ref 0, .int l, .int k, .int f, .int u] (hx s t) 10 60 10 K := by
  refine Mgo ok_X_average 60 rfl ?_
  have hK := ans_nd hK
  refine ⟨_, _, _, L_num _ _ (fun h1 => ?_) hK.2, by decide, by decide, by decide⟩
  have hK := hK.1 h1
  have hK := ans_nd hK
  refine ⟨_, _, _, L_num _ _ (fun h2 => ?_) hK.2, by decide, by decide, by decide⟩
  have hK := hK.1 h2
  refine ⟨_, _, _, L_avg _ _ _ _ ?_, by decide, by decide, by decide⟩
  exact ⟨_, _, _, L_keep _ _ _ (am hK (fun _ _ e => e) (fun _ _ e => e)), by decide, by decide, by decide⟩
theorem L_high (k a b : Int32) (hK : ans K t (xHigh k a b s)) : M P n_X_high [.ref 0, .int k, .int a, .int b] (hx s t) 10 60 10 K := by
  refine Mgo ok_X_high 60 rfl ?_
  have hK := ans_nd hK
  refine ⟨_, _, _, L_num _ _ (fun h1 => ?_) hK.2, by decide, by decide, by decide⟩
  have hK := hK.1 h1
  have hK := ans_nd hK
  refine ⟨_, _, _, L_num _ _ (fun h2 => ?_) hK.2, by decide, by decide, by decide⟩
  have hK := hK.1 h2
  refine ⟨_, _, _, L_upper _ _ _ _ ?_, by decide, by decide, by decide⟩
  exact ⟨_, _, _, L_keep _ _ _ (am hK (fun _ _ e => e) (fun _ _ e => e)), by decide, by decide, by decide⟩
theorem L_full (k a b : Int32) (hK : ans K t (xFull k a b s)) : M P n_X_full [.ref 0, .int k, .int a, .int b] (hx s t) 10 60 10 K := by
  refine Mgo ok_X_full 60 rfl ?_
  have hK := ans_nd hK
  refine ⟨_, _, _, L_num _ _ (fun h1 => ?_) hK.2, by decide, by decide, by decide⟩
  have hK := hK.1 h1
  have hK := ans_nd hK
  refine ⟨_, _, _, L_num _ _ (fun h2 => ?_) hK.2, by decide, by decide, by decide⟩
  have hK := hK.1 h2
  exact ⟨_, _, _, L_keep _ _ _ (am hK (fun _ _ e => e) (fun _ _ e => e)), by decide, by decide, by decide⟩
theorem L_timesInt (k f : Int32) (hK : ans K t (xTimesInt k f s)) : M P n_X_timesInt [.ref 0, .int k, .int f] (hx s t) 10 60 10 K := by
  refine Mgo ok_X_timesInt 60 rfl ?_
  have hK := ans_nd hK
  refine ⟨_, _, _, L_num _ _ (fun h1 => ?_) hK.2, by decide, by decide, by decide⟩
  have hK := hK.1 h1
  have hK := ans_nd hK
  refine ⟨_, _, _, L_num _ _ (fun h2 => ?_) hK.2, by decide, by decide, by decide⟩
  have hK := hK.1 h2
  exact ⟨_, _, _, L_keepExact _ _ _ _ _ (am hK (fun _ _ e => e) (fun _ _ e => e)), by decide, by decide, by decide⟩
theorem L_atOnce (k a b c : Int32) (hK : ans K t (xAtOnce k a b c s)) : M P n_X_atOnce [.ref 0, .int k, .int a, .int b, .int c] (hx s t) 10 60 10 K := by
  refine Mgo ok_X_atOnce 60 rfl ?_
  have hK := ans_nd hK
  refine ⟨_, _, _, L_num _ _ (fun h1 => ?_) hK.2, by decide, by decide, by decide⟩
  have hK := hK.1 h1
  have hK := ans_nd hK
  refine ⟨_, _, _, L_needDivisors _ _ _ (fun h2 => ?_) hK.2, by decide, by decide, by decide⟩
  have hK := hK.1 h2
  refine ⟨_, _, _, L_isExact _ _ _ _ _ ?_, by decide, by decide, by decide⟩
  refine ⟨fun q => ?_, fun q => ?_⟩
  · rw [if_pos q] at hK
    exact ⟨_, _, _, L_refuse (am hK (fun _ _ e => e) (fun _ _ e => e)), by decide, by decide, by decide⟩
  · rw [if_neg q] at hK
    refine ⟨_, _, _, L_floorOf _ _ _ ?_, by decide, by decide, by decide⟩
    exact ⟨_, _, _, L_keep _ _ _ (am hK (fun _ _ e => e) (fun _ _ e => e)), by decide, by decide, by decide⟩
theorem L_chain (k a b c : Int32) (hK : ans K t (xChain k a b c s)) : M P n_X_chain [.ref 0, .int k, .int a, .int b, .int c] (hx s t) 10 60 10 K := by
  refine Mgo ok_X_chain 60 rfl ?_
  have hK := ans_nd hK
  refine ⟨_, _, _, L_num _ _ (fun h1 => ?_) hK.2, by decide, by decide, by decide⟩
  have hK := hK.1 h1
  have hK := ans_nd hK
  refine ⟨_, _, _, L_needDivisors _ _ _ (fun h2 => ?_) hK.2, by decide, by decide, by decide⟩
  have hK := hK.1 h2
  refine ⟨_, _, _, L_chained _ _ _ _ _ ?_, by decide, by decide, by decide⟩
  exact ⟨_, _, _, L_keep _ _ _ (am hK (fun _ _ e => e) (fun _ _ e => e)), by decide, by decide, by decide⟩
theorem L_floor (l k f r : Int32) (hK : ans K t (xFloor l k f r s)) : M P n_X_floor [.ref 0, .int l, .int k, .int f, .int r] (hx s t) 10 60 10 K := by
  refine Mgo ok_X_floor 60 rfl ?_
  have hK := ans_nd hK
  refine ⟨_, _, _, L_num _ _ (fun h1 => ?_) hK.2, by decide, by decide, by decide⟩
  have hK := hK.1 h1
  exact ⟨_, _, _, L_keepFloor _ _ _ _ (am hK (fun _ _ e => e) (fun _ _ e => e)), by decide, by decide, by decide⟩
theorem L_floorInt (k f r : Int32) (hK : ans K t (xFloorInt k f r s)) : M P n_X_floorInt [.ref 0, .int k, .int f, .int r] (hx s t) 10 60 10 K := by
  refine Mgo ok_X_floorInt 60 rfl ?_
  have hK := ans_nd hK
  refine ⟨_, _, _, L_num _ _ (fun h1 => ?_) hK.2, by decide, by decide, by decide⟩
  have hK := hK.1 h1
  exact ⟨_, _, _, L_keepFloor _ _ _ _ (am hK (fun _ _ e => e) (fun _ _ e => e)), by decide, by decide, by decide⟩
theorem L_towards (l k f r : Int32) (hK : ans K t (xTowards l k f r s)) : M P n_X_towards [.ref 0, .int l, .int k, .int f, .int r] (hx s t) 10 60 10 K := by
  refine Mgo ok_X_towards 60 rfl ?_
  have hK := ans_nd hK
  refine ⟨_, _, _, L_num _ _ (fun h1 => ?_) hK.2, by decide, by decide, by decide⟩
  have hK := hK.1 h1
  have hK := ans_nd hK
  refine ⟨_, _, _, L_num _ _ (fun h2 => ?_) hK.2, by decide, by decide, by decide⟩
  have hK := hK.1 h2
  refine ⟨fun q => ?_, fun q => ?_⟩
  · rw [if_pos q] at hK
    exact ⟨_, _, _, L_refuse (am hK (fun _ _ e => e) (fun _ _ e => e)), by decide, by decide, by decide⟩
  · rw [if_neg q] at hK
    refine ⟨fun q2 => ?_, fun q2 => ?_⟩
    · rw [if_pos q2] at hK
      refine ⟨_, _, _, L_quotT _ _ _ ?_, by decide, by decide, by decide⟩
      exact ⟨_, _, _, L_keepRound _ _ _ (am hK (fun _ _ e => e) (fun _ _ e => e)), by decide, by decide, by decide⟩
    · rw [if_neg q2] at hK
      refine ⟨_, _, _, L_restT _ _ _ ?_, by decide, by decide, by decide⟩
      exact ⟨_, _, _, L_keepRound _ _ _ (am hK (fun _ _ e => e) (fun _ _ e => e)), by decide, by decide, by decide⟩
theorem L_rest (l k m : Int32) (hK : ans K t (xRest l k m s)) : M P n_X_rest [.ref 0, .int l, .int k, .int m] (hx s t) 10 60 10 K := by
  refine Mgo ok_X_rest 60 rfl ?_
  have hK := ans_nd hK
  refine ⟨_, _, _, L_num _ _ (fun h1 => ?_) hK.2, by decide, by decide, by decide⟩
  have hK := hK.1 h1
  have hK := ans_nd hK
  refine ⟨_, _, _, L_needNotZero _ (fun h2 => ?_) hK.2, by decide, by decide, by decide⟩
  have hK := hK.1 h2
  refine ⟨_, _, _, L_restOf _ _ _ ?_, by decide, by decide, by decide⟩
  exact hK
theorem L_bring (r k l f : Int32) (hK : ans K t (xBring r k l f s)) : M P n_X_bring [.ref 0, .int r, .int k, .int l, .int f] (hx s t) 10 60 10 K := by
  refine Mgo ok_X_bring 60 rfl ?_
  have hK := ans_nd hK
  refine ⟨_, _, _, L_num _ _ (fun h1 => ?_) hK.2, by decide, by decide, by decide⟩
  have hK := hK.1 h1
  exact ⟨_, _, _, L_keepResidue _ _ _ (am hK (fun _ _ e => e) (fun _ _ e => e)), by decide, by decide, by decide⟩
theorem L_lift (r i l k : Int32) (hK : ans K t (xLift r i l k s)) : M P n_X_lift [.ref 0, .int r, .int i, .int l, .int k] (hx s t) 10 60 10 K := by
  refine Mgo ok_X_lift 60 rfl ?_
  have hK := ans_nd hK
  refine ⟨_, _, _, L_resAt _ _ (fun h1 => ?_) hK.2, by decide, by decide, by decide⟩
  have hK := hK.1 h1
  exact ⟨_, _, _, L_keep _ _ _ (am hK (fun _ _ e => e) (fun _ _ e => e)), by decide, by decide, by decide⟩
theorem L_plus (r k f m : Int32) (hK : ans K t (xPlus r k f m s)) : M P n_X_plus [.ref 0, .int r, .int k, .int f, .int m] (hx s t) 10 60 10 K := by
  refine Mgo ok_X_plus 60 rfl ?_
  have hK := ans_nd hK
  refine ⟨_, _, _, L_resAt _ _ (fun h1 => ?_) hK.2, by decide, by decide, by decide⟩
  have hK := hK.1 h1
  have hK := ans_nd hK
  refine ⟨_, _, _, L_resAt _ _ (fun h2 => ?_) hK.2, by decide, by decide, by decide⟩
  have hK := hK.1 h2
  refine ⟨fun q => ?_, fun q => ?_⟩
  · rw [if_pos q] at hK
    exact ⟨_, _, _, L_keepResidue _ _ _ (am hK (fun _ _ e => e) (fun _ _ e => e)), by decide, by decide, by decide⟩
  · rw [if_neg q] at hK
    exact ⟨_, _, _, L_keepResidue _ _ _ (am hK (fun _ _ e => e) (fun _ _ e => e)), by decide, by decide, by decide⟩
theorem L_times (r k f : Int32) (hK : ans K t (xTimes r k f s)) : M P n_X_times [.ref 0, .int r, .int k, .int f] (hx s t) 10 60 10 K := by
  refine Mgo ok_X_times 60 rfl ?_
  have hK := ans_nd hK
  refine ⟨_, _, _, L_resAt _ _ (fun h1 => ?_) hK.2, by decide, by decide, by decide⟩
  have hK := hK.1 h1
  have hK := ans_nd hK
  refine ⟨_, _, _, L_resAt _ _ (fun h2 => ?_) hK.2, by decide, by decide, by decide⟩
  have hK := hK.1 h2
  exact ⟨_, _, _, L_keepResidue _ _ _ (am hK (fun _ _ e => e) (fun _ _ e => e)), by decide, by decide, by decide⟩
theorem L_power (r k e : Int32) (hK : ans K t (xPower r k e s)) : M P n_X_power [.ref 0, .int r, .int k, .int e] (hx s t) 10 60 10 K := by
  refine Mgo ok_X_power 60 rfl ?_
  have hK := ans_nd hK
  refine ⟨_, _, _, L_resAt _ _ (fun h1 => ?_) hK.2, by decide, by decide, by decide⟩
  have hK := hK.1 h1
  have hK := ans_nd hK
  refine ⟨fun q => ?_, fun q => ?_⟩
  · exact ⟨by decide, hK.2 (fun e => e q)⟩
  · have hK := hK.1 q
    refine ⟨_, _, _, L_modulusAt _ h1.1 ?_, by decide, by decide, by decide⟩
    refine ⟨_, _, _, L_raised _ _ _ _ ?_, by decide, by decide, by decide⟩
    exact ⟨_, _, _, L_keepResidue _ _ _ (am hK (fun _ _ e => e) (fun _ _ e => e)), by decide, by decide, by decide⟩
theorem L_inverse (r k : Int32) (hK : ans K t (xInverse r k s)) : M P n_X_inverse [.ref 0, .int r, .int k] (hx s t) 10 60 10 K := by
  refine Mgo ok_X_inverse 60 rfl ?_
  have hK := ans_nd hK
  refine ⟨_, _, _, L_resAt _ _ (fun h1 => ?_) hK.2, by decide, by decide, by decide⟩
  have hK := hK.1 h1
  refine ⟨_, _, _, L_modulusAt _ h1.1 ?_, by decide, by decide, by decide⟩
  refine ⟨_, _, _, L_hasInverse _ _ _ ?_, by decide, by decide, by decide⟩
  refine ⟨fun q => ?_, fun q => ?_⟩
  · rw [if_pos q] at hK
    exact ⟨_, _, _, L_refuse (am hK (fun _ _ e => e) (fun _ _ e => e)), by decide, by decide, by decide⟩
  · rw [if_neg q] at hK
    refine ⟨_, _, _, L_inverseOf _ _ _ ?_, by decide, by decide, by decide⟩
    refine ⟨_, _, _, L_keepResidue0 _ _ _ h1.1 h1.2 ?_, by decide, by decide, by decide⟩
    exact hK
theorem L_residue (r k : Int32) (hK : ans K t (xResidue r k s)) : M P n_X_residue [.ref 0, .int r, .int k] (hx s t) 10 60 10 K := by
  refine Mgo ok_X_residue 60 rfl ?_
  have hK := ans_nd hK
  refine ⟨_, _, _, L_resAt _ _ (fun h1 => ?_) hK.2, by decide, by decide, by decide⟩
  have hK := hK.1 h1
  exact hK
theorem L_together (k r a q b : Int32) (hK : ans K t (xTogether k r a q b s)) : M P n_X_together [.ref 0, .int k, .int r, .int a, .int q, .int b] (hx s t) 10 60 10 K := by
  refine Mgo ok_X_together 60 rfl ?_
  have hK := ans_nd hK
  refine ⟨_, _, _, L_needIx _ _ (fun h0 => ?_) hK.2, by decide, by decide, by decide⟩
  have hK := hK.1 h0
  have hK := ans_nd hK
  refine ⟨_, _, _, L_resAt _ _ (fun h1 => ?_) hK.2, by decide, by decide, by decide⟩
  have hK := hK.1 h1
  have hK := ans_nd hK
  refine ⟨_, _, _, L_resAt _ _ (fun h2 => ?_) hK.2, by decide, by decide, by decide⟩
  have hK := hK.1 h2
  refine ⟨_, _, _, L_modulusAt _ h1.1 ?_, by decide, by decide, by decide⟩
  refine ⟨_, _, _, L_modulusAt _ h2.1 ?_, by decide, by decide, by decide⟩
  refine ⟨_, _, _, L_meetingOf _ _ _ _ _ ?_, by decide, by decide, by decide⟩
  refine ⟨fun q3 => ?_, fun q3 => ?_⟩
  · rw [if_pos q3] at hK
    exact ⟨_, _, _, L_refuse (am hK (fun _ _ e => e) (fun _ _ e => e)), by decide, by decide, by decide⟩
  · rw [if_neg q3] at hK
    exact ⟨_, _, _, L_keep _ _ _ (am hK (fun _ _ e => e) (fun _ _ e => e)), by decide, by decide, by decide⟩
theorem L_alike (r l a b : Int32) (hK : ans K t (xAlike r l a b s)) : M P n_X_areAlike [.ref 0, .int r, .int l, .int a, .int b] (hx s t) 10 60 10 K := by
  refine Mgo ok_X_areAlike 60 rfl ?_
  have hK := ans_nd hK
  refine ⟨_, _, _, L_modAt _ (fun h0 => ?_) hK.2, by decide, by decide, by decide⟩
  have hK := hK.1 h0
  have hK := ans_nd hK
  refine ⟨_, _, _, L_num _ _ (fun h1 => ?_) hK.2, by decide, by decide, by decide⟩
  have hK := hK.1 h1
  have hK := ans_nd hK
  refine ⟨_, _, _, L_num _ _ (fun h2 => ?_) hK.2, by decide, by decide, by decide⟩
  have hK := hK.1 h2
  refine ⟨_, _, _, L_restOf _ _ _ ?_, by decide, by decide, by decide⟩
  refine ⟨_, _, _, L_restOf _ _ _ ?_, by decide, by decide, by decide⟩
  refine ⟨fun q => ?_, fun q => ?_⟩
  · rw [if_pos q] at hK
    exact ⟨rfl, hK⟩
  · rw [if_neg q] at hK
    exact ⟨rfl, hK⟩
theorem L_isUnit (r k : Int32) (hK : ans K t (xUnit r k s)) : M P n_X_isUnit [.ref 0, .int r, .int k] (hx s t) 10 60 10 K := by
  refine Mgo ok_X_isUnit 60 rfl ?_
  have hK := ans_nd hK
  refine ⟨_, _, _, L_resAt _ _ (fun h1 => ?_) hK.2, by decide, by decide, by decide⟩
  have hK := hK.1 h1
  refine ⟨_, _, _, L_modulusAt _ h1.1 ?_, by decide, by decide, by decide⟩
  refine ⟨_, _, _, L_hasInverse _ _ _ ?_, by decide, by decide, by decide⟩
  exact ⟨nb (b_has _ _), hK⟩
theorem L_isUnit0 (r k : Int32) (hr : ok3 r) (hk : ok4 k) (hK : K (.inl (some (.int (rHas (xRes r k s) (xMod r s))))) (hx s t)) : M P n_X_isUnit [.ref 0, .int r, .int k] (hx s t) 0 0 9 K := by
  refine Mgo ok_X_isUnit 60 rfl ?_
  refine ⟨_, _, _, L_residueAt _ _ hr hk ?_, by decide, by decide, by decide⟩
  refine ⟨_, _, _, L_modulusAt _ hr ?_, by decide, by decide, by decide⟩
  refine ⟨_, _, _, L_hasInverse _ _ _ ?_, by decide, by decide, by decide⟩
  exact ⟨nb (b_has _ _), hK⟩
theorem L_knock (hK : ans K t (xKnock s)) : M P n_X_knock [.ref 0] (hx s t) 10 60 10 K := by
  refine Mgo ok_X_knock 60 rfl ?_
  exact hK
theorem l_modulus {r m o : Int32} (hr : ok3 r) : ∀ (n : Nat) (i : Int32) (s : XS) (t : mH) (cb sb : Nat), 0 ≤ i.toInt → i.toInt + n = 4 → K (.inl (some (.int o))) (hx (rgL r n i s) t) →
    G P n_X_modulus K 10 20 [some (.ref 0), some (.int r), some (.int m), some (.int o), some (.int i)] [] (hx s t) cb sb
  | 0, i, s, t, cb, sb, h0, hb, hK => by
    refine go ok_X_modulus 80 ?_
    have hn := i32_nlt (m := 4) (by omega) 4 (by decide) (b := i)
    refine ⟨fun q => absurd q hn, fun q => ?_⟩
    exact hK
  | n + 1, i, s, t, cb, sb, h0, hb, hK => by
    refine go ok_X_modulus 80 ?_
    have hn := i32_lt (b := i) (n := n) (m := 4) (by omega) 4 (by decide)
    have hs := i32_s (b := i) (n := n) (m := 4) h0 (by omega) (by decide)
    have hz : (0 : Int32).toInt = 0 := by decide
    have hi : ok4 i := ⟨fun e => by rw [Int32.lt_iff_toInt_lt] at e; omega, hn⟩
    refine ⟨fun q => ?_, fun q => absurd hn q⟩
    refine ⟨_, _, _, L_residueAt _ _ hr hi ?_, Nat.zero_le _, Nat.zero_le _, by decide⟩
    refine ⟨_, _, _, L_keepResidue0 _ _ _ hr hi ?_, Nat.zero_le _, Nat.zero_le _, by decide⟩
    exact l_modulus hr n (i + 1) (xRing1 r i s) t _ _ (by omega) (by omega) hK
theorem L_modulus (r m : Int32) (hK : ans K t (xModulus r m s)) : M P n_X_modulus [.ref 0, .int r, .int m] (hx s t) 10 60 10 K := by
  refine Mgo ok_X_modulus 60 rfl ?_
  have hK := ans_nd hK
  refine ⟨_, _, _, L_modAt _ (fun h1 => ?_) hK.2, by decide, by decide, by decide⟩
  have hK := hK.1 h1
  have hK := ans_nd hK
  refine ⟨_, _, _, L_needNotZero _ (fun h2 => ?_) hK.2, by decide, by decide, by decide⟩
  have hK := hK.1 h2
  refine ⟨vp3 h1, ?_⟩
  exact l_modulus (K := K) h1 4 0 (xSetM r m s) t _ _ (by decide) (by decide) hK
end CLSP
end
section
/-! THE CLASS: its house, its soundness, its digest -/
def xCompare (l k f : Int32) (s : XS) : Out := nd (ok4 k) 0 s (nd (ok4 f) 0 s (.inl (wOrder (xNum l k s) (xNum l f s)), s))
def cntL : Nat → Int32 → Int64 → Int32
  | 0, c, _ => c
  | n + 1, c, r => if r / 10 = 0 then c + 1 else if c + 1 < 20 then cntL n (c + 1) (r / 10) else c + 1
termination_by n => n
def dCount (v : Int64) : Int32 := if v < 0 then cntL 20 1 v else cntL 20 0 v
def xOf (l k w : Int32) (s : XS) : Int32 := if w = 0 then wOrder (xNum l k s) 0 else if w = 1 then (xNum l k s).toInt32 else if w = 2 then (xNum l k s >>> sh32).toInt32 else if w = 3 then wEdge l (xNum l k s) else dCount (xNum l k s)
def xOfNumber (l k w : Int32) (s : XS) : Out := nd (ok4 k) 0 s (nd (okC w 4) 1 s (.inl (xOf l k w s), s))
def zL (f : Nat → Int64) : Nat → Int32 → Int32 → Int32
  | 0, _, c => c
  | n + 1, i, c => zL f n (i + 1) (if f i.toNatClampNeg = 0 then c + 1 else c)
def uI (s : XS) (r : Int32) : Nat → Int32 → Int32 → Int32
  | 0, _, c => c
  | n + 1, i, c => uI s r n (i + 1) (if rHas (xRes r i s) (xMod r s) = 0 then c else c + 1)
def uO (s : XS) : Nat → Int32 → Int32 → Int32
  | 0, _, c => c
  | n + 1, r, c => uO s n (r + 1) (uI s r 4 0 c)
def xHs (w : Int32) (s : XS) : Int32 := if w = 0 then xF s else if w = 1 then xK s else if w = 2 then zL (xI s) 4 0 0 + zL (xL s) 4 0 0 else uO s 3 0 0
def xHouse (w : Int32) (s : XS) : Out := nd (okC w 3) 1 s (.inl (xHs w s), s)
section CLH
variable {P : GP} {K : Kt} {s : XS} {t : mH}
theorem L_needChoice0 (i c : Int32) {h : mH} (hi : okC i c) (hK : K (.inl none) h) : M P n_X_needChoice [.int i, .int c] h 0 0 6 K := by
  refine Mgo ok_X_needChoice 60 rfl ?_
  refine ⟨fun q => absurd q hi.1, fun q => ?_⟩
  exact ⟨fun q2 => absurd q2 hi.2, fun _ => hK⟩
theorem L_compare (l k f : Int32) (hK : ans K t (xCompare l k f s)) : M P n_X_compare [.ref 0, .int l, .int k, .int f] (hx s t) 10 60 10 K := by
  refine Mgo ok_X_compare 60 rfl ?_
  have hK := ans_nd hK
  refine ⟨_, _, _, L_num _ _ (fun h1 => ?_) hK.2, by decide, by decide, by decide⟩
  have hK := hK.1 h1
  have hK := ans_nd hK
  refine ⟨_, _, _, L_num _ _ (fun h2 => ?_) hK.2, by decide, by decide, by decide⟩
  have hK := hK.1 h2
  refine ⟨_, _, _, L_order _ _ _ ?_, by decide, by decide, by decide⟩
  exact hK
theorem l_count {v : Int64} {h : mH} : ∀ (n : Nat) (c : Int32) (r : Int64), 0 ≤ c.toInt → 20 ≤ c.toInt + n → c < 20 → K (.inl (some (.int (cntL n c r)))) h → G P n_D_countOf K 6 14 [some (.long v), none, some (.int c), some (.long r), none] [] h 0 0
  | 0, c, r, h0, hb, hc, hK => by
    rw [Int32.lt_iff_toInt_lt] at hc
    have e : (20 : Int32).toInt = 20 := by decide
    omega
  | n + 1, c, r, h0, hb, hc, hK => by
    refine go ok_D_countOf 80 ?_
    rw [cntL] at hK
    rw [Int32.lt_iff_toInt_lt] at hc
    have e : (20 : Int32).toInt = 20 := by decide
    have hs := i32_s (b := c) (n := (20 - c.toInt - 1).toNat) (m := 20) h0 (by omega) (by decide)
    refine ⟨by decide, ?_⟩
    refine ⟨fun q => ?_, fun q => ?_⟩
    · rw [if_pos q] at hK
      exact hK
    · rw [if_neg q] at hK
      refine ⟨fun q2 => ?_, fun q2 => ?_⟩
      · rw [if_pos q2] at hK
        exact l_count n (c + 1) _ (by omega) (by omega) q2 hK
      · rw [if_neg q2] at hK
        exact hK
theorem L_countOf (v : Int64) (h : mH) (hK : K (.inl (some (.int (dCount v)))) h) : M P n_D_countOf [.long v] h 0 0 6 K := by
  refine Mgo ok_D_countOf 80 rfl ?_
  unfold dCount at hK
  refine ⟨fun q => ?_, fun q => ?_⟩
  · rw [if_pos q] at hK
    exact l_count 20 1 _ (by decide) (by decide) (by decide) hK
  · rw [if_neg q] at hK
    exact l_count 20 0 _ (by decide) (by decide) (by decide) hK
theorem L_ofNumber0 (l k w : Int32) (hk : ok4 k) (hw : okC w 4) (hK : K (.inl (some (.int (xOf l k w s)))) (hx s t)) : M P n_X_ofNumber [.ref 0, .int l, .int k, .int w] (hx s t) 0 0 8 K := by
  refine Mgo ok_X_ofNumber 60 rfl ?_
  unfold xOf at hK
  refine ⟨_, _, _, L_numberAt _ _ hk ?_, by decide, by decide, by decide⟩
  refine ⟨_, _, _, L_needChoice0 _ _ hw ?_, by decide, by decide, by decide⟩
  refine ⟨fun q => ?_, fun q => ?_⟩
  · rw [if_pos q] at hK
    refine ⟨_, _, _, L_order _ _ _ ?_, by decide, by decide, by decide⟩
    exact hK
  · rw [if_neg q] at hK
    refine ⟨fun q1 => ?_, fun q1 => ?_⟩
    · rw [if_pos q1] at hK
      exact hK
    · rw [if_neg q1] at hK
      refine ⟨fun q2 => ?_, fun q2 => ?_⟩
      · rw [if_pos q2] at hK
        exact hK
      · rw [if_neg q2] at hK
        refine ⟨fun q3 => ?_, fun q3 => ?_⟩
        · rw [if_pos q3] at hK
          refine ⟨_, _, _, L_edge _ _ _ ?_, by decide, by decide, by decide⟩
          exact hK
        · rw [if_neg q3] at hK
          refine ⟨_, _, _, L_countOf _ _ ?_, by decide, by decide, by decide⟩
          exact hK
theorem L_ofNumber (l k w : Int32) (hK : ans K t (xOfNumber l k w s)) : M P n_X_ofNumber [.ref 0, .int l, .int k, .int w] (hx s t) 10 60 10 K := by
  refine Mgo ok_X_ofNumber 60 rfl ?_
  have hK := ans_nd hK
  refine ⟨_, _, _, L_num _ _ (fun h1 => ?_) hK.2, by decide, by decide, by decide⟩
  have hK := hK.1 h1
  have hK := ans_nd hK
  refine ⟨_, _, _, L_needChoice _ _ (fun h2 => ?_) hK.2, by decide, by decide, by decide⟩
  have hK := hK.1 h2
  unfold xOf at hK
  refine ⟨fun q => ?_, fun q => ?_⟩
  · rw [if_pos q] at hK
    refine ⟨_, _, _, L_order _ _ _ ?_, by decide, by decide, by decide⟩
    exact hK
  · rw [if_neg q] at hK
    refine ⟨fun q1 => ?_, fun q1 => ?_⟩
    · rw [if_pos q1] at hK
      exact hK
    · rw [if_neg q1] at hK
      refine ⟨fun q2 => ?_, fun q2 => ?_⟩
      · rw [if_pos q2] at hK
        exact hK
      · rw [if_neg q2] at hK
        refine ⟨fun q3 => ?_, fun q3 => ?_⟩
        · rw [if_pos q3] at hK
          refine ⟨_, _, _, L_edge _ _ _ ?_, by decide, by decide, by decide⟩
          exact hK
        · rw [if_neg q3] at hK
          refine ⟨_, _, _, L_countOf _ _ ?_, by decide, by decide, by decide⟩
          exact hK
theorem l_z1 : ∀ (n : Nat) (i c : Int32) (x : Option Value), 0 ≤ i.toInt → i.toInt + n = 4 → K (.inl (some (.int (zL (xI s) n i c)))) (hx s t) → G P n_X_countZeros K 6 10 [some (.ref 1), some (.int c), some (.ref 1), some (.int 4), some (.int i), x, none] [] (hx s t) 0 0
  | 0, i, c, x, h0, hb, hK => by
    refine go ok_X_countZeros 80 ?_
    have hn := i32_nlt (m := 4) (by omega) 4 (by decide) (b := i)
    refine ⟨fun q => absurd q hn, fun q => ?_⟩
    exact hK
  | n + 1, i, c, x, h0, hb, hK => by
    refine go ok_X_countZeros 80 ?_
    have hn := i32_lt (b := i) (n := n) (m := 4) (by omega) 4 (by decide)
    have hs := i32_s (b := i) (n := n) (m := 4) h0 (by omega) (by decide)
    have hz : (0 : Int32).toInt = 0 := by decide
    have hi : ok4 i := ⟨fun e => by rw [Int32.lt_iff_toInt_lt] at e; omega, hn⟩
    refine ⟨fun q => ⟨vp4 hi, ?_⟩, fun q => absurd hn q⟩
    unfold zL at hK
    refine ⟨fun q2 => ?_, fun q2 => ?_⟩
    · rw [if_pos q2] at hK
      exact l_z1 n (i + 1) (c + 1) _ (by omega) (by omega) hK
    · rw [if_neg q2] at hK
      exact l_z1 n (i + 1) c _ (by omega) (by omega) hK
theorem L_zeros1 (hK : K (.inl (some (.int (zL (xI s) 4 0 0)))) (hx s t)) : M P n_X_countZeros [.ref 1] (hx s t) 0 0 6 K := by
  refine Mgo ok_X_countZeros 80 rfl ?_
  exact l_z1 4 0 0 none (by decide) (by decide) hK
theorem l_z2 : ∀ (n : Nat) (i c : Int32) (x : Option Value), 0 ≤ i.toInt → i.toInt + n = 4 → K (.inl (some (.int (zL (xL s) n i c)))) (hx s t) → G P n_X_countZeros K 6 10 [some (.ref 2), some (.int c), some (.ref 2), some (.int 4), some (.int i), x, none] [] (hx s t) 0 0
  | 0, i, c, x, h0, hb, hK => by
    refine go ok_X_countZeros 80 ?_
    have hn := i32_nlt (m := 4) (by omega) 4 (by decide) (b := i)
    refine ⟨fun q => absurd q hn, fun q => ?_⟩
    exact hK
  | n + 1, i, c, x, h0, hb, hK => by
    refine go ok_X_countZeros 80 ?_
    have hn := i32_lt (b := i) (n := n) (m := 4) (by omega) 4 (by decide)
    have hs := i32_s (b := i) (n := n) (m := 4) h0 (by omega) (by decide)
    have hz : (0 : Int32).toInt = 0 := by decide
    have hi : ok4 i := ⟨fun e => by rw [Int32.lt_iff_toInt_lt] at e; omega, hn⟩
    refine ⟨fun q => ⟨vp4 hi, ?_⟩, fun q => absurd hn q⟩
    unfold zL at hK
    refine ⟨fun q2 => ?_, fun q2 => ?_⟩
    · rw [if_pos q2] at hK
      exact l_z2 n (i + 1) (c + 1) _ (by omega) (by omega) hK
    · rw [if_neg q2] at hK
      exact l_z2 n (i + 1) c _ (by omega) (by omega) hK
theorem L_zeros2 (hK : K (.inl (some (.int (zL (xL s) 4 0 0)))) (hx s t)) : M P n_X_countZeros [.ref 2] (hx s t) 0 0 6 K := by
  refine Mgo ok_X_countZeros 80 rfl ?_
  exact l_z2 4 0 0 none (by decide) (by decide) hK
theorem l_uI {r : Int32} (hr : ok3 r) : ∀ (n : Nat) (i c : Int32), 0 ≤ i.toInt → i.toInt + n = 4 → (∀ x, G P n_X_countUnits K 10 4 [some (.ref 0), some (.int (uI s r n i c)), some (.int (r + 1)), x] [] (hx s t) 0 0) → G P n_X_countUnits K 10 11 [some (.ref 0), some (.int c), some (.int r), some (.int i)] [] (hx s t) 0 0
  | 0, i, c, h0, hb, hK => by
    refine go ok_X_countUnits 80 ?_
    have hn := i32_nlt (m := 4) (by omega) 4 (by decide) (b := i)
    refine ⟨fun q => absurd q hn, fun q => ?_⟩
    exact hK _
  | n + 1, i, c, h0, hb, hK => by
    refine go ok_X_countUnits 80 ?_
    have hn := i32_lt (b := i) (n := n) (m := 4) (by omega) 4 (by decide)
    have hs := i32_s (b := i) (n := n) (m := 4) h0 (by omega) (by decide)
    have hz : (0 : Int32).toInt = 0 := by decide
    have hi : ok4 i := ⟨fun e => by rw [Int32.lt_iff_toInt_lt] at e; omega, hn⟩
    refine ⟨fun q => ?_, fun q => absurd hn q⟩
    unfold uI at hK
    refine ⟨_, _, _, L_isUnit0 _ _ hr hi ?_, by decide, by decide, by decide⟩
    refine ⟨fun q2 => ?_, fun q2 => ?_⟩
    · rw [if_pos q2] at hK
      exact l_uI hr n (i + 1) c (by omega) (by omega) hK
    · rw [if_neg q2] at hK
      exact l_uI hr n (i + 1) (c + 1) (by omega) (by omega) hK
theorem l_uO : ∀ (n : Nat) (r c : Int32) (x : Option Value), 0 ≤ r.toInt → r.toInt + n = 3 → K (.inl (some (.int (uO s n r c)))) (hx s t) → G P n_X_countUnits K 10 4 [some (.ref 0), some (.int c), some (.int r), x] [] (hx s t) 0 0
  | 0, r, c, x, h0, hb, hK => by
    refine go ok_X_countUnits 80 ?_
    have hn := i32_nlt (m := 3) (by omega) 3 (by decide) (b := r)
    refine ⟨fun q => absurd q hn, fun q => ?_⟩
    exact hK
  | n + 1, r, c, x, h0, hb, hK => by
    refine go ok_X_countUnits 80 ?_
    have hn := i32_lt (b := r) (n := n) (m := 3) (by omega) 3 (by decide)
    have hs := i32_s (b := r) (n := n) (m := 3) h0 (by omega) (by decide)
    have hz : (0 : Int32).toInt = 0 := by decide
    have hr : ok3 r := ⟨fun e => by rw [Int32.lt_iff_toInt_lt] at e; omega, hn⟩
    refine ⟨fun q => ?_, fun q => absurd hn q⟩
    unfold uO at hK
    exact l_uI hr 4 0 c (by decide) (by decide) (fun x => l_uO n (r + 1) _ x (by omega) (by omega) hK)
theorem L_units (hK : K (.inl (some (.int (uO s 3 0 0)))) (hx s t)) : M P n_X_countUnits [.ref 0] (hx s t) 0 0 10 K := by
  refine Mgo ok_X_countUnits 80 rfl ?_
  exact l_uO 3 0 0 none (by decide) (by decide) hK
theorem L_house0 (w : Int32) (hw : okC w 3) (hK : K (.inl (some (.int (xHs w s)))) (hx s t)) : M P n_X_house [.ref 0, .int w] (hx s t) 0 0 11 K := by
  refine Mgo ok_X_house 80 rfl ?_
  unfold xHs at hK
  refine ⟨_, _, _, L_needChoice0 _ _ hw ?_, by decide, by decide, by decide⟩
  refine ⟨fun q => ?_, fun q => ?_⟩
  · rw [if_pos q] at hK
    exact hK
  · rw [if_neg q] at hK
    refine ⟨fun q1 => ?_, fun q1 => ?_⟩
    · rw [if_pos q1] at hK
      exact hK
    · rw [if_neg q1] at hK
      refine ⟨fun q2 => ?_, fun q2 => ?_⟩
      · rw [if_pos q2] at hK
        refine ⟨_, _, _, L_zeros1 ?_, by decide, by decide, by decide⟩
        refine ⟨_, _, _, L_zeros2 ?_, by decide, by decide, by decide⟩
        exact hK
      · rw [if_neg q2] at hK
        refine ⟨_, _, _, L_units ?_, by decide, by decide, by decide⟩
        exact hK
theorem L_house (w : Int32) (hK : ans K t (xHouse w s)) : M P n_X_house [.ref 0, .int w] (hx s t) 10 60 11 K := by
  refine Mgo ok_X_house 80 rfl ?_
  have hK := ans_nd hK
  refine ⟨_, _, _, L_needChoice _ _ (fun h2 => ?_) hK.2, by decide, by decide, by decide⟩
  have hK := hK.1 h2
  unfold xHs at hK
  refine ⟨fun q => ?_, fun q => ?_⟩
  · rw [if_pos q] at hK
    exact hK
  · rw [if_neg q] at hK
    refine ⟨fun q1 => ?_, fun q1 => ?_⟩
    · rw [if_pos q1] at hK
      exact hK
    · rw [if_neg q1] at hK
      refine ⟨fun q2 => ?_, fun q2 => ?_⟩
      · rw [if_pos q2] at hK
        refine ⟨_, _, _, L_zeros1 ?_, by decide, by decide, by decide⟩
        refine ⟨_, _, _, L_zeros2 ?_, by decide, by decide, by decide⟩
        exact hK
      · rw [if_neg q2] at hK
        refine ⟨_, _, _, L_units ?_, by decide, by decide, by decide⟩
        exact hK
end CLH
end
section
/-! THE CLASS: what it says of itself -/
def nx4 (i : Int32) : Int32 := (i + 1) - (i + 1) / 4 * 4
theorem ok_nx4 {i : Int32} (h : ok4 i) : ok4 (nx4 i) := by
  rcases c4 h with rfl | rfl | rfl | rfl <;> decide
def nsL (l : Int32) (s : XS) : Nat → Int32 → Int32
  | 0, _ => 1
  | n + 1, i => if aPair l (xNum l i s) (xNum l (nx4 i) s) = 0 then 0 else nsL l s n (i + 1)
termination_by n => n
def rs1 (s : XS) (r : Int32) : Nat → Int32 → Int32
  | 0, _ => 1
  | n + 1, i => if aRes (xRes r i s) (xMod r s) = 0 then 0 else rs1 s r n (i + 1)
termination_by n => n
def rs2 (s : XS) (r : Int32) : Nat → Int32 → Int32
  | 0, _ => 1
  | n + 1, i => if aKeep (xNum 0 i s) (xNum 0 (nx4 i) s) (xMod r s) = 0 then 0 else rs2 s r n (i + 1)
termination_by n => n
def rsO (s : XS) : Nat → Int32 → Int32
  | 0, _ => 1
  | n + 1, r => if rs1 s r 4 0 = 0 then 0 else if rs2 s r 4 0 = 0 then 0 else rsO s n (r + 1)
termination_by n => n
def msI (s : XS) (i : Int32) : Nat → Int32 → Int32
  | 0, _ => 1
  | n + 1, j => if aMeet (xRes i 0 s) (xMod i s) (xRes j 0 s) (xMod j s) = 0 then 0 else msI s i n (j + 1)
termination_by n => n
def msO (s : XS) : Nat → Int32 → Int32
  | 0, _ => 1
  | n + 1, i => if msI s i n (i + 1) = 0 then 0 else msO s n (i + 1)
termination_by n => n
def xSound (s : XS) : Int32 := if nsL 0 s 4 0 = 0 then 0 else if nsL 1 s 4 0 = 0 then 0 else if rsO s 3 0 = 0 then 0 else if msO s 3 0 = 0 then 0 else 1
def dI (l i : Int32) (s : XS) : Nat → Int32 → Int64 → Int64
  | 0, _, a => a
  | n + 1, w, a => dI l i s n (w + 1) (a * 31 + (xOf l i w s).toInt64)
termination_by n => n
def dN (l : Int32) (s : XS) : Nat → Int32 → Int64 → Int64
  | 0, _, a => a
  | n + 1, i, a => dN l s n (i + 1) (dI l i s 5 0 a)
termination_by n => n
def dH (s : XS) : Nat → Int32 → Int64 → Int64
  | 0, _, a => a
  | n + 1, w, a => dH s n (w + 1) (a * 31 + (xHs w s).toInt64)
termination_by n => n
def dR (s : XS) (r : Int32) : Nat → Int32 → Int64 → Int64
  | 0, _, a => a
  | n + 1, k, a => dR s r n (k + 1) (a * 31 + (xRes r k s).toInt64)
termination_by n => n
def dO (s : XS) : Nat → Int32 → Int64 → Int64
  | 0, _, a => a
  | n + 1, r, a => dO s n (r + 1) (dR s r 4 0 (a * 31 + (xMod r s).toInt64))
termination_by n => n
def xDigest (s : XS) : Int64 := dO s 3 0 (dN 1 s 4 0 (dN 0 s 4 0 (dH s 4 0 7837))) * 31 + (if xSound s = 0 then 0 else 1 : Int32).toInt64
section CLD
variable {P : GP} {K : Kt} {s : XS} {t : mH}
theorem l_ns {l : Int32} : ∀ (n : Nat) (i : Int32), 0 ≤ i.toInt → i.toInt + n = 4 → K (.inl (some (.int (nsL l s n i)))) (hx s t) → G P n_X_areNumbersSound K 10 2 [some (.ref 0), some (.int l), some (.int i)] [] (hx s t) 0 0
  | 0, i, h0, hb, hK => by
    refine go ok_X_areNumbersSound 80 ?_
    have hn := i32_nlt (m := 4) (by omega) 4 (by decide) (b := i)
    refine ⟨fun q => absurd q hn, fun q => ?_⟩
    rw [nsL] at hK
    exact ⟨rfl, hK⟩
  | n + 1, i, h0, hb, hK => by
    refine go ok_X_areNumbersSound 80 ?_
    have hn := i32_lt (b := i) (n := n) (m := 4) (by omega) 4 (by decide)
    have hs := i32_s (b := i) (n := n) (m := 4) h0 (by omega) (by decide)
    have hz : (0 : Int32).toInt = 0 := by decide
    have hi : ok4 i := ⟨fun e => by rw [Int32.lt_iff_toInt_lt] at e; omega, hn⟩
    refine ⟨fun q => ?_, fun q => absurd hn q⟩
    rw [nsL] at hK
    unfold nx4 at hK
    refine ⟨_, _, _, L_numberAt _ _ hi ?_, by decide, by decide, by decide⟩
    refine ⟨by decide, ?_⟩
    refine ⟨_, _, _, L_numberAt _ _ (ok_nx4 hi) ?_, by decide, by decide, by decide⟩
    refine ⟨_, _, _, L_pair _ _ _ _ ?_, by decide, by decide, by decide⟩
    refine ⟨fun q2 => ?_, fun q2 => ?_⟩
    · rw [if_pos q2] at hK
      exact ⟨rfl, hK⟩
    · rw [if_neg q2] at hK
      exact l_ns n (i + 1) (by omega) (by omega) hK
theorem L_areNumbersSound (l : Int32) (hK : K (.inl (some (.int (nsL l s 4 0)))) (hx s t)) : M P n_X_areNumbersSound [.ref 0, .int l] (hx s t) 0 0 10 K := by
  refine Mgo ok_X_areNumbersSound 80 rfl ?_
  exact l_ns 4 0 (by decide) (by decide) hK
theorem l_r2 {r : Int32} (hr : ok3 r) : ∀ (n : Nat) (i : Int32), 0 ≤ i.toInt → i.toInt + n = 4 → (rs2 s r n i = 0 → K (.inl (some (.int 0))) (hx s t)) → (¬ rs2 s r n i = 0 → ∀ x : Option Value, G P n_X_areRingsSound K 10 2 [some (.ref 0), some (.int (r + 1)), some (.int (xMod r s)), x] [] (hx s t) 0 0) → G P n_X_areRingsSound K 10 43 [some (.ref 0), some (.int r), some (.int (xMod r s)), some (.int i)] [] (hx s t) 0 0
  | 0, i, h0, hb, hK, hN => by
    refine go ok_X_areRingsSound 80 ?_
    have hn := i32_nlt (m := 4) (by omega) 4 (by decide) (b := i)
    refine ⟨fun q => absurd q hn, fun q => ?_⟩
    rw [rs2] at hN
    exact hN (by decide) _
  | n + 1, i, h0, hb, hK, hN => by
    refine go ok_X_areRingsSound 80 ?_
    have hn := i32_lt (b := i) (n := n) (m := 4) (by omega) 4 (by decide)
    have hs := i32_s (b := i) (n := n) (m := 4) h0 (by omega) (by decide)
    have hz : (0 : Int32).toInt = 0 := by decide
    have hi : ok4 i := ⟨fun e => by rw [Int32.lt_iff_toInt_lt] at e; omega, hn⟩
    refine ⟨fun q => ?_, fun q => absurd hn q⟩
    rw [rs2] at hK hN
    unfold nx4 at hK hN
    refine ⟨_, _, _, L_numberAt _ _ hi ?_, by decide, by decide, by decide⟩
    refine ⟨by decide, ?_⟩
    refine ⟨_, _, _, L_numberAt _ _ (ok_nx4 hi) ?_, by decide, by decide, by decide⟩
    refine ⟨_, _, _, L_aKeep _ _ _ _ ?_, by decide, by decide, by decide⟩
    refine ⟨fun q2 => ?_, fun q2 => ?_⟩
    · rw [if_pos q2] at hK
      exact ⟨rfl, hK rfl⟩
    · rw [if_neg q2] at hK hN
      exact l_r2 hr n (i + 1) (by omega) (by omega) hK hN
theorem l_r1 {r : Int32} (hr : ok3 r) : ∀ (n : Nat) (i : Int32), 0 ≤ i.toInt → i.toInt + n = 4 → (rs1 s r n i = 0 → K (.inl (some (.int 0))) (hx s t)) → (¬ rs1 s r n i = 0 → ∀ x : Option Value, G P n_X_areRingsSound K 10 43 [some (.ref 0), some (.int r), some (.int (xMod r s)), some (.int 0)] [] (hx s t) 0 0) → G P n_X_areRingsSound K 10 15 [some (.ref 0), some (.int r), some (.int (xMod r s)), some (.int i)] [] (hx s t) 0 0
  | 0, i, h0, hb, hK, hN => by
    refine go ok_X_areRingsSound 80 ?_
    have hn := i32_nlt (m := 4) (by omega) 4 (by decide) (b := i)
    refine ⟨fun q => absurd q hn, fun q => ?_⟩
    rw [rs1] at hN
    exact hN (by decide) none
  | n + 1, i, h0, hb, hK, hN => by
    refine go ok_X_areRingsSound 80 ?_
    have hn := i32_lt (b := i) (n := n) (m := 4) (by omega) 4 (by decide)
    have hs := i32_s (b := i) (n := n) (m := 4) h0 (by omega) (by decide)
    have hz : (0 : Int32).toInt = 0 := by decide
    have hi : ok4 i := ⟨fun e => by rw [Int32.lt_iff_toInt_lt] at e; omega, hn⟩
    refine ⟨fun q => ?_, fun q => absurd hn q⟩
    rw [rs1] at hK hN
    refine ⟨_, _, _, L_residueAt _ _ hr hi ?_, by decide, by decide, by decide⟩
    refine ⟨_, _, _, L_aRes _ _ _ ?_, by decide, by decide, by decide⟩
    refine ⟨fun q2 => ?_, fun q2 => ?_⟩
    · rw [if_pos q2] at hK
      exact ⟨rfl, hK rfl⟩
    · rw [if_neg q2] at hK hN
      exact l_r1 hr n (i + 1) (by omega) (by omega) hK hN
theorem l_rO : ∀ (n : Nat) (r : Int32) (x y : Option Value), 0 ≤ r.toInt → r.toInt + n = 3 → K (.inl (some (.int (rsO s n r)))) (hx s t) → G P n_X_areRingsSound K 10 2 [some (.ref 0), some (.int r), x, y] [] (hx s t) 0 0
  | 0, r, x, y, h0, hb, hK => by
    refine go ok_X_areRingsSound 80 ?_
    have hn := i32_nlt (m := 3) (by omega) 3 (by decide) (b := r)
    refine ⟨fun q => absurd q hn, fun q => ?_⟩
    rw [rsO] at hK
    exact ⟨rfl, hK⟩
  | n + 1, r, x, y, h0, hb, hK => by
    refine go ok_X_areRingsSound 80 ?_
    have hn := i32_lt (b := r) (n := n) (m := 3) (by omega) 3 (by decide)
    have hs := i32_s (b := r) (n := n) (m := 3) h0 (by omega) (by decide)
    have hz : (0 : Int32).toInt = 0 := by decide
    have hi : ok3 r := ⟨fun e => by rw [Int32.lt_iff_toInt_lt] at e; omega, hn⟩
    refine ⟨fun q => ?_, fun q => absurd hn q⟩
    rw [rsO] at hK
    refine ⟨_, _, _, L_modulusAt _ hi ?_, by decide, by decide, by decide⟩
    refine l_r1 hi 4 0 (by decide) (by decide) (fun e => ?_) (fun e _ => ?_)
    · rw [if_pos e] at hK
      exact hK
    · rw [if_neg e] at hK
      refine l_r2 hi 4 0 (by decide) (by decide) (fun e => ?_) (fun e x => ?_)
      · rw [if_pos e] at hK
        exact hK
      · rw [if_neg e] at hK
        exact l_rO n (r + 1) _ x (by omega) (by omega) hK
theorem L_areRingsSound (hK : K (.inl (some (.int (rsO s 3 0)))) (hx s t)) : M P n_X_areRingsSound [.ref 0] (hx s t) 0 0 10 K := by
  refine Mgo ok_X_areRingsSound 80 rfl ?_
  exact l_rO 3 0 none none (by decide) (by decide) hK
theorem l_mI {i : Int32} (hr : ok3 i) : ∀ (n : Nat) (j : Int32), 0 ≤ j.toInt → j.toInt + n = 3 → (msI s i n j = 0 → K (.inl (some (.int 0))) (hx s t)) → (¬ msI s i n j = 0 → ∀ x, G P n_X_areMeetingsSound K 10 2 [some (.ref 0), some (.int (i + 1)), x] [] (hx s t) 0 0) → G P n_X_areMeetingsSound K 10 11 [some (.ref 0), some (.int i), some (.int j)] [] (hx s t) 0 0
  | 0, j, h0, hb, hK, hN => by
    refine go ok_X_areMeetingsSound 80 ?_
    have hn := i32_nlt (m := 3) (by omega) 3 (by decide) (b := j)
    refine ⟨fun q => absurd q hn, fun q => ?_⟩
    rw [msI] at hN
    exact hN (by decide) _
  | n + 1, j, h0, hb, hK, hN => by
    refine go ok_X_areMeetingsSound 80 ?_
    have hn := i32_lt (b := j) (n := n) (m := 3) (by omega) 3 (by decide)
    have hs := i32_s (b := j) (n := n) (m := 3) h0 (by omega) (by decide)
    have hz : (0 : Int32).toInt = 0 := by decide
    have hi : ok3 j := ⟨fun e => by rw [Int32.lt_iff_toInt_lt] at e; omega, hn⟩
    refine ⟨fun q => ?_, fun q => absurd hn q⟩
    rw [msI] at hK hN
    refine ⟨_, _, _, L_residueAt _ _ hr (by decide) ?_, by decide, by decide, by decide⟩
    refine ⟨_, _, _, L_modulusAt _ hr ?_, by decide, by decide, by decide⟩
    refine ⟨_, _, _, L_residueAt _ _ hi (by decide) ?_, by decide, by decide, by decide⟩
    refine ⟨_, _, _, L_modulusAt _ hi ?_, by decide, by decide, by decide⟩
    refine ⟨_, _, _, L_aMeet _ _ _ _ _ ?_, by decide, by decide, by decide⟩
    refine ⟨fun q2 => ?_, fun q2 => ?_⟩
    · rw [if_pos q2] at hK
      exact ⟨rfl, hK rfl⟩
    · rw [if_neg q2] at hK hN
      exact l_mI hr n (j + 1) (by omega) (by omega) hK hN
theorem l_mO : ∀ (n : Nat) (i : Int32) (x : Option Value), 0 ≤ i.toInt → i.toInt + n = 3 → K (.inl (some (.int (msO s n i)))) (hx s t) → G P n_X_areMeetingsSound K 10 2 [some (.ref 0), some (.int i), x] [] (hx s t) 0 0
  | 0, i, x, h0, hb, hK => by
    refine go ok_X_areMeetingsSound 80 ?_
    have hn := i32_nlt (m := 3) (by omega) 3 (by decide) (b := i)
    refine ⟨fun q => absurd q hn, fun q => ?_⟩
    rw [msO] at hK
    exact ⟨rfl, hK⟩
  | n + 1, i, x, h0, hb, hK => by
    refine go ok_X_areMeetingsSound 80 ?_
    have hn := i32_lt (b := i) (n := n) (m := 3) (by omega) 3 (by decide)
    have hs := i32_s (b := i) (n := n) (m := 3) h0 (by omega) (by decide)
    have hz : (0 : Int32).toInt = 0 := by decide
    have hi : ok3 i := ⟨fun e => by rw [Int32.lt_iff_toInt_lt] at e; omega, hn⟩
    refine ⟨fun q => ?_, fun q => absurd hn q⟩
    rw [msO] at hK
    refine l_mI hi n (i + 1) (by omega) (by omega) (fun e => ?_) (fun e x => ?_)
    · rw [if_pos e] at hK
      exact hK
    · rw [if_neg e] at hK
      exact l_mO n (i + 1) x (by omega) (by omega) hK
theorem L_areMeetingsSound (hK : K (.inl (some (.int (msO s 3 0)))) (hx s t)) : M P n_X_areMeetingsSound [.ref 0] (hx s t) 0 0 10 K := by
  refine Mgo ok_X_areMeetingsSound 80 rfl ?_
  exact l_mO 3 0 none (by decide) (by decide) hK
theorem L_isSound (hK : K (.inl (some (.int (xSound s)))) (hx s t)) : M P n_X_isSound [.ref 0] (hx s t) 0 0 11 K := by
  refine Mgo ok_X_isSound 80 rfl ?_
  unfold xSound at hK
  refine ⟨_, _, _, L_areNumbersSound _ ?_, by decide, by decide, by decide⟩
  refine ⟨fun q1 => ?_, fun q1 => ?_⟩
  · rw [if_pos q1] at hK
    exact ⟨rfl, hK⟩
  · rw [if_neg q1] at hK
    refine ⟨_, _, _, L_areNumbersSound _ ?_, by decide, by decide, by decide⟩
    refine ⟨fun q2 => ?_, fun q2 => ?_⟩
    · rw [if_pos q2] at hK
      exact ⟨rfl, hK⟩
    · rw [if_neg q2] at hK
      refine ⟨_, _, _, L_areRingsSound ?_, by decide, by decide, by decide⟩
      refine ⟨fun q3 => ?_, fun q3 => ?_⟩
      · rw [if_pos q3] at hK
        exact ⟨rfl, hK⟩
      · rw [if_neg q3] at hK
        refine ⟨_, _, _, L_areMeetingsSound ?_, by decide, by decide, by decide⟩
        refine ⟨fun q4 => ?_, fun q4 => ?_⟩
        · rw [if_pos q4] at hK
          exact ⟨rfl, hK⟩
        · rw [if_neg q4] at hK
          exact ⟨rfl, hK⟩
theorem l_dI {l i : Int32} {a0 : Int64} (hk : ok4 i) : ∀ (n : Nat) (w : Int32) (a : Int64), 0 ≤ w.toInt → w.toInt + n = 5 → (∀ x, G P n_X_digestNumbers K 12 6 [some (.ref 0), some (.long a0), none, some (.int l), some (.long (dI l i s n w a)), none, some (.int (i + 1)), x] [] (hx s t) 0 0) → G P n_X_digestNumbers K 12 15 [some (.ref 0), some (.long a0), none, some (.int l), some (.long a), none, some (.int i), some (.int w)] [] (hx s t) 0 0
  | 0, w, a, h0, hb, hK => by
    refine go ok_X_digestNumbers 80 ?_
    have hn := i32_nlt (m := 5) (by omega) 5 (by decide) (b := w)
    have hn : 4 < w := by
      rw [Int32.lt_iff_toInt_lt]
      have e : (4 : Int32).toInt = 4 := by decide
      omega
    refine ⟨fun q => ?_, fun q => absurd hn q⟩
    rw [dI] at hK
    exact hK _
  | n + 1, w, a, h0, hb, hK => by
    refine go ok_X_digestNumbers 80 ?_
    have hs := i32_s (b := w) (n := n) (m := 5) h0 (by omega) (by decide)
    have hz : (0 : Int32).toInt = 0 := by decide
    have hi : okC w 4 := by
      have e : (4 : Int32).toInt = 4 := by decide
      refine ⟨fun e => ?_, fun e => ?_⟩
      · rw [Int32.lt_iff_toInt_lt] at e
        omega
      · rw [Int32.lt_iff_toInt_lt] at e
        omega
    refine ⟨fun q => absurd q hi.2, fun q => ?_⟩
    rw [dI] at hK
    refine ⟨_, _, _, L_ofNumber0 _ _ _ hk hi ?_, by decide, by decide, by decide⟩
    exact l_dI hk n (w + 1) _ (by omega) (by omega) hK
theorem l_dN {l : Int32} {a0 : Int64} : ∀ (n : Nat) (i : Int32) (a : Int64) (x : Option Value), 0 ≤ i.toInt → i.toInt + n = 4 → K (.inl (some (.long (dN l s n i a)))) (hx s t) → G P n_X_digestNumbers K 12 6 [some (.ref 0), some (.long a0), none, some (.int l), some (.long a), none, some (.int i), x] [] (hx s t) 0 0
  | 0, i, a, x, h0, hb, hK => by
    refine go ok_X_digestNumbers 80 ?_
    have hn := i32_nlt (m := 4) (by omega) 4 (by decide) (b := i)
    refine ⟨fun q => absurd q hn, fun q => ?_⟩
    rw [dN] at hK
    exact hK
  | n + 1, i, a, x, h0, hb, hK => by
    refine go ok_X_digestNumbers 80 ?_
    have hn := i32_lt (b := i) (n := n) (m := 4) (by omega) 4 (by decide)
    have hs := i32_s (b := i) (n := n) (m := 4) h0 (by omega) (by decide)
    have hz : (0 : Int32).toInt = 0 := by decide
    have hi : ok4 i := ⟨fun e => by rw [Int32.lt_iff_toInt_lt] at e; omega, hn⟩
    refine ⟨fun q => ?_, fun q => absurd hn q⟩
    rw [dN] at hK
    exact l_dI hi 5 0 a (by decide) (by decide) (fun x => l_dN n (i + 1) _ x (by omega) (by omega) hK)
theorem L_digestNumbers (a : Int64) (l : Int32) (hK : K (.inl (some (.long (dN l s 4 0 a)))) (hx s t)) : M P n_X_digestNumbers [.ref 0, .long a, .int l] (hx s t) 0 0 12 K := by
  refine Mgo ok_X_digestNumbers 80 rfl ?_
  exact l_dN 4 0 a none (by decide) (by decide) hK
theorem l_dR {r : Int32} (hr : ok3 r) : ∀ (n : Nat) (k : Int32) (a : Int64), 0 ≤ k.toInt → k.toInt + n = 4 → (∀ x, G P n_X_digest K 13 46 [some (.ref 0), some (.long (dR s r n k a)), none, some (.int (r + 1)), x] [] (hx s t) 0 0) → G P n_X_digest K 13 67 [some (.ref 0), some (.long a), none, some (.int r), some (.int k)] [] (hx s t) 0 0
  | 0, k, a, h0, hb, hK => by
    refine go ok_X_digest 80 ?_
    have hn := i32_nlt (m := 4) (by omega) 4 (by decide) (b := k)
    refine ⟨fun q => absurd q hn, fun q => ?_⟩
    rw [dR] at hK
    exact hK _
  | n + 1, k, a, h0, hb, hK => by
    refine go ok_X_digest 80 ?_
    have hn := i32_lt (b := k) (n := n) (m := 4) (by omega) 4 (by decide)
    have hs := i32_s (b := k) (n := n) (m := 4) h0 (by omega) (by decide)
    have hz : (0 : Int32).toInt = 0 := by decide
    have hi : ok4 k := ⟨fun e => by rw [Int32.lt_iff_toInt_lt] at e; omega, hn⟩
    refine ⟨fun q => ?_, fun q => absurd hn q⟩
    rw [dR] at hK
    refine ⟨_, _, _, L_residueAt _ _ hr hi ?_, by decide, by decide, by decide⟩
    exact l_dR hr n (k + 1) _ (by omega) (by omega) hK
theorem l_dO : ∀ (n : Nat) (r : Int32) (a : Int64) (x : Option Value), 0 ≤ r.toInt → r.toInt + n = 3 → K (.inl (some (.long (dO s n r a * 31 + (if xSound s = 0 then 0 else 1 : Int32).toInt64)))) (hx s t) → G P n_X_digest K 13 46 [some (.ref 0), some (.long a), none, some (.int r), x] [] (hx s t) 0 0
  | 0, r, a, x, h0, hb, hK => by
    refine go ok_X_digest 80 ?_
    have hn := i32_nlt (m := 3) (by omega) 3 (by decide) (b := r)
    refine ⟨fun q => absurd q hn, fun q => ?_⟩
    rw [dO] at hK
    refine ⟨_, _, _, L_isSound ?_, by decide, by decide, by decide⟩
    refine ⟨fun q2 => ?_, fun q2 => ?_⟩
    · rw [if_pos q2] at hK
      exact hK
    · rw [if_neg q2] at hK
      exact hK
  | n + 1, r, a, x, h0, hb, hK => by
    refine go ok_X_digest 80 ?_
    have hn := i32_lt (b := r) (n := n) (m := 3) (by omega) 3 (by decide)
    have hs := i32_s (b := r) (n := n) (m := 3) h0 (by omega) (by decide)
    have hz : (0 : Int32).toInt = 0 := by decide
    have hi : ok3 r := ⟨fun e => by rw [Int32.lt_iff_toInt_lt] at e; omega, hn⟩
    refine ⟨fun q => ?_, fun q => absurd hn q⟩
    rw [dO] at hK
    refine ⟨_, _, _, L_modulusAt _ hi ?_, by decide, by decide, by decide⟩
    exact l_dR hi 4 0 _ (by decide) (by decide) (fun x => l_dO n (r + 1) _ x (by omega) (by omega) hK)
theorem l_dH : ∀ (n : Nat) (w : Int32) (a : Int64) (x : Option Value), 0 ≤ w.toInt → w.toInt + n = 4 → K (.inl (some (.long (dO s 3 0 (dN 1 s 4 0 (dN 0 s 4 0 (dH s n w a))) * 31 + (if xSound s = 0 then 0 else 1 : Int32).toInt64)))) (hx s t) → G P n_X_digest K 13 6 [some (.ref 0), some (.long a), none, some (.int w), x] [] (hx s t) 0 0
  | 0, w, a, x, h0, hb, hK => by
    refine go ok_X_digest 80 ?_
    have hn := i32_nlt (m := 4) (by omega) 4 (by decide) (b := w)
    have hn : 3 < w := by
      rw [Int32.lt_iff_toInt_lt]
      have e : (3 : Int32).toInt = 3 := by decide
      omega
    refine ⟨fun q => ?_, fun q => absurd hn q⟩
    rw [dH] at hK
    refine ⟨_, _, _, L_digestNumbers _ _ ?_, by decide, by decide, by decide⟩
    refine ⟨_, _, _, L_digestNumbers _ _ ?_, by decide, by decide, by decide⟩
    exact l_dO 3 0 _ _ (by decide) (by decide) hK
  | n + 1, w, a, x, h0, hb, hK => by
    refine go ok_X_digest 80 ?_
    have hs := i32_s (b := w) (n := n) (m := 4) h0 (by omega) (by decide)
    have hz : (0 : Int32).toInt = 0 := by decide
    have hi : okC w 3 := by
      have e : (3 : Int32).toInt = 3 := by decide
      refine ⟨fun e => ?_, fun e => ?_⟩
      · rw [Int32.lt_iff_toInt_lt] at e
        omega
      · rw [Int32.lt_iff_toInt_lt] at e
        omega
    refine ⟨fun q => absurd q hi.2, fun q => ?_⟩
    rw [dH] at hK
    refine ⟨_, _, _, L_house0 _ hi ?_, by decide, by decide, by decide⟩
    exact l_dH n (w + 1) _ _ (by omega) (by omega) hK
theorem L_digest (hK : K (.inl (some (.long (xDigest s)))) (hx s t)) : M P n_X_digest [.ref 0] (hx s t) 0 0 13 K := by
  refine Mgo ok_X_digest 80 rfl ?_
  unfold xDigest at hK
  exact l_dH 4 0 _ none (by decide) (by decide) hK
end CLD
end
section
/-! THE MODEL: its cells, its small methods -/
abbrev MS : Type := Int32 × (Nat → Int64) × (Nat → Int64) × (Nat → Int32) × (Nat → Nat → Int32) × Int32 × Int32
abbrev mTh (s : MS) : Int32 := s.1
abbrev mI (s : MS) : Nat → Int64 := s.2.1
abbrev mL (s : MS) : Nat → Int64 := s.2.2.1
abbrev mM (s : MS) : Nat → Int32 := s.2.2.2.1
abbrev mR (s : MS) : Nat → Nat → Int32 := s.2.2.2.2.1
abbrev mF (s : MS) : Int32 := s.2.2.2.2.2.1
abbrev mK (s : MS) : Int32 := s.2.2.2.2.2.2
def oW (i : Nat) : Option Nat := if i < 3 then some (10 + i) else none
def hm (s : MS) (x : XS) (t : mH) : mH := hx x (.inr (4, [.int (mTh s), .ref 6, .ref 7, .ref 8, .ref 9, .int (mF s), .int (mK s)]) :: .inl (2, 4, .inr (.inl (mI s))) :: .inl (2, 4, .inr (.inl (mL s))) :: .inl (1, 3, .inl (mM s)) :: .inl (3, 3, .inr (.inr (.inr (.inr oW)))) :: .inl (1, 4, .inl (mR s 0)) :: .inl (1, 4, .inl (mR s 1)) :: .inl (1, 4, .inl (mR s 2)) :: t)
abbrev n4 (k : Int32) : Prop := ¬ k < 0 ∧ ¬ 3 < k
abbrev n3 (k : Int32) : Prop := ¬ k < 0 ∧ ¬ 2 < k
theorem n4_ok {k : Int32} (h : n4 k) : ok4 k := by
  refine ⟨h.1, ?_⟩
  have h2 := h.2
  rw [Int32.lt_iff_toInt_lt] at h2 ⊢
  have e : (4 : Int32).toInt = 4 := by decide
  have e0 : (3 : Int32).toInt = 3 := by decide
  omega
theorem n3_ok {k : Int32} (h : n3 k) : ok3 k := by
  refine ⟨h.1, ?_⟩
  have h2 := h.2
  rw [Int32.lt_iff_toInt_lt] at h2 ⊢
  have e : (3 : Int32).toInt = 3 := by decide
  have e0 : (2 : Int32).toInt = 2 := by decide
  omega
abbrev MO : Type := Int32 × MS
def anM (K : Kt) (x : XS) (t : mH) (o : MO) : Prop := K (.inl (some (.int o.1))) (hm o.2 x t)
def sT (v : Int32) (s : MS) : MS := (v, s.2)
def sSet (l k : Int32) (v : Int64) (s : MS) : MS := if l = 0 then (s.1, vp_updL (mI s) k.toNatClampNeg v.toInt32.toInt64, s.2.2) else (s.1, s.2.1, vp_updL (mL s) k.toNatClampNeg v, s.2.2.2)
def mNow (l k : Int32) (s : MS) : Int64 := if l = 0 then mI s k.toNatClampNeg else mL s k.toNatClampNeg
def mSign (v : Int64) : Int32 := if v < 0 then -1 else if 0 < v then 1 else 0
def mBecome (l k : Int32) (v : Int64) (s : MS) : MO := (mSign (mNow l k (sSet l k v s)), sSet l k v s)
def mNo (s : MS) : MO := (-9, (s.1, s.2.1, s.2.2.1, s.2.2.2.1, s.2.2.2.2.1, mF s + 1, mK s))
def mMod (r : Int32) (s : MS) : Int32 := mM s r.toNatClampNeg
def mRes (r k : Int32) (s : MS) : Int32 := mR s r.toNatClampNeg k.toNatClampNeg
def sSetR (r k : Int32) (v : Int32) (s : MS) : MS := (s.1, s.2.1, s.2.2.1, s.2.2.2.1, (fun i => if i = r.toNatClampNeg then upd (mR s i) k.toNatClampNeg v else mR s i), s.2.2.2.2.2)
def mRest (a b : Int64) : Int64 := if wRem a b = 0 then wRem a b else if wRem a b < 0 then (if b < 0 then wRem a b else wRem a b + b) else (if b < 0 then wRem a b + b else wRem a b)
def mFloor (a b : Int64) : Int64 := if wRem a b = 0 then a / b else if a < 0 then (if b < 0 then a / b else a / b - 1) else (if b < 0 then a / b - 1 else a / b)
def mCome (r k : Int32) (v : Int64) (s : MS) : MO := (mRes r k (sSetR r k (mRest v (mMod r s).toInt64).toInt32 s), sSetR r k (mRest v (mMod r s).toInt64).toInt32 s)
def mGcdL : Nat → Int64 → Int64 → Int64
  | 0, g, _ => g
  | n + 1, g, l => if 0 < l then mGcdL n l (wRem g l) else g
termination_by n => n
def mGcd (a b : Int64) : Int64 := mGcdL (lAbs b).toInt.toNat (lAbs a) (lAbs b)
def mAgL : Nat → Int64 → Int64 → Int64 → Int64 → Int64
  | 0, _, _, f, _ => f
  | n + 1, g, l, f, nf => if 0 < l then mAgL n l (g - g / l * l) nf (f - g / l * nf) else f
termination_by n => n
def mAgainst (v m : Int64) : Int64 := mRest (mAgL (mRest v m).toInt.toNat m (mRest v m) 0 1) m
def mUnit (r k : Int32) (s : MS) : Int32 := if mGcd (mRes r k s).toInt64 (mMod r s).toInt64 = 1 then 1 else 0
def mAbove (a b : Int64) : Int64 :=
  ((a >>> sh32) * (b >>> sh32) + ((a >>> sh32) * (b &&& 4294967295) + (((a &&& 4294967295) * (b &&& 4294967295)).toUInt64 >>> ((32 : Int32).toInt64.toUInt64 &&& Int64.toUInt64 63)).toInt64) >>> sh32) +
    ((a &&& 4294967295) * (b >>> sh32) + (((a >>> sh32) * (b &&& 4294967295) + (((a &&& 4294967295) * (b &&& 4294967295)).toUInt64 >>> ((32 : Int32).toInt64.toUInt64 &&& Int64.toUInt64 63)).toInt64) &&& 4294967295)) >>> sh32
def sg (v : Int64) : Int32 := if v < 0 then 1 else 0
def mWithin (l : Int32) (a b : Int64) (w : Int32) : Int32 :=
  if l = 0 then (if wJoin a b w = (wJoin a b w).toInt32.toInt64 then 1 else 0)
  else if w = 0 then (if sg a = sg b then (if sg (wJoin a b w) = sg a then 1 else 0) else 1)
  else if w = 1 then (if sg a = sg b then 1 else (if sg (wJoin a b w) = sg a then 1 else 0))
  else if mAbove a b = (if wJoin a b w < 0 then -1 else 0 : Int32).toInt64 then 1 else 0
theorem wRem_lt {g l : Int64} (h : 0 < l) : (wRem g l).toInt < l.toInt := by
  have hl : 0 < l.toInt := by
    rw [Int64.lt_iff_toInt_lt] at h
    simpa using h
  have hlt := l.toInt_lt
  have hgl := g.le_toInt
  have hgt := g.toInt_lt
  have e : (wRem g l).toInt = g.toInt.tmod l.toInt := by
    unfold wRem
    rw [Int64.toInt_sub, Int64.toInt_mul, Int64.toInt_div]
    simp only [Int.bmod_mul_bmod, Int.sub_bmod_bmod]
    have e2 : g.toInt - g.toInt.tdiv l.toInt * l.toInt = g.toInt.tmod l.toInt := by
      have := Int.tdiv_mul_add_tmod g.toInt l.toInt
      omega
    rw [e2]
    have b1 := Int.tmod_lt_of_pos g.toInt hl
    have b2 : -l.toInt < g.toInt.tmod l.toInt := Int.lt_tmod_of_pos _ hl
    exact Int.bmod_eq_of_le (by omega) (by omega)
  rw [e]
  exact Int.tmod_lt_of_pos _ hl
section MOD
variable {P : GP} {K : Kt} {s : MS} {x : XS} {t : mH}
theorem L_isNo (k : Int32) {h : mH} (h1 : n4 k → K (.inl (some (.int 0))) h) (h0 : ¬ n4 k → K (.inl (some (.int 1))) h) : M P n_M_isNo [.int k] h 0 0 6 K := by
  refine Mgo ok_M_isNo 60 rfl ?_
  refine ⟨fun q => ?_, fun q => ?_⟩
  · exact ⟨rfl, h0 (fun e => e.1 q)⟩
  · refine ⟨fun q2 => ?_, fun q2 => ?_⟩
    · exact ⟨rfl, h0 (fun e => e.2 q2)⟩
    · exact ⟨rfl, h1 ⟨q, q2⟩⟩
theorem L_isNoRing (k : Int32) {h : mH} (h1 : n3 k → K (.inl (some (.int 0))) h) (h0 : ¬ n3 k → K (.inl (some (.int 1))) h) : M P n_M_isNoRing [.int k] h 0 0 6 K := by
  refine Mgo ok_M_isNoRing 60 rfl ?_
  refine ⟨fun q => ?_, fun q => ?_⟩
  · exact ⟨rfl, h0 (fun e => e.1 q)⟩
  · refine ⟨fun q2 => ?_, fun q2 => ?_⟩
    · exact ⟨rfl, h0 (fun e => e.2 q2)⟩
    · exact ⟨rfl, h1 ⟨q, q2⟩⟩
theorem L_areWrong (a b c : Int32) {h : mH} (h1 : okV a b c → K (.inl (some (.int 0))) h) (h0 : ¬ okV a b c → K (.inl (some (.int 1))) h) : M P n_M_areWrong [.int a, .int b, .int c] h 0 0 6 K := by
  refine Mgo ok_M_areWrong 60 rfl ?_
  refine ⟨fun q => ?_, fun q => ?_⟩
  · exact ⟨rfl, h0 (fun e => e.1 q)⟩
  · refine ⟨fun q2 => ?_, fun q2 => ?_⟩
    · exact ⟨rfl, h0 (fun e => e.2.1 q2)⟩
    · refine ⟨fun q3 => ?_, fun q3 => ?_⟩
      · exact ⟨rfl, h0 (fun e => e.2.2 q3)⟩
      · exact ⟨rfl, h1 ⟨q, q2, q3⟩⟩
theorem L_mrefuse0 (E : Int32) (h0 : mTh s = 0) (hK : K (.inl (some (.int 0))) (hm s x t)) : M P n_M_refuse [.ref 5, .int 0, .int E] (hm s x t) 0 0 6 K := by
  refine Mgo ok_M_refuse 60 rfl ?_
  refine ⟨fun _ => ?_, fun e => absurd rfl e⟩
  refine ⟨fun q => ?_, fun q => ?_⟩
  · rw [h0] at q
    exact absurd q (by decide)
  · exact ⟨rfl, hK⟩
theorem L_mrefuse1 (E : Int32) (h0 : mTh s = 0) (hE : 0 < E) (hK : K (.inl (some (.int 1))) (hm (sT E s) x t)) : M P n_M_refuse [.ref 5, .int 1, .int E] (hm s x t) 0 0 6 K := by
  refine Mgo ok_M_refuse 60 rfl ?_
  refine ⟨fun e => absurd e (by decide), fun _ => ?_⟩
  refine ⟨fun q => ?_, fun q => ?_⟩
  · refine ⟨fun q2 => ?_, fun q2 => ?_⟩
    · exact ⟨rfl, hK⟩
    · exact absurd hE q2
  · exact absurd h0 q
theorem L_start0 (hK : K (.inl (some (.int 0))) (hm (sT 0 s) x t)) : M P n_M_start [.ref 5, .int 0, .int 1] (hm s x t) 0 0 7 K := by
  refine Mgo ok_M_start 60 rfl ?_
  refine ⟨_, _, _, L_mrefuse0 (s := sT 0 s) 1 rfl ?_, by decide, by decide, by decide⟩
  exact ⟨rfl, hK⟩
theorem L_start1 (hK : K (.inl (some (.int 1))) (hm (sT 1 s) x t)) : M P n_M_start [.ref 5, .int 1, .int 1] (hm s x t) 0 0 7 K := by
  refine Mgo ok_M_start 60 rfl ?_
  refine ⟨_, _, _, L_mrefuse1 (s := sT 0 s) 1 rfl (by decide) ?_, by decide, by decide, by decide⟩
  exact ⟨rfl, hK⟩
theorem L_now (l k : Int32) (hk : ok4 k) (hK : K (.inl (some (.long (mNow l k s)))) (hm s x t)) : M P n_M_now [.ref 5, .int l, .int k] (hm s x t) 0 0 6 K := by
  refine Mgo ok_M_now 60 rfl ?_
  unfold mNow at hK
  refine ⟨fun q => ?_, fun q => ?_⟩
  · rw [if_pos q] at hK
    exact ⟨vp4 hk, hK⟩
  · rw [if_neg q] at hK
    exact ⟨vp4 hk, hK⟩
theorem L_sign (v : Int64) {h : mH} (hK : K (.inl (some (.int (mSign v)))) h) : M P n_M_sign [.long v] h 0 0 6 K := by
  refine Mgo ok_M_sign 60 rfl ?_
  unfold mSign at hK
  refine ⟨fun q => ?_, fun q => ?_⟩
  · rw [if_pos q] at hK
    exact hK
  · rw [if_neg q] at hK
    refine ⟨fun q2 => ?_, fun q2 => ?_⟩
    · rw [if_pos q2] at hK
      exact hK
    · rw [if_neg q2] at hK
      exact hK
end MOD
end
section
/-! THE MODEL: its arithmetic -/
section MODA
variable {P : GP} {K : Kt} {s : MS} {x : XS} {t : mH}
theorem L_become (l k : Int32) (v : Int64) (hk : ok4 k) (hK : anM K x t (mBecome l k v s)) : M P n_M_become [.ref 5, .int l, .int k, .long v] (hm s x t) 0 0 7 K := by
  refine Mgo ok_M_become 60 rfl ?_
  unfold mBecome sSet at hK
  refine ⟨fun q => ?_, fun q => ?_⟩
  · rw [if_pos q] at hK
    refine ⟨vp4 hk, ?_⟩
    refine ⟨_, _, _, L_now (s := (s.1, vp_updL (mI s) k.toNatClampNeg v.toInt32.toInt64, s.2.2)) _ _ hk ?_, by decide, by decide, by decide⟩
    refine ⟨_, _, _, L_sign _ ?_, by decide, by decide, by decide⟩
    exact hK
  · rw [if_neg q] at hK
    refine ⟨vp4 hk, ?_⟩
    refine ⟨_, _, _, L_now (s := (s.1, s.2.1, vp_updL (mL s) k.toNatClampNeg v, s.2.2.2)) _ _ hk ?_, by decide, by decide, by decide⟩
    refine ⟨_, _, _, L_sign _ ?_, by decide, by decide, by decide⟩
    exact hK
theorem L_mno (hK : anM K x t (mNo s)) : M P n_M_no [.ref 5] (hm s x t) 0 0 6 K := by
  refine Mgo ok_M_no 60 rfl ?_
  exact hK
theorem L_mrest (a b : Int64) {h : mH} (hb : ¬ b = 0) (hK : K (.inl (some (.long (mRest a b)))) h) : M P n_M_restOf [.long a, .long b] h 0 0 6 K := by
  refine Mgo ok_M_restOf 60 rfl ?_
  unfold mRest at hK
  refine ⟨hb, ?_⟩
  refine ⟨fun q => ?_, fun q => ?_⟩
  · rw [if_pos (show wRem a b = 0 from q)] at hK
    exact hK
  · rw [if_neg (show ¬ wRem a b = 0 from q)] at hK
    refine ⟨fun q1 => ?_, fun q1 => ?_⟩
    · rw [if_pos (show wRem a b < 0 from q1)] at hK
      refine ⟨fun q2 => ?_, fun q2 => ?_⟩
      · rw [if_pos q2] at hK
        refine ⟨fun _ => ?_, fun e => absurd rfl e⟩
        exact hK
      · rw [if_neg q2] at hK
        refine ⟨fun e => absurd e (by decide), fun _ => ?_⟩
        exact hK
    · rw [if_neg (show ¬ wRem a b < 0 from q1)] at hK
      refine ⟨fun q2 => ?_, fun q2 => ?_⟩
      · rw [if_pos q2] at hK
        refine ⟨fun e => absurd e (by decide), fun _ => ?_⟩
        exact hK
      · rw [if_neg q2] at hK
        refine ⟨fun _ => ?_, fun e => absurd rfl e⟩
        exact hK
theorem L_mfloor (a b : Int64) {h : mH} (hb : ¬ b = 0) (hK : K (.inl (some (.long (mFloor a b)))) h) : M P n_M_floorOf [.long a, .long b] h 0 0 6 K := by
  refine Mgo ok_M_floorOf 60 rfl ?_
  unfold mFloor at hK
  refine ⟨hb, ?_⟩
  refine ⟨fun q => ?_, fun q => ?_⟩
  · rw [if_pos (show wRem a b = 0 from q)] at hK
    exact ⟨hb, hK⟩
  · rw [if_neg (show ¬ wRem a b = 0 from q)] at hK
    refine ⟨fun q1 => ?_, fun q1 => ?_⟩
    · rw [if_pos q1] at hK
      refine ⟨fun q2 => ?_, fun q2 => ?_⟩
      · rw [if_pos q2] at hK
        refine ⟨fun _ => ?_, fun e => absurd rfl e⟩
        exact ⟨hb, hK⟩
      · rw [if_neg q2] at hK
        refine ⟨fun e => absurd e (by decide), fun _ => ?_⟩
        exact ⟨hb, hK⟩
    · rw [if_neg q1] at hK
      refine ⟨fun q2 => ?_, fun q2 => ?_⟩
      · rw [if_pos q2] at hK
        refine ⟨fun e => absurd e (by decide), fun _ => ?_⟩
        exact ⟨hb, hK⟩
      · rw [if_neg q2] at hK
        refine ⟨fun _ => ?_, fun e => absurd rfl e⟩
        exact ⟨hb, hK⟩
theorem L_above (a b : Int64) {h : mH} (hK : K (.inl (some (.long (mAbove a b)))) h) : M P n_M_above [.long a, .long b] h 0 0 6 K := by
  refine Mgo ok_M_above 80 rfl ?_
  exact hK
theorem L_both (a b : Int64) (w : Int32) {h : mH} (hK : K (.inl (some (.long (wJoin a b w)))) h) : M P n_M_both [.long a, .long b, .int w] h 0 0 6 K := by
  refine Mgo ok_M_both 60 rfl ?_
  unfold wJoin at hK
  refine ⟨fun q => ?_, fun q => ?_⟩
  · rw [if_pos q] at hK
    exact hK
  · rw [if_neg q] at hK
    refine ⟨fun q2 => ?_, fun q2 => ?_⟩
    · rw [if_pos q2] at hK
      exact hK
    · rw [if_neg q2] at hK
      exact hK
theorem L_mwithin (l : Int32) (a b : Int64) (w : Int32) {h : mH} (hK : K (.inl (some (.int (mWithin l a b w)))) h) : M P n_M_isWithin [.int l, .long a, .long b, .int w] h 0 0 7 K := by
  refine Mgo ok_M_isWithin 120 rfl ?_
  unfold mWithin sg at hK
  refine ⟨_, _, _, L_both _ _ _ ?_, by decide, by decide, by decide⟩
  refine ⟨fun q => ?_, fun q => ?_⟩
  · rw [if_pos q] at hK
    refine ⟨fun q2 => ?_, fun q2 => ?_⟩
    · rw [if_pos q2] at hK
      exact ⟨rfl, hK⟩
    · rw [if_neg q2] at hK
      exact ⟨rfl, hK⟩
  · rw [if_neg q] at hK
    refine ⟨fun q2 => ?_, fun q2 => ?_⟩
    · rw [if_pos q2] at hK
      refine ⟨fun qa => ?_, fun qa => ?_⟩
      · rw [if_pos qa] at hK
        refine ⟨fun qb => ?_, fun qb => ?_⟩
        · rw [if_pos qb] at hK
          rw [if_pos rfl] at hK
          refine ⟨fun _ => ?_, fun e => absurd rfl e⟩
          refine ⟨fun qr => ?_, fun qr => ?_⟩
          · rw [if_pos qr] at hK
            refine ⟨fun qc => ?_, fun qc => ?_⟩
            · refine ⟨fun _ => ?_, fun e => absurd rfl e⟩
              rw [if_pos rfl] at hK
              exact ⟨rfl, hK⟩
            · exact absurd qa qc
          · rw [if_neg qr] at hK
            refine ⟨fun qc => ?_, fun qc => ?_⟩
            · refine ⟨fun e => absurd e (by decide), fun _ => ?_⟩
              rw [if_neg (by decide)] at hK
              exact ⟨rfl, hK⟩
            · exact absurd qa qc
        · rw [if_neg qb] at hK
          rw [if_neg (by decide)] at hK
          refine ⟨fun e => absurd e (by decide), fun _ => ?_⟩
          exact ⟨rfl, hK⟩
      · rw [if_neg qa] at hK
        refine ⟨fun qb => ?_, fun qb => ?_⟩
        · rw [if_pos qb] at hK
          rw [if_neg (by decide)] at hK
          refine ⟨fun e => absurd e (by decide), fun _ => ?_⟩
          exact ⟨rfl, hK⟩
        · rw [if_neg qb] at hK
          rw [if_pos rfl] at hK
          refine ⟨fun _ => ?_, fun e => absurd rfl e⟩
          refine ⟨fun qr => ?_, fun qr => ?_⟩
          · rw [if_pos qr] at hK
            refine ⟨fun qc => ?_, fun qc => ?_⟩
            · exact absurd qc qa
            · refine ⟨fun e => absurd e (by decide), fun _ => ?_⟩
              rw [if_neg (by decide)] at hK
              exact ⟨rfl, hK⟩
          · rw [if_neg qr] at hK
            refine ⟨fun qc => ?_, fun qc => ?_⟩
            · exact absurd qc qa
            · refine ⟨fun _ => ?_, fun e => absurd rfl e⟩
              rw [if_pos rfl] at hK
              exact ⟨rfl, hK⟩
    · rw [if_neg q2] at hK
      refine ⟨fun q3 => ?_, fun q3 => ?_⟩
      · rw [if_pos q3] at hK
        refine ⟨fun qa => ?_, fun qa => ?_⟩
        · rw [if_pos qa] at hK
          refine ⟨fun qb => ?_, fun qb => ?_⟩
          · rw [if_pos qb] at hK
            rw [if_pos rfl] at hK
            refine ⟨fun _ => ?_, fun e => absurd rfl e⟩
            exact ⟨rfl, hK⟩
          · rw [if_neg qb] at hK
            rw [if_neg (by decide)] at hK
            refine ⟨fun e => absurd e (by decide), fun _ => ?_⟩
            refine ⟨fun qr => ?_, fun qr => ?_⟩
            · rw [if_pos qr] at hK
              refine ⟨fun qc => ?_, fun qc => ?_⟩
              · refine ⟨fun _ => ?_, fun e => absurd rfl e⟩
                rw [if_pos rfl] at hK
                exact ⟨rfl, hK⟩
              · exact absurd qa qc
            · rw [if_neg qr] at hK
              refine ⟨fun qc => ?_, fun qc => ?_⟩
              · refine ⟨fun e => absurd e (by decide), fun _ => ?_⟩
                rw [if_neg (by decide)] at hK
                exact ⟨rfl, hK⟩
              · exact absurd qa qc
        · rw [if_neg qa] at hK
          refine ⟨fun qb => ?_, fun qb => ?_⟩
          · rw [if_pos qb] at hK
            rw [if_neg (by decide)] at hK
            refine ⟨fun e => absurd e (by decide), fun _ => ?_⟩
            refine ⟨fun qr => ?_, fun qr => ?_⟩
            · rw [if_pos qr] at hK
              refine ⟨fun qc => ?_, fun qc => ?_⟩
              · exact absurd qc qa
              · refine ⟨fun e => absurd e (by decide), fun _ => ?_⟩
                rw [if_neg (by decide)] at hK
                exact ⟨rfl, hK⟩
            · rw [if_neg qr] at hK
              refine ⟨fun qc => ?_, fun qc => ?_⟩
              · exact absurd qc qa
              · refine ⟨fun _ => ?_, fun e => absurd rfl e⟩
                rw [if_pos rfl] at hK
                exact ⟨rfl, hK⟩
          · rw [if_neg qb] at hK
            rw [if_pos rfl] at hK
            refine ⟨fun _ => ?_, fun e => absurd rfl e⟩
            exact ⟨rfl, hK⟩
      · rw [if_neg q3] at hK
        refine ⟨_, _, _, L_above _ _ ?_, by decide, by decide, by decide⟩
        refine ⟨fun qr => ?_, fun qr => ?_⟩
        · rw [if_pos qr] at hK
          refine ⟨fun q5 => ?_, fun q5 => ?_⟩
          · rw [if_pos q5] at hK
            exact ⟨rfl, hK⟩
          · rw [if_neg q5] at hK
            exact ⟨rfl, hK⟩
        · rw [if_neg qr] at hK
          refine ⟨fun q5 => ?_, fun q5 => ?_⟩
          · rw [if_pos q5] at hK
            exact ⟨rfl, hK⟩
          · rw [if_neg q5] at hK
            exact ⟨rfl, hK⟩
theorem b_within (l : Int32) (a b : Int64) (w : Int32) : mWithin l a b w = 0 ∨ mWithin l a b w = 1 := by
  unfold mWithin
  repeat' split
  all_goals first | exact Or.inl rfl | exact Or.inr rfl
theorem l_mgcd {a b : Int64} {h : mH} : ∀ (n : Nat) (g l : Int64) (y : Option Value), l.toInt ≤ n → K (.inl (some (.long (mGcdL n g l)))) h →
    G P n_M_gcd K 7 12 [some (.long a), none, some (.long b), none, some (.long g), none, some (.long l), none, y, none] [] h 0 0
  | 0, g, l, y, hb, hK => by
    refine go ok_M_gcd 80 ?_
    rw [mGcdL] at hK
    refine ⟨fun q => ?_, fun q => ?_⟩
    · rw [Int64.lt_iff_toInt_lt] at q
      have e : (0 : Int64).toInt = 0 := by decide
      omega
    · exact hK
  | n + 1, g, l, y, hb, hK => by
    refine go ok_M_gcd 80 ?_
    rw [mGcdL] at hK
    refine ⟨fun q => ?_, fun q => ?_⟩
    · rw [if_pos q] at hK
      have hl := wRem_lt (g := g) q
      refine ⟨fun e => absurd (e ▸ q) (by decide), ?_⟩
      exact l_mgcd n l (wRem g l) _ (by omega) hK
    · rw [if_neg q] at hK
      exact hK
theorem L_mgcd (a b : Int64) {h : mH} (hK : K (.inl (some (.long (mGcd a b)))) h) : M P n_M_gcd [.long a, .long b] h 0 0 7 K := by
  refine Mgo ok_M_gcd 60 rfl ?_
  refine ⟨_, _, _, L_absJ _ _ ?_, by decide, by decide, by decide⟩
  refine ⟨_, _, _, L_absJ _ _ ?_, by decide, by decide, by decide⟩
  exact l_mgcd (lAbs b).toInt.toNat _ _ none (by omega) hK
theorem l_magainst {v m : Int64} {h : mH} (hm : ¬ m = 0) : ∀ (n : Nat) (g l f nf : Int64) (y z u : Option Value), l.toInt ≤ n → K (.inl (some (.long (mRest (mAgL n g l f nf) m)))) h →
    G P n_M_against K 7 16 [some (.long v), none, some (.long m), none, some (.long g), none, some (.long l), none, some (.long f), none, some (.long nf), none, y, none, z, none, u, none] [] h 0 0
  | 0, g, l, f, nf, y, z, u, hb, hK => by
    refine go ok_M_against 80 ?_
    rw [mAgL] at hK
    refine ⟨fun q => ?_, fun q => ?_⟩
    · rw [Int64.lt_iff_toInt_lt] at q
      have e : (0 : Int64).toInt = 0 := by decide
      omega
    · refine ⟨_, _, _, L_mrest _ _ hm ?_, by decide, by decide, by decide⟩
      exact hK
  | n + 1, g, l, f, nf, y, z, u, hb, hK => by
    refine go ok_M_against 80 ?_
    rw [mAgL] at hK
    refine ⟨fun q => ?_, fun q => ?_⟩
    · rw [if_pos q] at hK
      have hl : (g - g / l * l).toInt < l.toInt := wRem_lt (g := g) q
      refine ⟨fun e => absurd (e ▸ q) (by decide), ?_⟩
      exact l_magainst hm n l (g - g / l * l) nf (f - g / l * nf) _ _ _ (by omega) hK
    · rw [if_neg q] at hK
      refine ⟨_, _, _, L_mrest _ _ hm ?_, by decide, by decide, by decide⟩
      exact hK
theorem L_magainst (v m : Int64) {h : mH} (hm : ¬ m = 0) (hK : K (.inl (some (.long (mAgainst v m)))) h) : M P n_M_against [.long v, .long m] h 0 0 7 K := by
  refine Mgo ok_M_against 60 rfl ?_
  refine ⟨_, _, _, L_mrest _ _ hm ?_, by decide, by decide, by decide⟩
  exact l_magainst hm (mRest v m).toInt.toNat _ _ _ _ none none none (by omega) hK
theorem L_come (r k : Int32) (v : Int64) (hr : ok3 r) (hk : ok4 k) (hm0 : ¬ (mMod r s).toInt64 = 0) (hK : anM K x t (mCome r k v s)) : M P n_M_come [.ref 5, .int r, .int k, .long v] (hm s x t) 0 0 7 K := by
  refine Mgo ok_M_come 60 rfl ?_
  rcases c3 hr with rfl | rfl | rfl
  · refine ⟨vp3 hr, fun q9 e9 => ?_, fun e9 => absurd e9 (Option.some_ne_none _)⟩
    obtain rfl := Option.some.inj e9
    refine ⟨vp3 hr, ?_⟩
    refine ⟨_, _, _, L_mrest _ _ hm0 ?_, by decide, by decide, by decide⟩
    refine ⟨vp4 hk, vp3 hr, fun q9 e9 => ?_, fun e9 => absurd e9 (Option.some_ne_none _)⟩
    obtain rfl := Option.some.inj e9
    exact ⟨vp4 hk, hK⟩
  · refine ⟨vp3 hr, fun q9 e9 => ?_, fun e9 => absurd e9 (Option.some_ne_none _)⟩
    obtain rfl := Option.some.inj e9
    refine ⟨vp3 hr, ?_⟩
    refine ⟨_, _, _, L_mrest _ _ hm0 ?_, by decide, by decide, by decide⟩
    refine ⟨vp4 hk, vp3 hr, fun q9 e9 => ?_, fun e9 => absurd e9 (Option.some_ne_none _)⟩
    obtain rfl := Option.some.inj e9
    exact ⟨vp4 hk, hK⟩
  · refine ⟨vp3 hr, fun q9 e9 => ?_, fun e9 => absurd e9 (Option.some_ne_none _)⟩
    obtain rfl := Option.some.inj e9
    refine ⟨vp3 hr, ?_⟩
    refine ⟨_, _, _, L_mrest _ _ hm0 ?_, by decide, by decide, by decide⟩
    refine ⟨vp4 hk, vp3 hr, fun q9 e9 => ?_, fun e9 => absurd e9 (Option.some_ne_none _)⟩
    obtain rfl := Option.some.inj e9
    exact ⟨vp4 hk, hK⟩
theorem L_unitNow (r k : Int32) (hr : ok3 r) (hk : ok4 k) (hK : K (.inl (some (.int (mUnit r k s)))) (hm s x t)) : M P n_M_isUnitNow [.ref 5, .int r, .int k] (hm s x t) 0 0 8 K := by
  refine Mgo ok_M_isUnitNow 60 rfl ?_
  unfold mUnit at hK
  rcases c3 hr with rfl | rfl | rfl
  · refine ⟨vp3 hr, fun q9 e9 => ?_, fun e9 => absurd e9 (Option.some_ne_none _)⟩
    obtain rfl := Option.some.inj e9
    refine ⟨vp4 hk, vp3 hr, ?_⟩
    refine ⟨_, _, _, L_mgcd _ _ ?_, by decide, by decide, by decide⟩
    refine ⟨fun q => ?_, fun q => ?_⟩
    · rw [if_pos (show mGcd (mRes 0 k s).toInt64 (mMod 0 s).toInt64 = 1 from q)] at hK
      exact ⟨rfl, hK⟩
    · rw [if_neg (show ¬ mGcd (mRes 0 k s).toInt64 (mMod 0 s).toInt64 = 1 from q)] at hK
      exact ⟨rfl, hK⟩
  · refine ⟨vp3 hr, fun q9 e9 => ?_, fun e9 => absurd e9 (Option.some_ne_none _)⟩
    obtain rfl := Option.some.inj e9
    refine ⟨vp4 hk, vp3 hr, ?_⟩
    refine ⟨_, _, _, L_mgcd _ _ ?_, by decide, by decide, by decide⟩
    refine ⟨fun q => ?_, fun q => ?_⟩
    · rw [if_pos (show mGcd (mRes 1 k s).toInt64 (mMod 1 s).toInt64 = 1 from q)] at hK
      exact ⟨rfl, hK⟩
    · rw [if_neg (show ¬ mGcd (mRes 1 k s).toInt64 (mMod 1 s).toInt64 = 1 from q)] at hK
      exact ⟨rfl, hK⟩
  · refine ⟨vp3 hr, fun q9 e9 => ?_, fun e9 => absurd e9 (Option.some_ne_none _)⟩
    obtain rfl := Option.some.inj e9
    refine ⟨vp4 hk, vp3 hr, ?_⟩
    refine ⟨_, _, _, L_mgcd _ _ ?_, by decide, by decide, by decide⟩
    refine ⟨fun q => ?_, fun q => ?_⟩
    · rw [if_pos (show mGcd (mRes 2 k s).toInt64 (mMod 2 s).toInt64 = 1 from q)] at hK
      exact ⟨rfl, hK⟩
    · rw [if_neg (show ¬ mGcd (mRes 2 k s).toInt64 (mMod 2 s).toInt64 = 1 from q)] at hK
      exact ⟨rfl, hK⟩
end MODA
end
