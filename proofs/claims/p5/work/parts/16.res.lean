/-! residues: what the ring's methods answer -/
def rSize (m : Int32) : Int64 := lAbs m.toInt64
def rRes (v : Int64) (m : Int32) : Int32 := (wRest v m.toInt64).toInt32
def rRaiseL (e m : Int32) : Nat → Int32 → Int32 → Int32 → Int32
  | 0, _, r, _ => r
  | n + 1, b, r, s => rRaiseL e m n (b + 1) (if (e >>> (b &&& 31)) &&& 1 = 1 then rRes (r.toInt64 * s.toInt64) m else r) (rRes (s.toInt64 * s.toInt64) m)
termination_by n => n
def rRaise (b e m : Int32) : Int32 := rRaiseL e m 31 0 (rRes 1 m) b
def rGcdL : Nat → Int64 → Int64 → Int64
  | 0, g, _ => g
  | n + 1, g, l => if l = 0 then g else rGcdL n l (wRem g l)
termination_by n => n
def rGcd (a b : Int64) : Int64 := rGcdL 1000 a b
def rInvL : Nat → Int64 → Int64 → Int64 → Int64 → Int64 × Int64
  | 0, g, _, f, _ => (g, f)
  | n + 1, g, l, f, nf => if l = 0 then (g, f) else rInvL n l (g - g / l * l) nf (f - g / l * nf)
termination_by n => n
def rInv (v sz : Int64) : Int64 := if (rInvL 1000 sz (wRest v sz) 0 1).1 = 1 then wRest (rInvL 1000 sz (wRest v sz) 0 1).2 sz else -1
def rHas (r m : Int32) : Int32 := if rInv r.toInt64 (rSize m) = -1 then 0 else 1
def rInverse (r m : Int32) : Int32 := rRes (rInv r.toInt64 (rSize m)) m
def rMeet (a m b n : Int32) : Int64 :=
  if wRest (b.toInt64 - wRest a.toInt64 (rSize m)) (rGcd (rSize m) (rSize n)) = 0 then
    wRest a.toInt64 (rSize m) + rSize m * wRest (wFloor (b.toInt64 - wRest a.toInt64 (rSize m)) (rGcd (rSize m) (rSize n)) * rInv (wFloor (rSize m) (rGcd (rSize m) (rSize n))) (wFloor (rSize n) (rGcd (rSize m) (rSize n)))) (wFloor (rSize n) (rGcd (rSize m) (rSize n)))
  else -1
theorem i32_lt {b : Int32} {n m : Nat} (hb : b.toInt + (n : Int) + 1 = m) (c : Int32) (hc : c.toInt = m) : b < c := by
  rw [Int32.lt_iff_toInt_lt]
  omega
theorem i32_nlt {b : Int32} {m : Nat} (hb : b.toInt + 0 = m) (c : Int32) (hc : c.toInt = m) : ¬ b < c := by
  rw [Int32.lt_iff_toInt_lt]
  omega
theorem i32_s {b : Int32} {n m : Nat} (h0 : 0 ≤ b.toInt) (hb : b.toInt + (n : Int) + 1 = m) (hm : m < 2147483647) : (b + 1).toInt = b.toInt + 1 := by
  rw [Int32.toInt_add]
  have e : (1 : Int32).toInt = 1 := by decide
  rw [e]
  exact Int.bmod_eq_of_le (by omega) (by omega)
section RES
variable {P : GP} {K : Kt}
theorem L_sizeOf (m : Int32) (h : mH) (hK : K (.inl (some (.long (rSize m)))) h) : M P n_R_sizeOf [.int m] h 0 0 7 K := by
  refine Mgo ok_R_sizeOf 60 rfl ?_
  refine ⟨_, _, _, L_absJ _ _ ?_, by decide, by decide, by decide⟩
  exact hK
theorem L_residueOf (v : Int64) (m : Int32) (h : mH) (hK : K (.inl (some (.int (rRes v m)))) h) : M P n_R_residueOf [.long v, .int m] h 0 0 7 K := by
  refine Mgo ok_R_residueOf 60 rfl ?_
  refine ⟨_, _, _, L_restOf _ _ _ ?_, by decide, by decide, by decide⟩
  exact hK
theorem l_raised {base e m : Int32} {h : mH} : ∀ (n : Nat) (b r s : Int32), 0 ≤ b.toInt → b.toInt + n = 31 → K (.inl (some (.int (rRaiseL e m n b r s)))) h →
    G P n_R_raised K 8 12 [some (.int base), some (.int e), some (.int m), some (.int r), some (.int s), some (.int b)] [] h 0 0
  | 0, b, r, s, h0, hb, hK => by
    refine go ok_R_raised 80 ?_
    have hn := i32_nlt (m := 31) (by omega) 31 (by decide) (b := b)
    refine ⟨fun q => absurd q hn, fun q => ?_⟩
    rw [rRaiseL] at hK
    exact hK
  | n + 1, b, r, s, h0, hb, hK => by
    refine go ok_R_raised 80 ?_
    have hn := i32_lt (b := b) (n := n) (m := 31) (by omega) 31 (by decide)
    have hs := i32_s (b := b) (n := n) (m := 31) h0 (by omega) (by decide)
    refine ⟨fun q => ?_, fun q => absurd hn q⟩
    rw [rRaiseL] at hK
    refine ⟨fun q2 => ?_, fun q2 => ?_⟩
    · rw [if_pos q2] at hK
      refine ⟨_, _, _, L_residueOf _ _ _ ?_, by decide, by decide, by decide⟩
      refine ⟨_, _, _, L_residueOf _ _ _ ?_, by decide, by decide, by decide⟩
      exact l_raised n (b + 1) _ _ (by omega) (by omega) hK
    · rw [if_neg q2] at hK
      refine ⟨_, _, _, L_residueOf _ _ _ ?_, by decide, by decide, by decide⟩
      exact l_raised n (b + 1) _ _ (by omega) (by omega) hK
theorem L_raised (b e m : Int32) (h : mH) (hK : K (.inl (some (.int (rRaise b e m)))) h) : M P n_R_raised [.int b, .int e, .int m] h 0 0 8 K := by
  refine Mgo ok_R_raised 60 rfl ?_
  refine ⟨_, _, _, L_residueOf _ _ _ ?_, by decide, by decide, by decide⟩
  exact l_raised 31 0 _ _ (by decide) (by decide) hK
theorem l_gcd {a b : Int64} {h : mH} : ∀ (n : Nat) (s : Int32) (g l : Int64) (x : Option Value), 0 ≤ s.toInt → s.toInt + n = 1000 → K (.inl (some (.long (rGcdL n g l)))) h →
    G P n_R_greatestDivisor K 6 9 [some (.long a), none, some (.long b), none, some (.long g), none, some (.long l), none, some (.int s), x, none] [] h 0 0
  | 0, s, g, l, x, h0, hb, hK => by
    refine go ok_R_greatestDivisor 80 ?_
    have hn := i32_nlt (m := 1000) (by omega) 1000 (by decide) (b := s)
    refine ⟨fun q => absurd q hn, fun q => ?_⟩
    rw [rGcdL] at hK
    exact hK
  | n + 1, s, g, l, x, h0, hb, hK => by
    refine go ok_R_greatestDivisor 80 ?_
    have hn := i32_lt (b := s) (n := n) (m := 1000) (by omega) 1000 (by decide)
    have hs := i32_s (b := s) (n := n) (m := 1000) h0 (by omega) (by decide)
    refine ⟨fun q => ?_, fun q => absurd hn q⟩
    rw [rGcdL] at hK
    refine ⟨fun q2 => ?_, fun q2 => ?_⟩
    · rw [if_pos q2] at hK
      exact hK
    · rw [if_neg q2] at hK
      refine ⟨q2, ?_⟩
      exact l_gcd n (s + 1) _ _ _ (by omega) (by omega) hK
theorem L_gcd (a b : Int64) (h : mH) (hK : K (.inl (some (.long (rGcd a b)))) h) : M P n_R_greatestDivisor [.long a, .long b] h 0 0 6 K := by
  refine Mgo ok_R_greatestDivisor 60 rfl ?_
  exact l_gcd 1000 0 _ _ none (by decide) (by decide) hK
theorem l_inv {v sz : Int64} {h : mH} : ∀ (n : Nat) (s : Int32) (g l f nf : Int64) (x y z : Option Value), 0 ≤ s.toInt → s.toInt + n = 1000 →
    K (.inl (some (.long (if (rInvL n g l f nf).1 = 1 then wRest (rInvL n g l f nf).2 sz else -1)))) h →
    G P n_R_inverseBelow K 7 19 [some (.long v), none, some (.long sz), none, some (.long g), none, some (.long l), none, some (.long f), none, some (.long nf), none, some (.int s), x, none, y, none, z, none] [] h 0 0
  | 0, s, g, l, f, nf, x, y, z, h0, hb, hK => by
    refine go ok_R_inverseBelow 80 ?_
    have hn := i32_nlt (m := 1000) (by omega) 1000 (by decide) (b := s)
    refine ⟨fun q => absurd q hn, fun q => ?_⟩
    rw [rInvL] at hK
    refine ⟨fun q2 => ?_, fun q2 => ?_⟩
    · rw [if_pos q2] at hK
      refine ⟨_, _, _, L_restOf _ _ _ ?_, by decide, by decide, by decide⟩
      exact hK
    · rw [if_neg q2] at hK
      exact hK
  | n + 1, s, g, l, f, nf, x, y, z, h0, hb, hK => by
    refine go ok_R_inverseBelow 80 ?_
    have hn := i32_lt (b := s) (n := n) (m := 1000) (by omega) 1000 (by decide)
    have hs := i32_s (b := s) (n := n) (m := 1000) h0 (by omega) (by decide)
    refine ⟨fun q => ?_, fun q => absurd hn q⟩
    rw [rInvL] at hK
    refine ⟨fun q2 => ?_, fun q2 => ?_⟩
    · rw [if_pos q2] at hK
      refine ⟨fun q3 => ?_, fun q3 => ?_⟩
      · rw [if_pos q3] at hK
        refine ⟨_, _, _, L_restOf _ _ _ ?_, by decide, by decide, by decide⟩
        exact hK
      · rw [if_neg q3] at hK
        exact hK
    · rw [if_neg q2] at hK
      refine ⟨q2, ?_⟩
      exact l_inv n (s + 1) _ _ _ _ _ _ _ (by omega) (by omega) hK
theorem L_inverseBelow (v sz : Int64) (h : mH) (hK : K (.inl (some (.long (rInv v sz)))) h) : M P n_R_inverseBelow [.long v, .long sz] h 0 0 7 K := by
  refine Mgo ok_R_inverseBelow 60 rfl ?_
  refine ⟨_, _, _, L_restOf _ _ _ ?_, by decide, by decide, by decide⟩
  exact l_inv 1000 0 _ _ _ _ none none none (by decide) (by decide) hK
theorem L_hasInverse (r m : Int32) (h : mH) (hK : K (.inl (some (.int (rHas r m)))) h) : M P n_R_hasInverse [.int r, .int m] h 0 0 8 K := by
  refine Mgo ok_R_hasInverse 60 rfl ?_
  refine ⟨_, _, _, L_sizeOf _ _ ?_, by decide, by decide, by decide⟩
  refine ⟨_, _, _, L_inverseBelow _ _ _ ?_, by decide, by decide, by decide⟩
  refine ⟨fun q => ?_, fun q => ?_⟩
  · exact kZ0 hK (by simp [rHas, q])
  · exact kZ1 hK (by simp [rHas, q])
theorem L_inverseOf (r m : Int32) (h : mH) (hK : K (.inl (some (.int (rInverse r m)))) h) : M P n_R_inverseOf [.int r, .int m] h 0 0 8 K := by
  refine Mgo ok_R_inverseOf 60 rfl ?_
  refine ⟨_, _, _, L_sizeOf _ _ ?_, by decide, by decide, by decide⟩
  refine ⟨_, _, _, L_inverseBelow _ _ _ ?_, by decide, by decide, by decide⟩
  refine ⟨_, _, _, L_residueOf _ _ _ ?_, by decide, by decide, by decide⟩
  exact hK
theorem L_meetingOf (a m b n : Int32) (h : mH) (hK : K (.inl (some (.long (rMeet a m b n)))) h) : M P n_R_meetingOf [.int a, .int m, .int b, .int n] h 0 0 8 K := by
  refine Mgo ok_R_meetingOf 80 rfl ?_
  unfold rMeet at hK
  refine ⟨_, _, _, L_sizeOf _ _ ?_, by decide, by decide, by decide⟩
  refine ⟨_, _, _, L_sizeOf _ _ ?_, by decide, by decide, by decide⟩
  refine ⟨_, _, _, L_restOf _ _ _ ?_, by decide, by decide, by decide⟩
  refine ⟨_, _, _, L_gcd _ _ _ ?_, by decide, by decide, by decide⟩
  refine ⟨_, _, _, L_restOf _ _ _ ?_, by decide, by decide, by decide⟩
  refine ⟨fun q => ?_, fun q => ?_⟩
  · rw [if_pos q] at hK
    refine ⟨_, _, _, L_floorOf _ _ _ ?_, by decide, by decide, by decide⟩
    refine ⟨_, _, _, L_floorOf _ _ _ ?_, by decide, by decide, by decide⟩
    refine ⟨_, _, _, L_floorOf _ _ _ ?_, by decide, by decide, by decide⟩
    refine ⟨_, _, _, L_inverseBelow _ _ _ ?_, by decide, by decide, by decide⟩
    refine ⟨_, _, _, L_restOf _ _ _ ?_, by decide, by decide, by decide⟩
    exact hK
  · rw [if_neg q] at hK
    exact hK
end RES
