/-! THE CLASS: what it says of itself -/
def nx4 (i : Int32) : Int32 := (i + 1) - (i + 1) / 4 * 4
theorem ok_nx4 {i : Int32} (h : ok4 i) : ok4 (nx4 i) := by
  rcases c4 h with rfl | rfl | rfl | rfl <;> decide
def nsL (l : Int32) (s : XS) : Nat → Int32 → Int32
  | 0, _ => 1
  | n + 1, i => if aPair l (xNum l i s) (xNum l (nx4 i) s) = 0 then 0 else nsL l s n (i + 1)
termination_by n => n
def rs1 (s : XS) (r : Int32) : Nat → Int32 → Int32
  | 0, _ => 1
  | n + 1, i => if aRes (xRes r i s) (xMod r s) = 0 then 0 else rs1 s r n (i + 1)
termination_by n => n
def rs2 (s : XS) (r : Int32) : Nat → Int32 → Int32
  | 0, _ => 1
  | n + 1, i => if aKeep (xNum 0 i s) (xNum 0 (nx4 i) s) (xMod r s) = 0 then 0 else rs2 s r n (i + 1)
termination_by n => n
def rsO (s : XS) : Nat → Int32 → Int32
  | 0, _ => 1
  | n + 1, r => if rs1 s r 4 0 = 0 then 0 else if rs2 s r 4 0 = 0 then 0 else rsO s n (r + 1)
termination_by n => n
def msI (s : XS) (i : Int32) : Nat → Int32 → Int32
  | 0, _ => 1
  | n + 1, j => if aMeet (xRes i 0 s) (xMod i s) (xRes j 0 s) (xMod j s) = 0 then 0 else msI s i n (j + 1)
termination_by n => n
def msO (s : XS) : Nat → Int32 → Int32
  | 0, _ => 1
  | n + 1, i => if msI s i n (i + 1) = 0 then 0 else msO s n (i + 1)
termination_by n => n
def xSound (s : XS) : Int32 := if nsL 0 s 4 0 = 0 then 0 else if nsL 1 s 4 0 = 0 then 0 else if rsO s 3 0 = 0 then 0 else if msO s 3 0 = 0 then 0 else 1
def dI (l i : Int32) (s : XS) : Nat → Int32 → Int64 → Int64
  | 0, _, a => a
  | n + 1, w, a => dI l i s n (w + 1) (a * 31 + (xOf l i w s).toInt64)
termination_by n => n
def dN (l : Int32) (s : XS) : Nat → Int32 → Int64 → Int64
  | 0, _, a => a
  | n + 1, i, a => dN l s n (i + 1) (dI l i s 5 0 a)
termination_by n => n
def dH (s : XS) : Nat → Int32 → Int64 → Int64
  | 0, _, a => a
  | n + 1, w, a => dH s n (w + 1) (a * 31 + (xHs w s).toInt64)
termination_by n => n
def dR (s : XS) (r : Int32) : Nat → Int32 → Int64 → Int64
  | 0, _, a => a
  | n + 1, k, a => dR s r n (k + 1) (a * 31 + (xRes r k s).toInt64)
termination_by n => n
def dO (s : XS) : Nat → Int32 → Int64 → Int64
  | 0, _, a => a
  | n + 1, r, a => dO s n (r + 1) (dR s r 4 0 (a * 31 + (xMod r s).toInt64))
termination_by n => n
def xDigest (s : XS) : Int64 := dO s 3 0 (dN 1 s 4 0 (dN 0 s 4 0 (dH s 4 0 7837))) * 31 + (if xSound s = 0 then 0 else 1 : Int32).toInt64
section CLD
variable {P : GP} {K : Kt} {s : XS} {t : mH}
theorem l_ns {l : Int32} : ∀ (n : Nat) (i : Int32), 0 ≤ i.toInt → i.toInt + n = 4 → K (.inl (some (.int (nsL l s n i)))) (hx s t) → G P n_X_areNumbersSound K 10 2 [some (.ref 0), some (.int l), some (.int i)] [] (hx s t) 0 0
  | 0, i, h0, hb, hK => by
    refine go ok_X_areNumbersSound 80 ?_
    have hn := i32_nlt (m := 4) (by omega) 4 (by decide) (b := i)
    refine ⟨fun q => absurd q hn, fun q => ?_⟩
    rw [nsL] at hK
    exact ⟨rfl, hK⟩
  | n + 1, i, h0, hb, hK => by
    refine go ok_X_areNumbersSound 80 ?_
    have hn := i32_lt (b := i) (n := n) (m := 4) (by omega) 4 (by decide)
    have hs := i32_s (b := i) (n := n) (m := 4) h0 (by omega) (by decide)
    have hz : (0 : Int32).toInt = 0 := by decide
    have hi : ok4 i := ⟨fun e => by rw [Int32.lt_iff_toInt_lt] at e; omega, hn⟩
    refine ⟨fun q => ?_, fun q => absurd hn q⟩
    rw [nsL] at hK
    unfold nx4 at hK
    refine ⟨_, _, _, L_numberAt _ _ hi ?_, by decide, by decide, by decide⟩
    refine ⟨by decide, ?_⟩
    refine ⟨_, _, _, L_numberAt _ _ (ok_nx4 hi) ?_, by decide, by decide, by decide⟩
    refine ⟨_, _, _, L_pair _ _ _ _ ?_, by decide, by decide, by decide⟩
    refine ⟨fun q2 => ?_, fun q2 => ?_⟩
    · rw [if_pos q2] at hK
      exact ⟨rfl, hK⟩
    · rw [if_neg q2] at hK
      exact l_ns n (i + 1) (by omega) (by omega) hK
theorem L_areNumbersSound (l : Int32) (hK : K (.inl (some (.int (nsL l s 4 0)))) (hx s t)) : M P n_X_areNumbersSound [.ref 0, .int l] (hx s t) 0 0 10 K := by
  refine Mgo ok_X_areNumbersSound 80 rfl ?_
  exact l_ns 4 0 (by decide) (by decide) hK
theorem l_r2 {r : Int32} (hr : ok3 r) : ∀ (n : Nat) (i : Int32), 0 ≤ i.toInt → i.toInt + n = 4 → (rs2 s r n i = 0 → K (.inl (some (.int 0))) (hx s t)) → (¬ rs2 s r n i = 0 → ∀ x : Option Value, G P n_X_areRingsSound K 10 2 [some (.ref 0), some (.int (r + 1)), some (.int (xMod r s)), x] [] (hx s t) 0 0) → G P n_X_areRingsSound K 10 43 [some (.ref 0), some (.int r), some (.int (xMod r s)), some (.int i)] [] (hx s t) 0 0
  | 0, i, h0, hb, hK, hN => by
    refine go ok_X_areRingsSound 80 ?_
    have hn := i32_nlt (m := 4) (by omega) 4 (by decide) (b := i)
    refine ⟨fun q => absurd q hn, fun q => ?_⟩
    rw [rs2] at hN
    exact hN (by decide) _
  | n + 1, i, h0, hb, hK, hN => by
    refine go ok_X_areRingsSound 80 ?_
    have hn := i32_lt (b := i) (n := n) (m := 4) (by omega) 4 (by decide)
    have hs := i32_s (b := i) (n := n) (m := 4) h0 (by omega) (by decide)
    have hz : (0 : Int32).toInt = 0 := by decide
    have hi : ok4 i := ⟨fun e => by rw [Int32.lt_iff_toInt_lt] at e; omega, hn⟩
    refine ⟨fun q => ?_, fun q => absurd hn q⟩
    rw [rs2] at hK hN
    unfold nx4 at hK hN
    refine ⟨_, _, _, L_numberAt _ _ hi ?_, by decide, by decide, by decide⟩
    refine ⟨by decide, ?_⟩
    refine ⟨_, _, _, L_numberAt _ _ (ok_nx4 hi) ?_, by decide, by decide, by decide⟩
    refine ⟨_, _, _, L_aKeep _ _ _ _ ?_, by decide, by decide, by decide⟩
    refine ⟨fun q2 => ?_, fun q2 => ?_⟩
    · rw [if_pos q2] at hK
      exact ⟨rfl, hK rfl⟩
    · rw [if_neg q2] at hK hN
      exact l_r2 hr n (i + 1) (by omega) (by omega) hK hN
theorem l_r1 {r : Int32} (hr : ok3 r) : ∀ (n : Nat) (i : Int32), 0 ≤ i.toInt → i.toInt + n = 4 → (rs1 s r n i = 0 → K (.inl (some (.int 0))) (hx s t)) → (¬ rs1 s r n i = 0 → ∀ x : Option Value, G P n_X_areRingsSound K 10 43 [some (.ref 0), some (.int r), some (.int (xMod r s)), some (.int 0)] [] (hx s t) 0 0) → G P n_X_areRingsSound K 10 15 [some (.ref 0), some (.int r), some (.int (xMod r s)), some (.int i)] [] (hx s t) 0 0
  | 0, i, h0, hb, hK, hN => by
    refine go ok_X_areRingsSound 80 ?_
    have hn := i32_nlt (m := 4) (by omega) 4 (by decide) (b := i)
    refine ⟨fun q => absurd q hn, fun q => ?_⟩
    rw [rs1] at hN
    exact hN (by decide) none
  | n + 1, i, h0, hb, hK, hN => by
    refine go ok_X_areRingsSound 80 ?_
    have hn := i32_lt (b := i) (n := n) (m := 4) (by omega) 4 (by decide)
    have hs := i32_s (b := i) (n := n) (m := 4) h0 (by omega) (by decide)
    have hz : (0 : Int32).toInt = 0 := by decide
    have hi : ok4 i := ⟨fun e => by rw [Int32.lt_iff_toInt_lt] at e; omega, hn⟩
    refine ⟨fun q => ?_, fun q => absurd hn q⟩
    rw [rs1] at hK hN
    refine ⟨_, _, _, L_residueAt _ _ hr hi ?_, by decide, by decide, by decide⟩
    refine ⟨_, _, _, L_aRes _ _ _ ?_, by decide, by decide, by decide⟩
    refine ⟨fun q2 => ?_, fun q2 => ?_⟩
    · rw [if_pos q2] at hK
      exact ⟨rfl, hK rfl⟩
    · rw [if_neg q2] at hK hN
      exact l_r1 hr n (i + 1) (by omega) (by omega) hK hN
theorem l_rO : ∀ (n : Nat) (r : Int32) (x y : Option Value), 0 ≤ r.toInt → r.toInt + n = 3 → K (.inl (some (.int (rsO s n r)))) (hx s t) → G P n_X_areRingsSound K 10 2 [some (.ref 0), some (.int r), x, y] [] (hx s t) 0 0
  | 0, r, x, y, h0, hb, hK => by
    refine go ok_X_areRingsSound 80 ?_
    have hn := i32_nlt (m := 3) (by omega) 3 (by decide) (b := r)
    refine ⟨fun q => absurd q hn, fun q => ?_⟩
    rw [rsO] at hK
    exact ⟨rfl, hK⟩
  | n + 1, r, x, y, h0, hb, hK => by
    refine go ok_X_areRingsSound 80 ?_
    have hn := i32_lt (b := r) (n := n) (m := 3) (by omega) 3 (by decide)
    have hs := i32_s (b := r) (n := n) (m := 3) h0 (by omega) (by decide)
    have hz : (0 : Int32).toInt = 0 := by decide
    have hi : ok3 r := ⟨fun e => by rw [Int32.lt_iff_toInt_lt] at e; omega, hn⟩
    refine ⟨fun q => ?_, fun q => absurd hn q⟩
    rw [rsO] at hK
    refine ⟨_, _, _, L_modulusAt _ hi ?_, by decide, by decide, by decide⟩
    refine l_r1 hi 4 0 (by decide) (by decide) (fun e => ?_) (fun e _ => ?_)
    · rw [if_pos e] at hK
      exact hK
    · rw [if_neg e] at hK
      refine l_r2 hi 4 0 (by decide) (by decide) (fun e => ?_) (fun e x => ?_)
      · rw [if_pos e] at hK
        exact hK
      · rw [if_neg e] at hK
        exact l_rO n (r + 1) _ x (by omega) (by omega) hK
theorem L_areRingsSound (hK : K (.inl (some (.int (rsO s 3 0)))) (hx s t)) : M P n_X_areRingsSound [.ref 0] (hx s t) 0 0 10 K := by
  refine Mgo ok_X_areRingsSound 80 rfl ?_
  exact l_rO 3 0 none none (by decide) (by decide) hK
theorem l_mI {i : Int32} (hr : ok3 i) : ∀ (n : Nat) (j : Int32), 0 ≤ j.toInt → j.toInt + n = 3 → (msI s i n j = 0 → K (.inl (some (.int 0))) (hx s t)) → (¬ msI s i n j = 0 → ∀ x, G P n_X_areMeetingsSound K 10 2 [some (.ref 0), some (.int (i + 1)), x] [] (hx s t) 0 0) → G P n_X_areMeetingsSound K 10 11 [some (.ref 0), some (.int i), some (.int j)] [] (hx s t) 0 0
  | 0, j, h0, hb, hK, hN => by
    refine go ok_X_areMeetingsSound 80 ?_
    have hn := i32_nlt (m := 3) (by omega) 3 (by decide) (b := j)
    refine ⟨fun q => absurd q hn, fun q => ?_⟩
    rw [msI] at hN
    exact hN (by decide) _
  | n + 1, j, h0, hb, hK, hN => by
    refine go ok_X_areMeetingsSound 80 ?_
    have hn := i32_lt (b := j) (n := n) (m := 3) (by omega) 3 (by decide)
    have hs := i32_s (b := j) (n := n) (m := 3) h0 (by omega) (by decide)
    have hz : (0 : Int32).toInt = 0 := by decide
    have hi : ok3 j := ⟨fun e => by rw [Int32.lt_iff_toInt_lt] at e; omega, hn⟩
    refine ⟨fun q => ?_, fun q => absurd hn q⟩
    rw [msI] at hK hN
    refine ⟨_, _, _, L_residueAt _ _ hr (by decide) ?_, by decide, by decide, by decide⟩
    refine ⟨_, _, _, L_modulusAt _ hr ?_, by decide, by decide, by decide⟩
    refine ⟨_, _, _, L_residueAt _ _ hi (by decide) ?_, by decide, by decide, by decide⟩
    refine ⟨_, _, _, L_modulusAt _ hi ?_, by decide, by decide, by decide⟩
    refine ⟨_, _, _, L_aMeet _ _ _ _ _ ?_, by decide, by decide, by decide⟩
    refine ⟨fun q2 => ?_, fun q2 => ?_⟩
    · rw [if_pos q2] at hK
      exact ⟨rfl, hK rfl⟩
    · rw [if_neg q2] at hK hN
      exact l_mI hr n (j + 1) (by omega) (by omega) hK hN
theorem l_mO : ∀ (n : Nat) (i : Int32) (x : Option Value), 0 ≤ i.toInt → i.toInt + n = 3 → K (.inl (some (.int (msO s n i)))) (hx s t) → G P n_X_areMeetingsSound K 10 2 [some (.ref 0), some (.int i), x] [] (hx s t) 0 0
  | 0, i, x, h0, hb, hK => by
    refine go ok_X_areMeetingsSound 80 ?_
    have hn := i32_nlt (m := 3) (by omega) 3 (by decide) (b := i)
    refine ⟨fun q => absurd q hn, fun q => ?_⟩
    rw [msO] at hK
    exact ⟨rfl, hK⟩
  | n + 1, i, x, h0, hb, hK => by
    refine go ok_X_areMeetingsSound 80 ?_
    have hn := i32_lt (b := i) (n := n) (m := 3) (by omega) 3 (by decide)
    have hs := i32_s (b := i) (n := n) (m := 3) h0 (by omega) (by decide)
    have hz : (0 : Int32).toInt = 0 := by decide
    have hi : ok3 i := ⟨fun e => by rw [Int32.lt_iff_toInt_lt] at e; omega, hn⟩
    refine ⟨fun q => ?_, fun q => absurd hn q⟩
    rw [msO] at hK
    refine l_mI hi n (i + 1) (by omega) (by omega) (fun e => ?_) (fun e x => ?_)
    · rw [if_pos e] at hK
      exact hK
    · rw [if_neg e] at hK
      exact l_mO n (i + 1) x (by omega) (by omega) hK
theorem L_areMeetingsSound (hK : K (.inl (some (.int (msO s 3 0)))) (hx s t)) : M P n_X_areMeetingsSound [.ref 0] (hx s t) 0 0 10 K := by
  refine Mgo ok_X_areMeetingsSound 80 rfl ?_
  exact l_mO 3 0 none (by decide) (by decide) hK
theorem L_isSound (hK : K (.inl (some (.int (xSound s)))) (hx s t)) : M P n_X_isSound [.ref 0] (hx s t) 0 0 11 K := by
  refine Mgo ok_X_isSound 80 rfl ?_
  unfold xSound at hK
  refine ⟨_, _, _, L_areNumbersSound _ ?_, by decide, by decide, by decide⟩
  refine ⟨fun q1 => ?_, fun q1 => ?_⟩
  · rw [if_pos q1] at hK
    exact ⟨rfl, hK⟩
  · rw [if_neg q1] at hK
    refine ⟨_, _, _, L_areNumbersSound _ ?_, by decide, by decide, by decide⟩
    refine ⟨fun q2 => ?_, fun q2 => ?_⟩
    · rw [if_pos q2] at hK
      exact ⟨rfl, hK⟩
    · rw [if_neg q2] at hK
      refine ⟨_, _, _, L_areRingsSound ?_, by decide, by decide, by decide⟩
      refine ⟨fun q3 => ?_, fun q3 => ?_⟩
      · rw [if_pos q3] at hK
        exact ⟨rfl, hK⟩
      · rw [if_neg q3] at hK
        refine ⟨_, _, _, L_areMeetingsSound ?_, by decide, by decide, by decide⟩
        refine ⟨fun q4 => ?_, fun q4 => ?_⟩
        · rw [if_pos q4] at hK
          exact ⟨rfl, hK⟩
        · rw [if_neg q4] at hK
          exact ⟨rfl, hK⟩
theorem l_dI {l i : Int32} {a0 : Int64} (hk : ok4 i) : ∀ (n : Nat) (w : Int32) (a : Int64), 0 ≤ w.toInt → w.toInt + n = 5 → (∀ x, G P n_X_digestNumbers K 12 6 [some (.ref 0), some (.long a0), none, some (.int l), some (.long (dI l i s n w a)), none, some (.int (i + 1)), x] [] (hx s t) 0 0) → G P n_X_digestNumbers K 12 15 [some (.ref 0), some (.long a0), none, some (.int l), some (.long a), none, some (.int i), some (.int w)] [] (hx s t) 0 0
  | 0, w, a, h0, hb, hK => by
    refine go ok_X_digestNumbers 80 ?_
    have hn := i32_nlt (m := 5) (by omega) 5 (by decide) (b := w)
    have hn : 4 < w := by
      rw [Int32.lt_iff_toInt_lt]
      have e : (4 : Int32).toInt = 4 := by decide
      omega
    refine ⟨fun q => ?_, fun q => absurd hn q⟩
    rw [dI] at hK
    exact hK _
  | n + 1, w, a, h0, hb, hK => by
    refine go ok_X_digestNumbers 80 ?_
    have hs := i32_s (b := w) (n := n) (m := 5) h0 (by omega) (by decide)
    have hz : (0 : Int32).toInt = 0 := by decide
    have hi : okC w 4 := by
      have e : (4 : Int32).toInt = 4 := by decide
      refine ⟨fun e => ?_, fun e => ?_⟩
      · rw [Int32.lt_iff_toInt_lt] at e
        omega
      · rw [Int32.lt_iff_toInt_lt] at e
        omega
    refine ⟨fun q => absurd q hi.2, fun q => ?_⟩
    rw [dI] at hK
    refine ⟨_, _, _, L_ofNumber0 _ _ _ hk hi ?_, by decide, by decide, by decide⟩
    exact l_dI hk n (w + 1) _ (by omega) (by omega) hK
theorem l_dN {l : Int32} {a0 : Int64} : ∀ (n : Nat) (i : Int32) (a : Int64) (x : Option Value), 0 ≤ i.toInt → i.toInt + n = 4 → K (.inl (some (.long (dN l s n i a)))) (hx s t) → G P n_X_digestNumbers K 12 6 [some (.ref 0), some (.long a0), none, some (.int l), some (.long a), none, some (.int i), x] [] (hx s t) 0 0
  | 0, i, a, x, h0, hb, hK => by
    refine go ok_X_digestNumbers 80 ?_
    have hn := i32_nlt (m := 4) (by omega) 4 (by decide) (b := i)
    refine ⟨fun q => absurd q hn, fun q => ?_⟩
    rw [dN] at hK
    exact hK
  | n + 1, i, a, x, h0, hb, hK => by
    refine go ok_X_digestNumbers 80 ?_
    have hn := i32_lt (b := i) (n := n) (m := 4) (by omega) 4 (by decide)
    have hs := i32_s (b := i) (n := n) (m := 4) h0 (by omega) (by decide)
    have hz : (0 : Int32).toInt = 0 := by decide
    have hi : ok4 i := ⟨fun e => by rw [Int32.lt_iff_toInt_lt] at e; omega, hn⟩
    refine ⟨fun q => ?_, fun q => absurd hn q⟩
    rw [dN] at hK
    exact l_dI hi 5 0 a (by decide) (by decide) (fun x => l_dN n (i + 1) _ x (by omega) (by omega) hK)
theorem L_digestNumbers (a : Int64) (l : Int32) (hK : K (.inl (some (.long (dN l s 4 0 a)))) (hx s t)) : M P n_X_digestNumbers [.ref 0, .long a, .int l] (hx s t) 0 0 12 K := by
  refine Mgo ok_X_digestNumbers 80 rfl ?_
  exact l_dN 4 0 a none (by decide) (by decide) hK
theorem l_dR {r : Int32} (hr : ok3 r) : ∀ (n : Nat) (k : Int32) (a : Int64), 0 ≤ k.toInt → k.toInt + n = 4 → (∀ x, G P n_X_digest K 13 46 [some (.ref 0), some (.long (dR s r n k a)), none, some (.int (r + 1)), x] [] (hx s t) 0 0) → G P n_X_digest K 13 67 [some (.ref 0), some (.long a), none, some (.int r), some (.int k)] [] (hx s t) 0 0
  | 0, k, a, h0, hb, hK => by
    refine go ok_X_digest 80 ?_
    have hn := i32_nlt (m := 4) (by omega) 4 (by decide) (b := k)
    refine ⟨fun q => absurd q hn, fun q => ?_⟩
    rw [dR] at hK
    exact hK _
  | n + 1, k, a, h0, hb, hK => by
    refine go ok_X_digest 80 ?_
    have hn := i32_lt (b := k) (n := n) (m := 4) (by omega) 4 (by decide)
    have hs := i32_s (b := k) (n := n) (m := 4) h0 (by omega) (by decide)
    have hz : (0 : Int32).toInt = 0 := by decide
    have hi : ok4 k := ⟨fun e => by rw [Int32.lt_iff_toInt_lt] at e; omega, hn⟩
    refine ⟨fun q => ?_, fun q => absurd hn q⟩
    rw [dR] at hK
    refine ⟨_, _, _, L_residueAt _ _ hr hi ?_, by decide, by decide, by decide⟩
    exact l_dR hr n (k + 1) _ (by omega) (by omega) hK
theorem l_dO : ∀ (n : Nat) (r : Int32) (a : Int64) (x : Option Value), 0 ≤ r.toInt → r.toInt + n = 3 → K (.inl (some (.long (dO s n r a * 31 + (if xSound s = 0 then 0 else 1 : Int32).toInt64)))) (hx s t) → G P n_X_digest K 13 46 [some (.ref 0), some (.long a), none, some (.int r), x] [] (hx s t) 0 0
  | 0, r, a, x, h0, hb, hK => by
    refine go ok_X_digest 80 ?_
    have hn := i32_nlt (m := 3) (by omega) 3 (by decide) (b := r)
    refine ⟨fun q => absurd q hn, fun q => ?_⟩
    rw [dO] at hK
    refine ⟨_, _, _, L_isSound ?_, by decide, by decide, by decide⟩
    refine ⟨fun q2 => ?_, fun q2 => ?_⟩
    · rw [if_pos q2] at hK
      exact hK
    · rw [if_neg q2] at hK
      exact hK
  | n + 1, r, a, x, h0, hb, hK => by
    refine go ok_X_digest 80 ?_
    have hn := i32_lt (b := r) (n := n) (m := 3) (by omega) 3 (by decide)
    have hs := i32_s (b := r) (n := n) (m := 3) h0 (by omega) (by decide)
    have hz : (0 : Int32).toInt = 0 := by decide
    have hi : ok3 r := ⟨fun e => by rw [Int32.lt_iff_toInt_lt] at e; omega, hn⟩
    refine ⟨fun q => ?_, fun q => absurd hn q⟩
    rw [dO] at hK
    refine ⟨_, _, _, L_modulusAt _ hi ?_, by decide, by decide, by decide⟩
    exact l_dR hi 4 0 _ (by decide) (by decide) (fun x => l_dO n (r + 1) _ x (by omega) (by omega) hK)
theorem l_dH : ∀ (n : Nat) (w : Int32) (a : Int64) (x : Option Value), 0 ≤ w.toInt → w.toInt + n = 4 → K (.inl (some (.long (dO s 3 0 (dN 1 s 4 0 (dN 0 s 4 0 (dH s n w a))) * 31 + (if xSound s = 0 then 0 else 1 : Int32).toInt64)))) (hx s t) → G P n_X_digest K 13 6 [some (.ref 0), some (.long a), none, some (.int w), x] [] (hx s t) 0 0
  | 0, w, a, x, h0, hb, hK => by
    refine go ok_X_digest 80 ?_
    have hn := i32_nlt (m := 4) (by omega) 4 (by decide) (b := w)
    have hn : 3 < w := by
      rw [Int32.lt_iff_toInt_lt]
      have e : (3 : Int32).toInt = 3 := by decide
      omega
    refine ⟨fun q => ?_, fun q => absurd hn q⟩
    rw [dH] at hK
    refine ⟨_, _, _, L_digestNumbers _ _ ?_, by decide, by decide, by decide⟩
    refine ⟨_, _, _, L_digestNumbers _ _ ?_, by decide, by decide, by decide⟩
    exact l_dO 3 0 _ _ (by decide) (by decide) hK
  | n + 1, w, a, x, h0, hb, hK => by
    refine go ok_X_digest 80 ?_
    have hs := i32_s (b := w) (n := n) (m := 4) h0 (by omega) (by decide)
    have hz : (0 : Int32).toInt = 0 := by decide
    have hi : okC w 3 := by
      have e : (3 : Int32).toInt = 3 := by decide
      refine ⟨fun e => ?_, fun e => ?_⟩
      · rw [Int32.lt_iff_toInt_lt] at e
        omega
      · rw [Int32.lt_iff_toInt_lt] at e
        omega
    refine ⟨fun q => absurd q hi.2, fun q => ?_⟩
    rw [dH] at hK
    refine ⟨_, _, _, L_house0 _ hi ?_, by decide, by decide, by decide⟩
    exact l_dH n (w + 1) _ _ (by omega) (by omega) hK
theorem L_digest (hK : K (.inl (some (.long (xDigest s)))) (hx s t)) : M P n_X_digest [.ref 0] (hx s t) 0 0 13 K := by
  refine Mgo ok_X_digest 80 rfl ?_
  unfold xDigest at hK
  exact l_dH 4 0 _ none (by decide) (by decide) hK
end CLD
