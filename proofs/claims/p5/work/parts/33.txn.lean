/-! TEXTS: how many digits a number has; numbers are added -/
def ndg (a : Nat) : Nat := if a < 10 then 1 else ndg (a / 10) + 1
termination_by a
theorem ndg_s {a : Nat} (h : a < 10) : ndg a = 1 := by rw [ndg, if_pos h]
theorem ndg_g {a : Nat} (h : ¬ a < 10) : ndg a = ndg (a / 10) + 1 := by rw [ndg, if_neg h]
theorem ndg_pos (a : Nat) : 1 ≤ ndg a := by
  by_cases h : a < 10
  · rw [ndg_s h]
    exact Nat.le_refl _
  · rw [ndg_g h]
    omega
theorem ndg_up : ∀ (j a : Nat), a < 10 ^ (j + 1) → ndg a ≤ j + 1
  | 0, a, h => by
    rw [ndg_s (by simpa using h)]
    exact Nat.le_refl _
  | j + 1, a, h => by
    by_cases h1 : a < 10
    · rw [ndg_s h1]
      omega
    · rw [ndg_g h1]
      rw [Nat.pow_succ] at h
      have := ndg_up j (a / 10) (by omega)
      omega
theorem ndg_lo : ∀ (j a : Nat), 10 ^ j ≤ a → j + 1 ≤ ndg a
  | 0, a, _ => ndg_pos a
  | j + 1, a, h => by
    rw [Nat.pow_succ] at h
    have hp : 0 < 10 ^ j := Nat.pow_pos (by decide)
    rw [ndg_g (by omega)]
    have := ndg_lo j (a / 10) (by omega)
    omega
theorem ndg_eq {j a : Nat} (h1 : j = 0 ∨ 10 ^ j ≤ a) (h2 : a < 10 ^ (j + 1)) : ndg a = j + 1 := by
  have u := ndg_up j a h2
  rcases h1 with rfl | h1
  · have := ndg_pos a
    omega
  · have := ndg_lo j a h1
    omega
theorem i10 : (10 : Int32).toInt = 10 := by decide
theorem i0 : (0 : Int32).toInt = 0 := by decide
theorem i1 : (1 : Int32).toInt = 1 := by decide
theorem im1 : (-1 : Int32).toInt = -1 := by decide
theorem i100 : (100 : Int32).toInt = 100 := by decide
theorem im100 : (-100 : Int32).toInt = -100 := by decide
theorem im9 : (-9 : Int32).toInt = -9 := by decide
theorem l0 : (0 : Int64).toInt = 0 := by decide
theorem l10 : (10 : Int64).toInt = 10 := by decide
theorem l100 : (100 : Int64).toInt = 100 := by decide
theorem lmi : (-2147483648 : Int64).toInt = -2147483648 := by decide
def sgN (x : Int) : Nat := if x < 0 then 1 else 0
def tl (x : Int) : Nat := ndg x.natAbs + sgN x
def Ks (v : Nat) (h h' : mH) : Prop := h'.length = h.length ∧ ∀ i, i ≠ v → nth h' i = nth h i
theorem Ks.rf {v : Nat} {h : mH} : Ks v h h := ⟨rfl, fun _ _ => rfl⟩
theorem Ks.st {v : Nat} {h h1 : mH} {c : va_E} (a : Ks v h h1) : Ks v h (h1.set v c) := ⟨by rw [List.length_set]; exact a.1, fun i hi => (nth_sn (Ne.symm hi)).trans (a.2 i hi)⟩
theorem Ks.kp {p v : Nat} {h h1 : mH} (a : Ks v h h1) (hv : p ≤ v) (hp : p ≤ h.length) : Kp p h h1 := ⟨by rw [a.1]; exact hp, fun i hi => a.2 i (by omega)⟩
theorem p10 {p : Int32} {T : Nat} (hp : p.toInt = -(T : Int)) (hb : T ≤ 100000000) : (10 * p).toInt = -((T * 10 : Nat) : Int) := by
  rw [Int32.toInt_mul, i10, hp, Int.bmod_eq_of_le (by omega) (by omega)]
  omega
theorem p10l {p : Int64} {T : Nat} (hp : p.toInt = -(T : Int)) (hb : T ≤ 100000000000000000) : (10 * p).toInt = -((T * 10 : Nat) : Int) := by
  rw [Int64.toInt_mul, l10, hp, Int.bmod_eq_of_le (by omega) (by omega)]
  omega
def wk : mLs → mLs → Prop
  | [], [] => True
  | none :: t, _ :: r => wk t r
  | some v :: t, x :: r => x = some v ∧ wk t r
  | _, _ => False
theorem wk_of : ∀ (L' L : mLs), wk L' L → L'.length = L.length ∧ ∀ j w, nth L' j = some (some w) → nth L j = some (some w)
  | [], [], _ => ⟨rfl, fun _ _ h => by cases h⟩
  | none :: t, x :: r, h => by
    have ih := wk_of t r h
    refine ⟨by rw [List.length_cons, List.length_cons, ih.1], fun j w hj => ?_⟩
    cases j with
    | zero => cases hj
    | succ j => exact ih.2 j w hj
  | some v :: t, x :: r, h => by
    have ih := wk_of t r h.2
    refine ⟨by rw [List.length_cons, List.length_cons, ih.1], fun j w hj => ?_⟩
    cases j with
    | zero =>
      cases hj
      exact congrArg some h.1
    | succ j => exact ih.2 j w hj
  | [], _ :: _, h => h.elim
  | none :: _, [], h => h.elim
  | some _ :: _, [], h => h.elim
/-- what is known of the locals may be forgotten -/
theorem G_wk {P : GP} {a : Nat} {K : Kt} {d pc : Nat} {L L' : mLs} {st : List Value} {h : mH} {cb sb : Nat} (hw : wk L' L) (q : G P a K d pc L' st h cb sb) : G P a K d pc L st h cb sb := by
  obtain ⟨h1, h2⟩ := wk_of L' L hw
  intro p e R s m args below meth c H locs cells slots ls F Y V
  refine q p e R s m args below meth c H locs cells slots ls F Y ⟨⟨V.1.1, V.1.2.1, fun x hx => ?_⟩, by rw [h1]; exact V.2⟩
  obtain ⟨j, v, hj, rfl⟩ := lvl_of P _ _ _ hx
  refine V.1.2.2 _ ?_
  have := lvl_mem P _ 0 _ _ (h2 j v hj)
  rw [Nat.add_comm] at this
  rw [Nat.add_comm]
  exact this
section TXN
variable {P : GP} {K : Kt} {h : mH}
theorem l_iss {i : Int32} {a sg : Nat} (ha : i.toInt = -(a : Int)) (hs : sg ≤ 1) (hK : K (.inl (some (.int (Int32.ofNat (ndg a + sg))))) h) : ∀ (n J : Nat) (p : Int32), J + n = 9 → (J < 9 → p.toInt = -((10 ^ (J + 1) : Nat) : Int)) → (J = 0 ∨ 10 ^ J ≤ a) →
    G P n_INT_stringSize K 6 16 [some (.int i), some (.int (Int32.ofNat sg)), some (.int p), some (.int (Int32.ofNat (J + 1)))] [] h 0 0
  | 0, J, p, hJ, hp, hl => by
    have hJ : J = 9 := by omega
    subst hJ
    refine go ok_INT_stringSize 80 ?_
    refine ⟨fun e => absurd e (by decide), fun _ => ?_⟩
    have h1 := i.le_toInt
    have e : ndg a = 10 := ndg_eq (j := 9) hl (by
      have : (10 : Nat) ^ (9 + 1) = 10000000000 := by decide
      rw [this]
      omega)
    rw [e] at hK
    have hK2 : K (.inl (some (.int (10 + Int32.ofNat sg)))) h := by
      rw [show (10 : Int32) + Int32.ofNat sg = Int32.ofNat (10 + sg) from oA 10 sg]
      exact hK
    exact hK2
  | n + 1, J, p, hJ, hp, hl => by
    have hp := hp (by omega)
    refine go ok_INT_stringSize 80 ?_
    refine ⟨fun _ => ?_, fun e => absurd ((oNl (n := 10) (by omega) (by decide)).mpr (by omega)) e⟩
    refine ⟨fun e => ?_, fun e => ?_⟩
    · rw [Int32.lt_iff_toInt_lt, hp, ha] at e
      have e2 : ndg a = J + 1 := ndg_eq hl (by omega)
      rw [e2] at hK
      have hK2 : K (.inl (some (.int (Int32.ofNat (J + 1) + Int32.ofNat sg)))) h := by
        rw [oA]
        exact hK
      exact hK2
    · rw [Int32.lt_iff_toInt_lt, hp, ha] at e
      have hge : 10 ^ (J + 1) ≤ a := by omega
      have := l_iss ha hs hK n (J + 1) (10 * p) (by omega) (fun h9 => by
        have hb : (10 : Nat) ^ (J + 1) ≤ 10 ^ 8 := Nat.pow_le_pow_right (by decide) (by omega)
        rw [Nat.pow_succ 10 (J + 1)]
        exact p10 hp hb) (Or.inr hge)
      rw [← o1 (J + 1)] at this
      exact this
theorem L_iss (x : Int32) (hK : K (.inl (some (.int (Int32.ofNat (tl x.toInt))))) h) : M P n_INT_stringSize [.int x] h 0 0 6 K := by
  refine Mgo ok_INT_stringSize 60 rfl ?_
  unfold tl sgN at hK
  have h1 := x.le_toInt
  have h2 := x.toInt_lt
  refine ⟨fun e => ?_, fun e => ?_⟩
  · rw [Int32.lt_iff_toInt_lt, i0] at e
    rw [if_pos e] at hK
    exact l_iss (a := x.toInt.natAbs) (sg := 1) (by omega) (by decide) hK 9 0 (-10) (by decide) (fun _ => by decide) (Or.inl rfl)
  · rw [Int32.lt_iff_toInt_lt, i0] at e
    rw [if_neg e] at hK
    have hn : (-x).toInt = -x.toInt := by
      rw [Int32.toInt_neg]
      exact Int.bmod_eq_of_le (by omega) (by omega)
    exact l_iss (a := x.toInt.natAbs) (sg := 0) (by omega) (by decide) hK 9 0 (-10) (by decide) (fun _ => by decide) (Or.inl rfl)
theorem l_lss {i : Int64} {a sg : Nat} (ha : i.toInt = -(a : Int)) (hs : sg ≤ 1) (hK : K (.inl (some (.int (Int32.ofNat (ndg a + sg))))) h) : ∀ (n J : Nat) (p : Int64), J + n = 18 → (J < 18 → p.toInt = -((10 ^ (J + 1) : Nat) : Int)) → (J = 0 ∨ 10 ^ J ≤ a) →
    G P n_LNG_stringSize K 6 20 [some (.long i), none, some (.int (Int32.ofNat sg)), some (.long p), none, some (.int (Int32.ofNat (J + 1)))] [] h 0 0
  | 0, J, p, hJ, hp, hl => by
    have hJ : J = 18 := by omega
    subst hJ
    refine go ok_LNG_stringSize 80 ?_
    refine ⟨fun e => absurd e (by decide), fun _ => ?_⟩
    have h1 := i.le_toInt
    have e : ndg a = 19 := ndg_eq (j := 18) hl (by
      have : (10 : Nat) ^ (18 + 1) = 10000000000000000000 := by decide
      rw [this]
      omega)
    rw [e] at hK
    have hK2 : K (.inl (some (.int (19 + Int32.ofNat sg)))) h := by
      rw [show (19 : Int32) + Int32.ofNat sg = Int32.ofNat (19 + sg) from oA 19 sg]
      exact hK
    exact hK2
  | n + 1, J, p, hJ, hp, hl => by
    have hp := hp (by omega)
    refine go ok_LNG_stringSize 80 ?_
    refine ⟨fun _ => ?_, fun e => absurd ((oNl (n := 19) (by omega) (by decide)).mpr (by omega)) e⟩
    refine ⟨fun e => ?_, fun e => ?_⟩
    · rw [Int64.lt_iff_toInt_lt, hp, ha] at e
      have e2 : ndg a = J + 1 := ndg_eq hl (by omega)
      rw [e2] at hK
      have hK2 : K (.inl (some (.int (Int32.ofNat (J + 1) + Int32.ofNat sg)))) h := by
        rw [oA]
        exact hK
      exact hK2
    · rw [Int64.lt_iff_toInt_lt, hp, ha] at e
      have hge : 10 ^ (J + 1) ≤ a := by omega
      have := l_lss ha hs hK n (J + 1) (10 * p) (by omega) (fun h9 => by
        have hb : (10 : Nat) ^ (J + 1) ≤ 10 ^ 17 := Nat.pow_le_pow_right (by decide) (by omega)
        rw [Nat.pow_succ 10 (J + 1)]
        exact p10l hp hb) (Or.inr hge)
      rw [← o1 (J + 1)] at this
      exact this
theorem L_lss (x : Int64) (hK : K (.inl (some (.int (Int32.ofNat (tl x.toInt))))) h) : M P n_LNG_stringSize [.long x] h 0 0 6 K := by
  refine Mgo ok_LNG_stringSize 60 rfl ?_
  unfold tl sgN at hK
  have h1 := x.le_toInt
  have h2 := x.toInt_lt
  refine ⟨fun e => ?_, fun e => ?_⟩
  · rw [Int64.lt_iff_toInt_lt, l0] at e
    rw [if_pos e] at hK
    exact l_lss (a := x.toInt.natAbs) (sg := 1) (by omega) (by decide) hK 18 0 (-10) (by decide) (fun _ => by decide) (Or.inl rfl)
  · rw [Int64.lt_iff_toInt_lt, l0] at e
    rw [if_neg e] at hK
    have hn : (-x).toInt = -x.toInt := by
      rw [Int64.toInt_neg]
      exact Int.bmod_eq_of_le (by omega) (by omega)
    exact l_lss (a := x.toInt.natAbs) (sg := 0) (by omega) (by decide) hK 18 0 (-10) (by decide) (fun _ => by decide) (Or.inl rfl)
/-- one step back, a sign put there -/
theorem bk {c : Int32} {k : Nat} (hc : c.toInt = (k : Int)) (hk : 1 ≤ k) : (c + -1).toInt = ((k - 1 : Nat) : Int) := by
  have h1 := c.toInt_lt
  rw [Int32.toInt_add, im1, hc]
  rw [Int.bmod_eq_of_le (by omega) (by omega)]
  omega
theorem vpk {c : Int32} {k n : Nat} (hc : c.toInt = (k : Int)) (hk : k < n) : vp_in c n := by
  rw [vp_in_iff, hc]
  omega
theorem q100 {i : Int32} {a : Nat} (ha : i.toInt = -(a : Int)) : (i / 100).toInt = -((a / 100 : Nat) : Int) := by
  have h1 := i.le_toInt
  rw [Int32.toInt_div, i100, ha, Int.neg_tdiv, Int.tdiv_eq_ediv_of_nonneg (by omega)]
  rw [Int.bmod_eq_of_le (by omega) (by omega)]
  omega
theorem r100 {i : Int32} {a : Nat} (ha : i.toInt = -(a : Int)) : (i / 100 * 100 - i).toInt = ((a % 100 : Nat) : Int) := by
  have h1 := i.le_toInt
  have hm : (i / 100 * 100).toInt = -((a / 100 : Nat) : Int) * 100 := by
    rw [Int32.toInt_mul, q100 ha, i100]
    exact Int.bmod_eq_of_le (by omega) (by omega)
  rw [Int32.toInt_sub, hm, ha, Int.bmod_eq_of_le (by omega) (by omega)]
  omega
theorem ng {i : Int32} {a : Nat} (ha : i.toInt = -(a : Int)) (h : a < 2147483648) : (-i).toInt = (a : Int) := by
  rw [Int32.toInt_neg, ha]
  exact (Int.bmod_eq_of_le (by omega) (by omega)).trans (by omega)
theorem nd100 {a : Nat} (h : ¬ a < 100) : ndg a = ndg (a / 100) + 2 := by
  rw [ndg_g (by omega), ndg_g (by omega), Nat.div_div_eq_div_mul]
theorem nd2 {a : Nat} (h : ¬ a < 10) (h2 : a < 100) : ndg a = 2 := by
  rw [ndg_g h, ndg_s (by omega)]
theorem sg0 {sg : Nat} (hs : sg ≤ 1) : Int32.ofNat sg = 0 ↔ sg = 0 := oNi (n := 0) (by omega) (by decide)
theorem l_igt {v n sg : Nat} {h0 : mH} (hs : sg ≤ 1) (hK : ∀ h' g' r, Ks v h0 h' → isA h' v n g' → BF g' → K (.inl (some (.int r))) h') : ∀ (a k : Nat) (i cp : Int32) (h : mH) (g : Nat → Int32), i.toInt = -(a : Int) → cp.toInt = (k : Int) → ndg a + sg ≤ k → k ≤ n → Ks v h0 h → isA h v n g → BF g →
    G P n_INT_getChars K 6 22 [some (.int i), none, some (.ref v), none, none, some (.int cp), some (.int (Int32.ofNat sg))] [] h 0 0 := by
  intro a
  induction a using Nat.strongRecOn with
  | _ a ih =>
    intro k i cp h g hi hcp hk hkn hks ha hg
    have hnp := ndg_pos a
    refine go ok_INT_getChars 80 ?_
    refine ⟨fun e => ?_, fun e => ?_⟩
    · rw [Int32.lt_iff_toInt_lt, im100, hi] at e
      have c1 := bk hcp (by omega)
      have hneg := ng hi (by omega)
      refine ⟨vpk hneg (by omega), ?_⟩
      conv => whnf
      rw [ha]
      refine ⟨vpk c1 (by omega), ?_⟩
      refine ⟨fun e2 => ?_, fun e2 => ?_⟩
      · rw [Int32.lt_iff_toInt_lt, im9, hi] at e2
        have h2 := nd2 (a := a) (by omega) (by omega)
        have c2 := bk c1 (by omega)
        refine ⟨vpk hneg (by omega), ?_⟩
        conv => whnf
        rw [(nth_se ha)]
        refine ⟨vpk c2 (by omega), ?_⟩
        refine ⟨fun _ => ?_, fun e3 => ?_⟩
        · exact hK _ _ _ hks.st.st (nth_se (nth_se ha)) (BF_upd (BF_upd hg _ _) _ _)
        · rw [sg0 hs] at e3
          have c3 := bk c2 (by omega)
          conv => whnf
          rw [(nth_se (nth_se ha))]
          refine ⟨vpk c3 (by omega), ?_⟩
          exact hK _ _ _ hks.st.st.st (nth_se (nth_se (nth_se ha))) (BF_upd (BF_upd (BF_upd hg _ _) _ _) _ _)
      · refine ⟨fun _ => ?_, fun e3 => ?_⟩
        · exact hK _ _ _ hks.st (nth_se ha) (BF_upd hg _ _)
        · rw [sg0 hs] at e3
          have c3 := bk c1 (by omega)
          conv => whnf
          rw [(nth_se ha)]
          refine ⟨vpk c3 (by omega), ?_⟩
          exact hK _ _ _ hks.st.st (nth_se (nth_se ha)) (BF_upd (BF_upd hg _ _) _ _)
    · rw [Int32.lt_iff_toInt_lt, im100, hi] at e
      have h2 := nd100 (a := a) (by omega)
      have hnp2 := ndg_pos (a / 100)
      have c1 := bk hcp (by omega)
      have c2 := bk c1 (by omega)
      refine ⟨by decide, ?_⟩
      refine ⟨vpk (r100 hi) (by omega), ?_⟩
      conv => whnf
      rw [ha]
      refine ⟨vpk c1 (by omega), ?_⟩
      refine ⟨vpk (r100 hi) (by omega), ?_⟩
      conv => whnf
      rw [(nth_se ha)]
      refine ⟨vpk c2 (by omega), ?_⟩
      refine G_wk ?_ (ih (a / 100) (by omega) _ _ _ _ _ (q100 hi) c2 (by omega) (by omega) hks.st.st (nth_se (nth_se ha)) (BF_upd (BF_upd hg _ _) _ _))
      exact ⟨rfl, rfl, rfl, rfl, trivial⟩
theorem L_igt {x : Int32} {v n k : Nat} {g : Nat → Int32} (y : Int32) (hy : y = Int32.ofNat k) (ha : isA h v n g) (hg : BF g) (hk : tl x.toInt ≤ k) (hkn : k ≤ n) (hn : n ≤ 200) (hK : ∀ h' g' r, Ks v h h' → isA h' v n g' → BF g' → K (.inl (some (.int r))) h') : M P n_INT_getChars [.int x, .int y, .ref v] h 0 0 6 K := by
  subst hy
  unfold tl sgN at hk
  have h1 := x.le_toInt
  have h2 := x.toInt_lt
  refine Mgo ok_INT_getChars 60 rfl ?_
  refine ⟨fun e => ?_, fun e => ?_⟩
  · rw [Int32.lt_iff_toInt_lt, i0] at e
    rw [if_pos e] at hk
    refine ⟨fun e3 => absurd e3 (by decide), fun _ => ?_⟩
    refine G_wk ?_ (l_igt (sg := 1) (by decide) hK x.toInt.natAbs k x (Int32.ofNat k) h g (by omega) (oN (by omega)) hk hkn Ks.rf ha hg)
    exact ⟨rfl, rfl, rfl, rfl, trivial⟩
  · rw [Int32.lt_iff_toInt_lt, i0] at e
    rw [if_neg e] at hk
    have hneg : (-x).toInt = -x.toInt := by
      rw [Int32.toInt_neg]
      exact Int.bmod_eq_of_le (by omega) (by omega)
    refine ⟨fun _ => ?_, fun e3 => absurd rfl e3⟩
    refine G_wk ?_ (l_igt (sg := 0) (by decide) hK x.toInt.natAbs k (-x) (Int32.ofNat k) h g (by omega) (oN (by omega)) hk hkn Ks.rf ha hg)
    exact ⟨rfl, rfl, rfl, rfl, trivial⟩
theorem lq100 {i : Int64} {a : Nat} (ha : i.toInt = -(a : Int)) : (i / 100).toInt = -((a / 100 : Nat) : Int) := by
  have h1 := i.le_toInt
  rw [Int64.toInt_div, l100, ha, Int.neg_tdiv, Int.tdiv_eq_ediv_of_nonneg (by omega)]
  rw [Int.bmod_eq_of_le (by omega) (by omega)]
  omega
theorem lr100 {i : Int64} {a : Nat} (ha : i.toInt = -(a : Int)) : (i / 100 * 100 - i).toInt32.toInt = ((a % 100 : Nat) : Int) := by
  have h1 := i.le_toInt
  have hm : (i / 100 * 100).toInt = -((a / 100 : Nat) : Int) * 100 := by
    rw [Int64.toInt_mul, lq100 ha, l100]
    exact Int.bmod_eq_of_le (by omega) (by omega)
  have h64 : (i / 100 * 100 - i).toInt = ((a % 100 : Nat) : Int) := by
    rw [Int64.toInt_sub, hm, ha, Int.bmod_eq_of_le (by omega) (by omega)]
    omega
  rw [Int64.toInt_toInt32, h64]
  exact Int.bmod_eq_of_le (by omega) (by omega)
theorem l_lgi {v n sg : Nat} {h0 : mH} (hs : sg ≤ 1) (hK : ∀ h' g' r, Ks v h0 h' → isA h' v n g' → BF g' → K (.inl (some (.int r))) h') : ∀ (a k : Nat) (i cp : Int32) (h : mH) (g : Nat → Int32), i.toInt = -(a : Int) → cp.toInt = (k : Int) → ndg a + sg ≤ k → k ≤ n → Ks v h0 h → isA h v n g → BF g →
    G P n_LNG_getChars K 6 86 [none, none, none, some (.ref v), none, none, none, some (.int cp), some (.int (Int32.ofNat sg)), none, some (.int i)] [] h 0 0 := by
  intro a
  induction a using Nat.strongRecOn with
  | _ a ih =>
    intro k i cp h g hi hcp hk hkn hks ha hg
    have hnp := ndg_pos a
    refine go ok_LNG_getChars 80 ?_
    refine ⟨fun e => ?_, fun e => ?_⟩
    · rw [Int32.lt_iff_toInt_lt, im100, hi] at e
      have c1 := bk hcp (by omega)
      have hneg := ng hi (by omega)
      refine ⟨vpk hneg (by omega), ?_⟩
      conv => whnf
      rw [ha]
      refine ⟨vpk c1 (by omega), ?_⟩
      refine ⟨fun e2 => ?_, fun e2 => ?_⟩
      · rw [Int32.lt_iff_toInt_lt, im9, hi] at e2
        have h2 := nd2 (a := a) (by omega) (by omega)
        have c2 := bk c1 (by omega)
        refine ⟨vpk hneg (by omega), ?_⟩
        conv => whnf
        rw [(nth_se ha)]
        refine ⟨vpk c2 (by omega), ?_⟩
        refine ⟨fun _ => ?_, fun e3 => ?_⟩
        · exact hK _ _ _ hks.st.st (nth_se (nth_se ha)) (BF_upd (BF_upd hg _ _) _ _)
        · rw [sg0 hs] at e3
          have c3 := bk c2 (by omega)
          conv => whnf
          rw [(nth_se (nth_se ha))]
          refine ⟨vpk c3 (by omega), ?_⟩
          exact hK _ _ _ hks.st.st.st (nth_se (nth_se (nth_se ha))) (BF_upd (BF_upd (BF_upd hg _ _) _ _) _ _)
      · refine ⟨fun _ => ?_, fun e3 => ?_⟩
        · exact hK _ _ _ hks.st (nth_se ha) (BF_upd hg _ _)
        · rw [sg0 hs] at e3
          have c3 := bk c1 (by omega)
          conv => whnf
          rw [(nth_se ha)]
          refine ⟨vpk c3 (by omega), ?_⟩
          exact hK _ _ _ hks.st.st (nth_se (nth_se ha)) (BF_upd (BF_upd hg _ _) _ _)
    · rw [Int32.lt_iff_toInt_lt, im100, hi] at e
      have h2 := nd100 (a := a) (by omega)
      have hnp2 := ndg_pos (a / 100)
      have c1 := bk hcp (by omega)
      have c2 := bk c1 (by omega)
      refine ⟨by decide, ?_⟩
      refine ⟨vpk (r100 hi) (by omega), ?_⟩
      conv => whnf
      rw [ha]
      refine ⟨vpk c1 (by omega), ?_⟩
      refine ⟨vpk (r100 hi) (by omega), ?_⟩
      conv => whnf
      rw [(nth_se ha)]
      refine ⟨vpk c2 (by omega), ?_⟩
      refine G_wk ?_ (ih (a / 100) (by omega) _ _ _ _ _ (q100 hi) c2 (by omega) (by omega) hks.st.st (nth_se (nth_se ha)) (BF_upd (BF_upd hg _ _) _ _))
      exact ⟨rfl, rfl, rfl, rfl, trivial⟩
theorem l_lgl {v n sg : Nat} {h0 : mH} (hs : sg ≤ 1) (hK : ∀ h' g' r, Ks v h0 h' → isA h' v n g' → BF g' → K (.inl (some (.int r))) h') : ∀ (a k : Nat) (i : Int64) (cp : Int32) (h : mH) (g : Nat → Int32), i.toInt = -(a : Int) → cp.toInt = (k : Int) → ndg a + sg ≤ k → k ≤ n → Ks v h0 h → isA h v n g → BF g →
    G P n_LNG_getChars K 6 24 [some (.long i), none, none, some (.ref v), none, none, none, some (.int cp), some (.int (Int32.ofNat sg)), none, none] [] h 0 0 := by
  intro a
  induction a using Nat.strongRecOn with
  | _ a ih =>
    intro k i cp h g hi hcp hk hkn hks ha hg
    have hnp := ndg_pos a
    refine go ok_LNG_getChars 80 ?_
    refine ⟨fun e => ?_, fun e => ?_⟩
    · rw [Int64.lt_iff_toInt_lt, lmi, hi] at e
      have h32 : i.toInt32.toInt = -(a : Int) := by
        rw [Int64.toInt_toInt32, hi]
        exact Int.bmod_eq_of_le (by omega) (by omega)
      refine G_wk ?_ (l_lgi hs hK a k i.toInt32 cp h g h32 hcp hk hkn hks ha hg)
      exact ⟨rfl, rfl, rfl, rfl, trivial⟩
    · rw [Int64.lt_iff_toInt_lt, lmi, hi] at e
      have h2 := nd100 (a := a) (by omega)
      have hnp2 := ndg_pos (a / 100)
      have c1 := bk hcp (by omega)
      have c2 := bk c1 (by omega)
      refine ⟨by decide, ?_⟩
      refine ⟨vpk (lr100 hi) (by omega), ?_⟩
      conv => whnf
      rw [ha]
      refine ⟨vpk c1 (by omega), ?_⟩
      refine ⟨vpk (lr100 hi) (by omega), ?_⟩
      conv => whnf
      rw [(nth_se ha)]
      refine ⟨vpk c2 (by omega), ?_⟩
      refine G_wk ?_ (ih (a / 100) (by omega) _ _ _ _ _ (lq100 hi) c2 (by omega) (by omega) hks.st.st (nth_se (nth_se ha)) (BF_upd (BF_upd hg _ _) _ _))
      exact ⟨rfl, rfl, rfl, rfl, trivial⟩
theorem L_lgt {x : Int64} {v n k : Nat} {g : Nat → Int32} (y : Int32) (hy : y = Int32.ofNat k) (ha : isA h v n g) (hg : BF g) (hk : tl x.toInt ≤ k) (hkn : k ≤ n) (hn : n ≤ 200) (hK : ∀ h' g' r, Ks v h h' → isA h' v n g' → BF g' → K (.inl (some (.int r))) h') : M P n_LNG_getChars [.long x, .int y, .ref v] h 0 0 6 K := by
  subst hy
  unfold tl sgN at hk
  have h1 := x.le_toInt
  have h2 := x.toInt_lt
  refine Mgo ok_LNG_getChars 60 rfl ?_
  refine ⟨fun e => ?_, fun e => ?_⟩
  · rw [Int64.lt_iff_toInt_lt, l0] at e
    rw [if_pos e] at hk
    refine ⟨fun e3 => absurd e3 (by decide), fun _ => ?_⟩
    refine G_wk ?_ (l_lgl (sg := 1) (by decide) hK x.toInt.natAbs k x (Int32.ofNat k) h g (by omega) (oN (by omega)) hk hkn Ks.rf ha hg)
    exact ⟨rfl, rfl, rfl, rfl, trivial⟩
  · rw [Int64.lt_iff_toInt_lt, l0] at e
    rw [if_neg e] at hk
    have hneg : (-x).toInt = -x.toInt := by
      rw [Int64.toInt_neg]
      exact Int.bmod_eq_of_le (by omega) (by omega)
    refine ⟨fun _ => ?_, fun e3 => absurd rfl e3⟩
    refine G_wk ?_ (l_lgl (sg := 0) (by decide) hK x.toInt.natAbs k (-x) (Int32.ofNat k) h g (by omega) (oN (by omega)) hk hkn Ks.rf ha hg)
    exact ⟨rfl, rfl, rfl, rfl, trivial⟩
theorem L_ASBappI {p b c m0 : Nat} (x : Int32) (hS : SB p b c m0 h) (hc : c + tl x.toInt ≤ 100) (hK : ∀ h', Kp p h h' → SB p b (c + tl x.toInt) (c + tl x.toInt) h' → K (.inl (some (.ref b))) h') : M P n_ASB_append_I [.ref b, .int x] h 1 200 10 K := by
  have hS0 := hS
  obtain ⟨hp, v0, n0, g0, q0, -, -, hb0, -, -, -, -⟩ := hS0
  refine Mgo ok_ASB_append_I 60 rfl ?_
  conv => whnf
  rw [hb0]
  refine ⟨_, _, _, L_iss _ ?_, by decide, by decide, by decide⟩
  conv => whnf
  rw [hb0]
  refine ⟨_, _, _, L_ensure (m := c + tl x.toInt) _ (oA c _) hS hc (fun h' hk' hS' => ?_), by decide, by decide, by decide⟩
  have hlen' := hS'.len
  obtain ⟨-, v, n, g, q, hv, hne, hb, ha, hg, hm, hn⟩ := hS'
  conv => whnf
  rw [hb]
  refine ⟨_, _, _, L_isLatin1 hb ?_, by decide, by decide, by decide⟩
  refine ⟨fun e => absurd e (by decide), fun _ => ?_⟩
  conv => whnf
  rw [hb]
  refine ⟨_, _, _, L_igt _ (oA c _) ha hg (Nat.le_add_left _ _) hm hn (fun h2 g' r hks ha' hg' => ?_), by decide, by decide, by decide⟩
  have hb2 : isB h2 b v q c := (hks.2 b (Ne.symm hne)).trans hb
  conv => whnf
  rw [hb2]
  refine hK _ ((hk'.tr (hks.kp hv hlen')).st hp) ⟨hp, v, n, g', q, hv, hne, ?_, ?_, hg', hm, hn⟩
  · rw [isB, nth_se hb2, ← oA]
    rfl
  · rw [isA, nth_sn (Ne.symm hne)]
    exact ha'
theorem L_appI {p b c m0 : Nat} (x : Int32) (hS : SB p b c m0 h) (hc : c + tl x.toInt ≤ 100) (hK : ∀ h', Kp p h h' → SB p b (c + tl x.toInt) (c + tl x.toInt) h' → K (.inl (some (.ref b))) h') : M P n_SB_append_I [.ref b, .int x] h 1 200 11 K := by
  have hS0 := hS
  obtain ⟨hp, v0, n0, g0, q0, -, -, hb0, -, -, -, -⟩ := hS0
  refine Mgo ok_SB_append_I 60 rfl ?_
  conv => whnf
  rw [hb0]
  refine ⟨_, _, _, L_ASBappI x hS hc (fun h' hk' hS' => ?_), by decide, by decide, by decide⟩
  exact hK h' hk' hS'
theorem L_ASBappJ {p b c m0 : Nat} (x : Int64) (hS : SB p b c m0 h) (hc : c + tl x.toInt ≤ 100) (hK : ∀ h', Kp p h h' → SB p b (c + tl x.toInt) (c + tl x.toInt) h' → K (.inl (some (.ref b))) h') : M P n_ASB_append_J [.ref b, .long x] h 1 200 10 K := by
  have hS0 := hS
  obtain ⟨hp, v0, n0, g0, q0, -, -, hb0, -, -, -, -⟩ := hS0
  refine Mgo ok_ASB_append_J 60 rfl ?_
  conv => whnf
  rw [hb0]
  refine ⟨_, _, _, L_lss _ ?_, by decide, by decide, by decide⟩
  conv => whnf
  rw [hb0]
  refine ⟨_, _, _, L_ensure (m := c + tl x.toInt) _ (oA c _) hS hc (fun h' hk' hS' => ?_), by decide, by decide, by decide⟩
  have hlen' := hS'.len
  obtain ⟨-, v, n, g, q, hv, hne, hb, ha, hg, hm, hn⟩ := hS'
  conv => whnf
  rw [hb]
  refine ⟨_, _, _, L_isLatin1 hb ?_, by decide, by decide, by decide⟩
  refine ⟨fun e => absurd e (by decide), fun _ => ?_⟩
  conv => whnf
  rw [hb]
  refine ⟨_, _, _, L_lgt _ (oA c _) ha hg (Nat.le_add_left _ _) hm hn (fun h2 g' r hks ha' hg' => ?_), by decide, by decide, by decide⟩
  have hb2 : isB h2 b v q c := (hks.2 b (Ne.symm hne)).trans hb
  conv => whnf
  rw [hb2]
  refine hK _ ((hk'.tr (hks.kp hv hlen')).st hp) ⟨hp, v, n, g', q, hv, hne, ?_, ?_, hg', hm, hn⟩
  · rw [isB, nth_se hb2, ← oA]
    rfl
  · rw [isA, nth_sn (Ne.symm hne)]
    exact ha'
theorem L_appJ {p b c m0 : Nat} (x : Int64) (hS : SB p b c m0 h) (hc : c + tl x.toInt ≤ 100) (hK : ∀ h', Kp p h h' → SB p b (c + tl x.toInt) (c + tl x.toInt) h' → K (.inl (some (.ref b))) h') : M P n_SB_append_J [.ref b, .long x] h 1 200 11 K := by
  have hS0 := hS
  obtain ⟨hp, v0, n0, g0, q0, -, -, hb0, -, -, -, -⟩ := hS0
  refine Mgo ok_SB_append_J 60 rfl ?_
  conv => whnf
  rw [hb0]
  refine ⟨_, _, _, L_ASBappJ x hS hc (fun h' hk' hS' => ?_), by decide, by decide, by decide⟩
  exact hK h' hk' hS'
end TXN
