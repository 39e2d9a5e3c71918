/-! TEXTS: a builder and its bytes stand somewhere behind the first p cells, which stay -/
theorem nth_se {h : mH} {i : Nat} {c0 c : va_E} (hi : nth h i = some c0) : nth (h.set i c) i = some c := by rw [nth_set, if_pos rfl, if_pos (nth_lt hi)]
theorem nth_sn {h : mH} {i j : Nat} {c : va_E} (hn : i ≠ j) : nth (h.set i c) j = nth h j := by rw [nth_set, if_neg hn]
theorem nth_al {h l : mH} {i : Nat} {c : va_E} (hi : nth h i = some c) : nth (h ++ l) i = some c := by rw [nth_app, if_pos (nth_lt hi)]; exact hi
theorem nth_ar {h l : mH} {c : va_E} : nth (h ++ (c :: l)) h.length = some c := by rw [nth_app, if_neg (Nat.lt_irrefl _), Nat.sub_self]; rfl
theorem set_last (h : mH) (x y : va_E) : (h ++ [x]).set h.length y = h ++ [y] := by simp
abbrev isB (h : mH) (b v : Nat) (q : Value) (c : Nat) : Prop := nth h b = some (.inr (1, [.ref v, .int 0, q, .int (Int32.ofNat c)]))
abbrev isA (h : mH) (v n : Nat) (g : Nat → Int32) : Prop := nth h v = some (.inl (0, n, .inl g))
def Kp (p : Nat) (h h' : mH) : Prop := p ≤ h'.length ∧ ∀ i, i < p → nth h' i = nth h i
def SB (p b c m : Nat) (h : mH) : Prop := p ≤ b ∧ ∃ (v n : Nat) (g : Nat → Int32) (q : Value), p ≤ v ∧ v ≠ b ∧ isB h b v q c ∧ isA h v n g ∧ BF g ∧ m ≤ n ∧ n ≤ 200
def ST (p s c : Nat) (h : mH) : Prop := p ≤ s ∧ ∃ (w : Nat) (g : Nat → Int32), nth h s = some (.inr (0, [.ref w, .int 0, .int 0, .int 0])) ∧ isA h w c g
theorem Kp.rf {p : Nat} {h : mH} (hp : p ≤ h.length) : Kp p h h := ⟨hp, fun _ _ => rfl⟩
theorem Kp.tr {p : Nat} {h h1 h2 : mH} (a : Kp p h h1) (b : Kp p h1 h2) : Kp p h h2 := ⟨b.1, fun i hi => (b.2 i hi).trans (a.2 i hi)⟩
theorem Kp.st {p i : Nat} {h h1 : mH} {c : va_E} (a : Kp p h h1) (hi : p ≤ i) : Kp p h (h1.set i c) := ⟨by rw [List.length_set]; exact a.1, fun j hj => (nth_sn (by omega)).trans (a.2 j hj)⟩
theorem Kp.ap {p : Nat} {h h1 l : mH} (a : Kp p h h1) : Kp p h (h1 ++ l) := ⟨by rw [List.length_append]; have := a.1; omega, fun j hj => by
  rw [nth_app, if_pos (Nat.lt_of_lt_of_le hj a.1)]
  exact a.2 j hj⟩
theorem SB.len {p b c m : Nat} {h : mH} (a : SB p b c m h) : p ≤ h.length := by
  obtain ⟨h1, v, n, g, q, -, -, h2, -⟩ := a
  have := nth_lt h2
  omega
theorem SB.mono {p b c m m' : Nat} {h : mH} (a : SB p b c m h) (hm : m' ≤ m) : SB p b c m' h := by
  obtain ⟨h1, v, n, g, q, h2, h3, h4, h5, h6, h7, h8⟩ := a
  exact ⟨h1, v, n, g, q, h2, h3, h4, h5, h6, Nat.le_trans hm h7, h8⟩
theorem oN {n : Nat} (h : n < 2147483648) : (Int32.ofNat n).toInt = n := Int32.toInt_ofNat_of_lt h
theorem oNn {n : Nat} (h : n < 2147483648) : (Int32.ofNat n).toNatClampNeg = n := Int32.toNatClampNeg_ofNat_of_lt h
theorem oN0 {n : Nat} (h : n < 2147483648) : ¬ Int32.ofNat n < 0 := by
  rw [Int32.lt_iff_toInt_lt, oN h]
  have : (0 : Int32).toInt = 0 := by decide
  omega
theorem oNl {m n : Nat} (hm : m < 2147483648) (hn : n < 2147483648) : Int32.ofNat m < Int32.ofNat n ↔ m < n := by
  rw [Int32.lt_iff_toInt_lt, oN hm, oN hn]
  omega
theorem oNi {m n : Nat} (hm : m < 2147483648) (hn : n < 2147483648) : Int32.ofNat m = Int32.ofNat n ↔ m = n := by
  refine ⟨fun e => ?_, fun e => by rw [e]⟩
  have := congrArg Int32.toInt e
  rw [oN hm, oN hn] at this
  omega
theorem gt_sub {m n : Nat} (hm : m < 1000) (hn : n < 1000) : (0 : Int32) < Int32.ofNat m - Int32.ofNat n ↔ n < m := by
  rw [Int32.lt_iff_toInt_lt, Int32.toInt_sub, oN (by omega), oN (by omega), Int.bmod_eq_of_le (by omega) (by omega)]
  have : (0 : Int32).toInt = 0 := by decide
  omega
def nCap (m n : Nat) : Nat := if m - n < n + 2 then n + (n + 2) else n + (m - n)
theorem ncap {m n : Nat} (hm : m ≤ 100) (hn : n < m) : Int32.ofNat n + iMax (Int32.ofNat m <<< ((0 : Int32) &&& 31) - Int32.ofNat n) (Int32.ofNat n + 2 <<< ((0 : Int32) &&& 31)) = Int32.ofNat (nCap m n) := by
  rw [sb_shl0, sb_shl0]
  have e1 : Int32.ofNat m - Int32.ofNat n = Int32.ofNat (m - n) := (Int32.ofNat_sub m n (by omega)).symm
  have e2 : Int32.ofNat n + 2 = Int32.ofNat (n + 2) := (Int32.ofNat_add n 2).symm
  rw [e1, e2]
  unfold iMax nCap
  by_cases h : m - n < n + 2
  · rw [if_pos ((oNl (by omega) (by omega)).mpr h), if_pos h, ← Int32.ofNat_add]
  · rw [if_neg (fun e => h ((oNl (by omega) (by omega)).mp e)), if_neg h, ← Int32.ofNat_add]
section TXT
variable {P : GP} {K : Kt} {h : mH}
theorem L_newLength (o g pr : Int32) (h1 : 0 < o + iMax g pr) (h2 : ¬ 2147483639 < o + iMax g pr) (hK : K (.inl (some (.int (o + iMax g pr)))) h) : M P n_AS_newLength [.int o, .int g, .int pr] h 0 0 7 K := by
  refine Mgo ok_AS_newLength 60 rfl ?_
  refine ⟨_, _, _, L_maxI _ _ _ ?_, by decide, by decide, by decide⟩
  refine ⟨fun _ => ?_, fun e => absurd h1 e⟩
  refine ⟨fun e => absurd e h2, fun _ => ?_⟩
  exact hK
theorem L_newCapacity {b v c m n : Nat} {g : Nat → Int32} {q : Value} (hb : isB h b v q c) (ha : isA h v n g) (hm : m ≤ 100) (hn : n < m) (hK : K (.inl (some (.int (Int32.ofNat (nCap m n))))) h) : M P n_ASB_newCapacity [.ref b, .int (Int32.ofNat m)] h 0 0 8 K := by
  have hnc : nCap m n ≤ 200 := by
    unfold nCap
    split <;> omega
  have hnc0 : 0 < nCap m n := by
    unfold nCap
    split <;> omega
  have e := ncap hm hn
  refine Mgo ok_ASB_newCapacity 60 rfl ?_
  conv => whnf
  rw [hb]
  conv => whnf
  rw [ha]
  conv => whnf
  rw [hb]
  conv => whnf
  rw [hb]
  refine ⟨_, _, _, L_newLength _ _ _ (by rw [e]; exact (oNl (m := 0) (by omega) (by omega)).mpr hnc0) (by rw [e]; exact fun q => absurd ((oNl (m := 2147483639) (by omega) (by omega)).mp q) (by omega)) ?_, by decide, by decide, by decide⟩
  refine ⟨fun q => ?_, fun _ => ?_⟩
  · rw [e] at q
    exact absurd ((oNi (n := 2147483647) (by omega) (by omega)).mp q) (by omega)
  · conv => whnf
    rw [hb]
    have hK2 : K (.inl (some (.int ((Int32.ofNat n + iMax (Int32.ofNat m <<< ((0 : Int32) &&& 31) - Int32.ofNat n) (Int32.ofNat n + 2 <<< ((0 : Int32) &&& 31))) >>> ((0 : Int32) &&& 31))))) h := by
      rw [sb_shr0, e]
      exact hK
    exact hK2
theorem d_cO28 : decode (mCode n_ARR_copyOf) 28 = .ok (.invokestatic 150, 3) := by decide +kernel
theorem d_cR27 : decode (mCode n_ARR_copyOfRangeByte) 27 = .ok (.invokestatic 150, 3) := by decide +kernel
theorem d_cR18 : decode (mCode n_ARR_copyOfRange) 18 = .ok (.invokevirtual 310, 3) := by decide +kernel
theorem d_cR21 : decode (mCode n_ARR_copyOfRange) 21 = .ok (.checkcast 311, 3) := by decide +kernel
theorem d_gB22 : decode (mCode n_STR_getBytes) 22 = .ok (.invokestatic 212, 3) := by decide +kernel
theorem BF0 : BF (fun _ => 0) := fun _ => rfl
theorem BF_cpy {f g : Nat → Int32} (hf : BF f) (hg : BF g) (a b c : Nat) : BF (va_cpy f g a b c) := fun j => by
  unfold va_cpy
  by_cases e : b ≤ j ∧ j < b + c
  · rw [if_pos e]
    exact hf _
  · rw [if_neg e]
    exact hg _
theorem BF_upd {g : Nat → Int32} (hg : BF g) (k : Nat) (x : Int32) : BF (upd g k (vp_nar .byte x)) := fun j => by
  unfold upd
  by_cases e : j = k
  · rw [if_pos e]
    exact pk_fb x
  · rw [if_neg e]
    exact hg _
theorem L_copyOf {v n k : Nat} {g : Nat → Int32} (x : Int32) (hx : x = Int32.ofNat k) (ha : isA h v n g) (hg : BF g) (hn : n < k) (hk : k ≤ 200) (hK : ∀ g', BF g' → K (.inl (some (.ref h.length))) (h ++ [.inl (0, k, .inl g')])) : M P n_ARR_copyOf [.ref v, .int x] h 1 k 8 K := by
  subst hx
  have hN : (Int32.ofNat k).toNatClampNeg = k := oNn (by omega)
  refine Mgo ok_ARR_copyOf 15 rfl ?_
  conv => whnf
  rw [ha]
  refine ⟨fun q => absurd ((oNi (by omega) (by omega)).mp q) (by omega), fun _ => ?_⟩
  refine ⟨⟨oN0 (by omega), Nat.le_refl _, Nat.le_of_eq hN, by rw [hN]; omega⟩, ?_⟩
  conv => whnf
  rw [(nth_al ha)]
  refine ⟨_, _, _, L_minI _ _ _ ?_, Nat.zero_le _, Nat.zero_le _, by decide⟩
  have hmin : iMin (Int32.ofNat n) (Int32.ofNat k) = Int32.ofNat n := by
    unfold iMin
    rw [if_neg (fun e => absurd ((oNl (by omega) (by omega)).mp e) (by omega))]
  have ha2 : isA (h ++ [.inl (0, (Int32.ofNat k).toNatClampNeg, .inl (fun _ => 0))]) v n g := nth_al ha
  have hj2 : nth (h ++ [.inl (0, (Int32.ofNat k).toNatClampNeg, .inl (fun _ => 0))]) h.length = some (.inl (0, (Int32.ofNat k).toNatClampNeg, .inl (fun _ => 0))) := nth_ar
  refine s_acp d_cO28 wA_ac (src_h ha2) hj2 (by decide) (by decide) (by rw [hmin]; exact oN0 (by omega)) (by rw [hmin, oNn (by omega)]; show 0 + n ≤ n; omega) (by rw [hmin, oNn (by omega), hN]; show 0 + n ≤ k; omega) hg (by decide) (by decide) ?_
  refine go ok_ARR_copyOf 20 ?_
  rw [set_last]
  have hK2 := hK _ (BF_cpy hg BF0 (0 : Int32).toNatClampNeg (0 : Int32).toNatClampNeg (iMin (Int32.ofNat n) (Int32.ofNat k)).toNatClampNeg)
  have hK3 : K (.inl (some (.ref h.length))) (h ++ [.inl (0, (Int32.ofNat k).toNatClampNeg, .inl (va_cpy g (fun _ => 0) (0 : Int32).toNatClampNeg (0 : Int32).toNatClampNeg (iMin (Int32.ofNat n) (Int32.ofNat k)).toNatClampNeg))]) := by
    rw [hN]
    exact hK2
  exact hK3
theorem L_ensure {p b c m m0 : Nat} (x : Int32) (hx : x = Int32.ofNat m) (hS : SB p b c m0 h) (hm : m ≤ 100) (hK : ∀ h', Kp p h h' → SB p b c m h' → K (.inl none) h') : M P n_ASB_ensureCapacityInternal [.ref b, .int x] h 1 200 9 K := by
  subst hx
  have hlen := hS.len
  obtain ⟨hp, v, n, g, q, hv, hne, hb, ha, hg, hm0, hn⟩ := hS
  refine Mgo ok_ASB_ensureCapacityInternal 60 rfl ?_
  conv => whnf
  rw [hb]
  conv => whnf
  rw [ha]
  conv => whnf
  rw [hb]
  refine ⟨fun e => ?_, fun e => ?_⟩
  · rw [sb_shr0] at e
    have hlt := (gt_sub (by omega) (by omega)).mp e
    conv => whnf
    rw [hb]
    conv => whnf
    rw [hb]
    refine ⟨_, _, _, L_newCapacity hb ha hm hlt ?_, by decide, by decide, by decide⟩
    conv => whnf
    rw [hb]
    have hc1 : n < nCap m n := by
      unfold nCap
      split <;> omega
    have hc2 : nCap m n ≤ 200 := by
      unfold nCap
      split <;> omega
    have hc3 : m ≤ nCap m n := by
      unfold nCap
      split <;> omega
    refine ⟨_, _, _, L_copyOf _ (sb_shl0 _) ha hg hc1 hc2 (fun g' hg' => ?_), by decide, by omega, by decide⟩
    conv => whnf
    rw [(nth_al hb)]
    refine hK _ ((Kp.rf hlen).ap.st hp) ⟨hp, h.length, nCap m n, g', q, hlen, ?_, nth_se (nth_al hb), ?_, hg', hc3, hc2⟩
    · have := nth_lt hb
      omega
    · have := nth_lt hb
      rw [isA, nth_sn (by omega)]
      exact nth_ar
  · rw [sb_shr0] at e
    have hle : ¬ n < m := fun h => e ((gt_sub (by omega) (by omega)).mpr h)
    exact hK h (Kp.rf hlen) ⟨hp, v, n, g, q, hv, hne, hb, ha, hg, by omega, hn⟩
end TXT
