/-! TEXTS: what is added to a builder, one sign or a fixed text; turned round; told as a text */ -/
section TXA
variable {P : GP} {K : Kt} {h : mH}
theorem L_canEnc (x : Int32) (hx : ¬ 255 < x) (hK : K (.inl (some (.int 1))) h) : M P n_L1_canEncode [.int x] h 0 0 6 K := by
  refine Mgo ok_L1_canEncode 60 rfl ?_
  refine ⟨fun e => absurd e hx, fun _ => ?_⟩
  exact ⟨rfl, hK⟩
theorem L_isLatin1 {b v c : Nat} {q : Value} (hb : isB h b v q c) (hK : K (.inl (some (.int 1))) h) : M P n_ASB_isLatin1 [.ref b] h 0 0 6 K := by
  refine Mgo ok_ASB_isLatin1 60 rfl ?_
  refine ⟨fun e => absurd e (by decide), fun _ => ?_⟩
  conv => whnf
  rw [hb]
  refine ⟨fun _ => ?_, fun e => absurd rfl e⟩
  exact ⟨rfl, hK⟩
theorem L_getValue {b v c : Nat} {q : Value} (hb : isB h b v q c) (hK : K (.inl (some (.ref v))) h) : M P n_ASB_getValue [.ref b] h 0 0 6 K := by
  refine Mgo ok_ASB_getValue 60 rfl ?_
  conv => whnf
  rw [hb]
  exact hK
theorem L_ASBlen {b v c : Nat} {q : Value} (hb : isB h b v q c) (hK : K (.inl (some (.int (Int32.ofNat c)))) h) : M P n_ASB_length [.ref b] h 0 0 6 K := by
  refine Mgo ok_ASB_length 60 rfl ?_
  conv => whnf
  rw [hb]
  exact hK
theorem L_SBlen {b v c : Nat} {q : Value} (hb : isB h b v q c) (hK : K (.inl (some (.int (Int32.ofNat c)))) h) : M P n_SB_length [.ref b] h 0 0 7 K := by
  refine Mgo ok_SB_length 60 rfl ?_
  conv => whnf
  rw [hb]
  refine ⟨_, _, _, L_ASBlen hb ?_, by decide, by decide, by decide⟩
  exact hK
theorem L_ASBnew {p b : Nat} (hb : nth h b = some (.inr (1, mDf 1))) (hp : p ≤ b) (hK : ∀ h', Kp p h h' → SB p b 0 16 h' → K (.inl none) h') : M P n_ASB_new [.ref b, .int 16] h 1 16 6 K := by
  have hl := nth_lt hb
  have hpl : p ≤ h.length := by omega
  refine Mgo ok_ASB_new 60 rfl ?_
  refine ⟨fun e => absurd e (by decide), fun _ => ?_⟩
  refine ⟨by decide, ?_⟩
  conv => whnf
  rw [(nth_al hb)]
  conv => whnf
  rw [(nth_se (nth_al hb))]
  refine ⟨⟨rfl, rfl⟩, ?_⟩
  refine hK _ (((Kp.rf hpl).ap.st hp).st hp) ⟨hp, h.length, 16, fun _ => 0, .int 0, hpl, by omega, nth_se (nth_se (nth_al hb)), ?_, BF0, Nat.le_refl _, by decide⟩
  rw [isA, nth_sn (by omega), nth_sn (by omega)]
  exact nth_ar
theorem L_SBnew {p b : Nat} (hb : nth h b = some (.inr (1, mDf 1))) (hp : p ≤ b) (hK : ∀ h', Kp p h h' → SB p b 0 16 h' → K (.inl none) h') : M P n_SB_new [.ref b] h 1 16 7 K := by
  refine Mgo ok_SB_new 60 rfl ?_
  exact ⟨_, _, _, L_ASBnew hb hp hK, by decide, by decide, by decide⟩
theorem o1 (c : Nat) : Int32.ofNat c + 1 = Int32.ofNat (c + 1) := (Int32.ofNat_add c 1).symm
theorem vpO {c n : Nat} (h : c < n) (hn : n ≤ 200) : vp_in (Int32.ofNat c) n := by
  rw [vp_in_iff, oN (by omega)]
  omega
theorem L_ASBappC {p b c m0 : Nat} (x : Int32) (hx : ¬ 255 < x) (hS : SB p b c m0 h) (hc : c < 100) (hK : ∀ h', Kp p h h' → SB p b (c + 1) (c + 1) h' → K (.inl (some (.ref b))) h') : M P n_ASB_append_C [.ref b, .int x] h 1 200 10 K := by
  have hS0 := hS
  obtain ⟨hp, v0, n0, g0, q0, -, -, hb0, -, -, -, -⟩ := hS0
  refine Mgo ok_ASB_append_C 60 rfl ?_
  conv => whnf
  rw [hb0]
  conv => whnf
  rw [hb0]
  refine ⟨_, _, _, L_ensure _ (o1 c) hS (by omega) (fun h' hk' hS' => ?_), by decide, by decide, by decide⟩
  obtain ⟨-, v, n, g, q, hv, hne, hb, ha, hg, hm, hn⟩ := hS'
  conv => whnf
  rw [hb]
  refine ⟨_, _, _, L_isLatin1 hb ?_, by decide, by decide, by decide⟩
  refine ⟨fun e => absurd e (by decide), fun _ => ?_⟩
  refine ⟨_, _, _, L_canEnc _ hx ?_, by decide, by decide, by decide⟩
  refine ⟨fun e => absurd e (by decide), fun _ => ?_⟩
  conv => whnf
  rw [hb]
  conv => whnf
  rw [hb]
  conv => whnf
  rw [hb]
  have ha2 : ∀ cc, isA (h'.set b cc) v n g := fun cc => by
    rw [isA, nth_sn (Ne.symm hne)]
    exact ha
  conv => whnf
  rw [(ha2 _)]
  refine ⟨vpO (by omega) hn, ?_⟩
  refine hK _ ((hk'.st hp).st hv) ⟨hp, v, n, _, q, hv, hne, ?_, nth_se (ha2 _), BF_upd hg _ _, hm, hn⟩
  rw [isB, nth_sn hne, nth_se hb, ← o1 c]
  rfl
theorem L_appC {p b c m0 : Nat} (x : Int32) (hx : ¬ 255 < x) (hS : SB p b c m0 h) (hc : c < 100) (hK : ∀ h', Kp p h h' → SB p b (c + 1) (c + 1) h' → K (.inl (some (.ref b))) h') : M P n_SB_append_C [.ref b, .int x] h 1 200 11 K := by
  have hS0 := hS
  obtain ⟨hp, v0, n0, g0, q0, -, -, hb0, -, -, -, -⟩ := hS0
  refine Mgo ok_SB_append_C 60 rfl ?_
  conv => whnf
  rw [hb0]
  refine ⟨_, _, _, L_ASBappC x hx hS hc (fun h' hk' hS' => ?_), by decide, by decide, by decide⟩
  exact hK h' hk' hS'
theorem rv_0 {j : Int32} (e : ¬ j < 0) : 0 ≤ j.toInt := by
  rw [Int32.lt_iff_toInt_lt] at e
  have e0 : (0 : Int32).toInt = 0 := by decide
  omega
theorem rv_d {j : Int32} (e : ¬ j < 0) : (j + -1).toInt = j.toInt - 1 := by
  have h := rv_0 e
  have u := j.toInt_lt
  have em : (-1 : Int32).toInt = -1 := by decide
  rw [Int32.toInt_add, em]
  exact Int.bmod_eq_of_le (by omega) (by omega)
theorem rv_a {j : Int32} (e : ¬ j < 0) : -1 ≤ (j + -1).toInt := by
  have h := rv_0 e
  rw [rv_d e]
  omega
theorem rv_b {j : Int32} {f : Nat} (e : ¬ j < 0) (h2 : j.toInt < ((f + 1 : Nat) : Int)) : (j + -1).toInt < (f : Int) := by
  rw [rv_d e]
  omega
theorem rv_c {j : Int32} {c : Nat} (e : ¬ j < 0) (h3 : 2 * j.toInt ≤ (c : Int) - 2) : 2 * (j + -1).toInt ≤ (c : Int) - 2 := by
  rw [rv_d e]
  omega
theorem rv_1 {j : Int32} {c n : Nat} (e : ¬ j < 0) (hcn : c ≤ n) (h3 : 2 * j.toInt ≤ (c : Int) - 2) : vp_in j n := by
  have h := rv_0 e
  rw [vp_in_iff]
  omega
theorem rv_2 {j m : Int32} {c n : Nat} (e : ¬ j < 0) (hcn : c ≤ n) (h3 : 2 * j.toInt ≤ (c : Int) - 2) (hm : m.toInt = (c : Int) - 1) : vp_in (m - j) n := by
  have h := rv_0 e
  have u := m.toInt_lt
  have hsub : (m - j).toInt = m.toInt - j.toInt := by
    rw [Int32.toInt_sub]
    exact Int.bmod_eq_of_le (by omega) (by omega)
  rw [vp_in_iff, hsub]
  omega
theorem l_rev {p b v n c : Nat} {q : Value} (hp : p ≤ b) (hv : p ≤ v) (hne : v ≠ b) (hn : n ≤ 200) (hcn : c ≤ n) (hc : 1 ≤ c) {m : Int32} (hm : m.toInt = (c : Int) - 1) {h0 : mH} (hK : ∀ h', Kp p h0 h' → SB p b c c h' → K (.inl (some (.ref b))) h') :
    ∀ (f : Nat) (j : Int32) (y z : Option Value) (h : mH) (g : Nat → Int32), Kp p h0 h → isB h b v q c → isA h v n g → BF g → -1 ≤ j.toInt → j.toInt < f → 2 * j.toInt ≤ (c : Int) - 2 →
    G P n_ASB_reverse K 7 28 [some (.ref b), some (.ref v), some (.int (Int32.ofNat c)), some (.int m), some (.int j), y, z] [] h 0 0
  | 0, j, y, z, h, g, hk, hb, ha, hg, h1, h2, h3 => by
    have e0 : (0 : Int32).toInt = 0 := by decide
    refine go ok_ASB_reverse 80 ?_
    refine ⟨fun _ => ?_, fun e => absurd (by rw [Int32.lt_iff_toInt_lt]; omega) e⟩
    exact hK _ hk ⟨hp, v, n, g, q, hv, hne, hb, ha, hg, hcn, hn⟩
  | f + 1, j, y, z, h, g, hk, hb, ha, hg, h1, h2, h3 => by
    have e0 : (0 : Int32).toInt = 0 := by decide
    refine go ok_ASB_reverse 80 ?_
    refine ⟨fun _ => ?_, fun e => ?_⟩
    · exact hK _ hk ⟨hp, v, n, g, q, hv, hne, hb, ha, hg, hcn, hn⟩
    · have hi1 := rv_1 e hcn h3
      have hi2 := rv_2 e hcn h3 hm
      have a1 := rv_a e
      have a2 := rv_b e h2
      have a3 := rv_c e h3
      conv => whnf
      rw [ha]
      refine ⟨hi1, ?_⟩
      conv => whnf
      rw [ha]
      refine ⟨hi2, ?_⟩
      conv => whnf
      rw [ha]
      refine ⟨hi1, ?_⟩
      have ha2 := nth_se (c := .inl (0, n, .inl (upd g j.toNatClampNeg (vp_nar .byte (g (m - j).toNatClampNeg))))) ha
      conv => whnf
      rw [ha2]
      refine ⟨hi2, ?_⟩
      refine l_rev (q := q) hp hv hne hn hcn hc hm hK f (j + -1) _ _ _ _ ((hk.st hv).st hv) ?_ (nth_se ha2) (BF_upd (BF_upd hg _ _) _ _) a1 a2 a3
      rw [isB, nth_sn hne, nth_sn hne]
      exact hb
theorem L_reverse {p b c m0 : Nat} (hS : SB p b c m0 h) (hcm : c ≤ m0) (hc : 1 ≤ c) (hc2 : c ≤ 100) (hK : ∀ h', Kp p h h' → SB p b c c h' → K (.inl (some (.ref b))) h') : M P n_SB_reverse [.ref b] h 0 0 8 K := by
  have hlen := hS.len
  obtain ⟨hp, v, n, g, q, hv, hne, hb, ha, hg, hm, hn⟩ := hS
  refine Mgo ok_SB_reverse 60 rfl ?_
  conv => whnf
  rw [hb]
  refine ⟨_, _, _, (?_ : M P n_ASB_reverse [.ref b] h 0 0 7 _), by decide, by decide, by decide⟩
  refine Mgo ok_ASB_reverse 60 rfl ?_
  conv => whnf
  rw [hb]
  conv => whnf
  rw [hb]
  conv => whnf
  rw [hb]
  refine ⟨_, _, _, L_isLatin1 hb ?_, by decide, by decide, by decide⟩
  refine ⟨fun e => absurd e (by decide), fun _ => ?_⟩
  have e1 : (1 : Int32).toInt = 1 := by decide
  have hm1 : (Int32.ofNat c - 1).toInt = (c : Int) - 1 := by
    rw [Int32.toInt_sub, oN (by omega), e1]
    exact Int.bmod_eq_of_le (by omega) (by omega)
  have hm2 : (Int32.ofNat c - 1 - 1).toInt = (c : Int) - 2 := by
    rw [Int32.toInt_sub, hm1, e1]
    have : (c : Int) - 1 - 1 = c - 2 := by omega
    rw [this]
    exact Int.bmod_eq_of_le (by omega) (by omega)
  have hj : ((Int32.ofNat c - 1 - 1) >>> ((1 : Int32) &&& 31)).toInt = ((c : Int) - 2) >>> 1 := by
    rw [pk_shr _ _ 1 (by decide), hm2]
  have hj2 : ((c : Int) - 2) >>> 1 = ((c : Int) - 2) / 2 := by
    rw [Int.shiftRight_eq_div_pow]
    rfl
  refine l_rev hp hv hne hn (Nat.le_trans hcm hm) hc hm1 (fun h' hk' hS' => ?_) 100 _ none none h g (Kp.rf hlen) hb ha hg (by rw [hj, hj2]; omega) (by rw [hj, hj2]; omega) (by rw [hj, hj2]; omega)
  exact hK h' hk' hS'
theorem L_chkLen (x : Int32) (hx : ¬ x < 0) (hK : K (.inl none) h) : M P n_ARR_checkLength [.int 0, .int x] h 0 0 6 K := by
  refine Mgo ok_ARR_checkLength 60 rfl ?_
  exact ⟨fun e => absurd e hx, fun _ => hK⟩
theorem L_cpRangeB {v n c : Nat} {g : Nat → Int32} (ha : isA h v n g) (hg : BF g) (hc : c ≤ n) (hn : n ≤ 200) (hK : ∀ g', BF g' → K (.inl (some (.ref h.length))) (h ++ [.inl (0, c, .inl g')])) : M P n_ARR_copyOfRangeByte [.ref v, .int 0, .int (Int32.ofNat c)] h 1 c 7 K := by
  have e0 : ∀ x : Int32, x - 0 = x := fun x => by simp
  have hN : (Int32.ofNat c - 0).toNatClampNeg = c := by rw [e0]; exact oNn (by omega)
  have hmin : iMin (Int32.ofNat n - 0) (Int32.ofNat c - 0) = Int32.ofNat c := by
    rw [e0, e0]
    unfold iMin
    by_cases e : Int32.ofNat c < Int32.ofNat n
    · rw [if_pos e]
    · rw [if_neg e]
      rw [oNl (by omega) (by omega)] at e
      rw [show n = c by omega]
  refine Mgo ok_ARR_copyOfRangeByte 20 rfl ?_
  refine ⟨_, _, _, L_chkLen _ (oN0 (by omega)) ?_, by decide, Nat.zero_le _, by decide⟩
  refine ⟨⟨by rw [e0]; exact oN0 (by omega), by decide, by rw [hN]; exact Nat.le_refl _, by rw [hN]; omega⟩, ?_⟩
  conv => whnf
  rw [(nth_al ha)]
  refine ⟨_, _, _, L_minI _ _ _ ?_, by decide, Nat.zero_le _, by decide⟩
  refine s_acp d_cR27 wA_ac (src_h (nth_al ha)) (nth_ar (l := [])) (by decide) (by decide) (by rw [hmin]; exact oN0 (by omega)) (by rw [hmin, oNn (by omega)]; show 0 + c ≤ n; omega) (by rw [hmin, oNn (by omega), hN]; show 0 + c ≤ c; omega) hg (by decide) (by decide) ?_
  refine go ok_ARR_copyOfRangeByte 20 ?_
  rw [set_last]
  have hK2 := hK _ (BF_cpy hg BF0 (0 : Int32).toNatClampNeg (0 : Int32).toNatClampNeg (iMin (Int32.ofNat n - 0) (Int32.ofNat c - 0)).toNatClampNeg)
  have hK3 : K (.inl (some (.ref h.length))) (h ++ [.inl (0, (Int32.ofNat c - 0).toNatClampNeg, .inl (va_cpy g (fun _ => 0) (0 : Int32).toNatClampNeg (0 : Int32).toNatClampNeg (iMin (Int32.ofNat n - 0) (Int32.ofNat c - 0)).toNatClampNeg))]) := by
    rw [hN]
    exact hK2
  exact hK3
theorem L_cpRange {v n c : Nat} {g : Nat → Int32} (ha : isA h v n g) (hg : BF g) (hc : c ≤ n) (hn : n ≤ 200) (hK : ∀ g', BF g' → K (.inl (some (.ref h.length))) (h ++ [.inl (0, c, .inl g')])) : M P n_ARR_copyOfRange [.ref v, .int 0, .int (Int32.ofNat c)] h 1 c 8 K := by
  refine Mgo ok_ARR_copyOfRange 7 rfl ?_
  refine ⟨fun _ => ?_, fun e => absurd rfl e⟩
  conv => whnf
  rw [ha]
  refine ⟨fun e => ?_, fun _ => ?_⟩
  · have hcn : c = n := (oNi (by omega) (by omega)).mp e
    subst hcn
    refine s_clone d_cR18 rfl ha hg (by decide) (by decide) (Nat.le_refl _) (Nat.le_refl _) ?_
    refine s_castA d_cR21 rfl (nth_ar (l := [])) ?_
    refine go ok_ARR_copyOfRange 20 ?_
    exact hK _ hg
  · refine go ok_ARR_copyOfRange 20 ?_
    refine ⟨_, _, _, L_cpRangeB ha hg hc hn (fun g' hg' => ?_), Nat.le_refl _, Nat.le_refl _, by decide⟩
    exact hK _ hg'
theorem L_STRnew {p b s c m0 : Nat} (hs : nth h s = some (.inr (0, mDf 0))) (hps : p ≤ s) (hS : SB p b c m0 h) (hcm : c ≤ m0) (hc : c ≤ 100) (hK : ∀ h', Kp p h h' → ST p s c h' → K (.inl none) h') : M P n_STR_new_QN [.ref s, .ref b, .null] h 1 c 9 K := by
  have hlen := hS.len
  obtain ⟨hp, v, n, g, q, hv, hne, hb, ha, hg, hm, hn⟩ := hS
  have hsb : s ≠ b := fun e => by
    subst e
    cases hs.symm.trans hb
  have hsv : s ≠ v := fun e => by
    subst e
    cases hs.symm.trans ha
  refine Mgo ok_STR_new_QN 60 rfl ?_
  conv => whnf
  rw [hb]
  refine ⟨_, _, _, L_getValue hb ?_, by decide, Nat.zero_le _, by decide⟩
  conv => whnf
  rw [hb]
  refine ⟨_, _, _, L_SBlen hb ?_, by decide, Nat.zero_le _, by decide⟩
  conv => whnf
  rw [hb]
  refine ⟨_, _, _, L_isLatin1 hb ?_, by decide, Nat.zero_le _, by decide⟩
  refine ⟨fun e => absurd e (by decide), fun _ => ?_⟩
  conv => whnf
  rw [hs]
  refine ⟨⟨rfl, rfl⟩, ?_⟩
  have hs2 := nth_se (c := .inr (0, (mDf 0).set 1 (.int 0))) hs
  have ha2 : isA (h.set s (.inr (0, (mDf 0).set 1 (.int 0)))) v n g := by
    rw [isA, nth_sn hsv]
    exact ha
  refine ⟨_, _, _, L_cpRange ha2 hg (Nat.le_trans hcm hm) hn (fun g' hg' => ?_), by decide, Nat.le_refl _, by decide⟩
  conv => whnf
  rw [(nth_al hs2)]
  refine hK _ (((Kp.rf hlen).st hps).ap.st hps) ⟨hps, _, g', nth_se (nth_al hs2), ?_⟩
  rw [isA, nth_sn (by have := nth_lt hs2; omega)]
  exact nth_ar (l := [])
theorem L_toString {p b c m0 : Nat} (hS : SB p b c m0 h) (hcm : c ≤ m0) (hc : c ≤ 100) (hK : ∀ h' s, Kp p h h' → ST p s c h' → K (.inl (some (.ref s))) h') : M P n_SB_toString [.ref b] h 2 (c + 4) 11 K := by
  have hlen := hS.len
  obtain ⟨hp, v, n, g, q, hv, hne, hb, ha, hg, hm, hn⟩ := hS
  refine Mgo ok_SB_toString 60 rfl ?_
  refine ⟨⟨by decide, by omega⟩, ?_⟩
  refine ⟨_, _, _, (?_ : M P n_STR_new_Q [.ref h.length, .ref b] (h ++ [.inr (0, mDf 0)]) 1 c 10 _), by decide, by omega, by decide⟩
  refine Mgo ok_STR_new_Q 60 rfl ?_
  refine ⟨_, _, _, L_STRnew (p := p) (m0 := m0) (nth_ar (l := [])) hlen ⟨hp, v, n, g, q, hv, hne, nth_al hb, nth_al ha, hg, hm, hn⟩ hcm hc (fun h' hk' hT' => ?_), by decide, Nat.le_refl _, by decide⟩
  exact hK h' h.length ((Kp.rf hlen).ap.tr hk') hT'
end TXA
