/-! THE MODEL: its texts; what a text holds isn't told, but how long it is -/
theorem SB.rc {p b c m : Nat} {h : mH} (a : SB p b c m h) : ∃ fs, nth h b = some (.inr (1, fs)) := by
  obtain ⟨-, v, n, g, q, -, -, h2, -⟩ := a
  exact ⟨_, h2⟩
def anMT (K : Kt) (x : XS) (t : mH) (s : MS) : Prop := K (.inl (some (.retAddr 10))) (hm s x t) ∧ ∀ l r, K (.inl (some (.ref r))) (hm s x (t ++ l))
def m_text (k : Int32) (s : MS) : MS := if n4 k then sT 0 s else sT 1 s
def m_distance (k f : Int32) (s : MS) : MS := if n4 k ∧ n4 f then sT 0 s else sT 1 s
def m_quotient (k m : Int32) (s : MS) : MS := if n4 k then (if ¬ m = 0 then sT 0 s else sT 2 s) else sT 1 s
def m_common (r q : Int32) (s : MS) : MS := if n3 r ∧ n3 q then sT 0 s else sT 1 s
def m_ringText (r : Int32) (s : MS) : MS := if n3 r then sT 0 s else sT 1 s
def mLeast (l : Int32) : Int64 := if l = 0 then -2147483648 else -9223372036854775808
def mOf (l k w : Int32) (s : MS) : Int32 := if w = 0 then mSign (mNow l k s) else if w = 1 then (mNow l k s).toInt32 else if w = 2 then (mNow l k s >>> sh32).toInt32 else if w = 3 then (if mNow l k s = mLeast l then -1 else if mNow l k s = -1 - mLeast l then 1 else 0) else Int32.ofNat (tl (mNow l k s).toInt)
def m_ofNumber (l k w : Int32) (s : MS) : MO := gd (n4 k) s (rf (okC w 4) (sT 0 s) (mOf l k w (sT 0 s), sT 0 s))
theorem hm_len (s : MS) (x : XS) (t : mH) : 13 ≤ (hm s x t).length := by
  unfold hm hx
  simp only [List.length_cons]
  omega
section MDT
variable {P : GP} {K : Kt} {s : MS} {x : XS} {t : mH}
theorem hm_5 {h1 : mH} (hk : Kp (hm s x t).length (hm s x t) h1) : nth h1 5 = some (.inr (4, [.int (mTh s), .ref 6, .ref 7, .ref 8, .ref 9, .int (mF s), .int (mK s)])) := hk.2 5 (Nat.lt_of_lt_of_le (by decide) (hm_len s x t))
theorem hm_8 {h1 : mH} (hk : Kp (hm s x t).length (hm s x t) h1) : nth h1 8 = some (.inl (1, 3, .inl (mM s))) := hk.2 8 (Nat.lt_of_lt_of_le (by decide) (hm_len s x t))
theorem hm_10 {h1 : mH} (hk : Kp (hm s x t).length (hm s x t) h1) : nth h1 10 = some (.inl (1, 4, .inl (mR s 0))) := hk.2 10 (Nat.lt_of_lt_of_le (by decide) (hm_len s x t))
theorem hm_11 {h1 : mH} (hk : Kp (hm s x t).length (hm s x t) h1) : nth h1 11 = some (.inl (1, 4, .inl (mR s 1))) := hk.2 11 (Nat.lt_of_lt_of_le (by decide) (hm_len s x t))
theorem hm_12 {h1 : mH} (hk : Kp (hm s x t).length (hm s x t) h1) : nth h1 12 = some (.inl (1, 4, .inl (mR s 2))) := hk.2 12 (Nat.lt_of_lt_of_le (by decide) (hm_len s x t))
theorem L_nowK {h1 : mH} (hk : Kp (hm s x t).length (hm s x t) h1) (l k : Int32) (hk4 : ok4 k) (hK : K (.inl (some (.long (mNow l k s)))) h1) : M P n_M_now [.ref 5, .int l, .int k] h1 0 0 6 K := by
  obtain ⟨l9, rfl⟩ := Kp_all hk
  exact L_now (t := t ++ l9) l k hk4 hK
theorem L_coderS {h : mH} {p r c : Nat} (hT : ST p r c h) (hK : K (.inl (some (.int 0))) h) : M P n_STR_coder [.ref r] h 0 0 6 K := by
  obtain ⟨-, w, g, h1, h2⟩ := hT
  refine Mgo ok_STR_coder 60 rfl ?_
  refine ⟨fun e => absurd e (by decide), fun _ => ?_⟩
  conv => whnf
  rw [h1]
  exact ⟨rfl, hK⟩
theorem L_slenS {h : mH} {p r c : Nat} (hT : ST p r c h) (hK : K (.inl (some (.int (Int32.ofNat c)))) h) : M P n_STR_length [.ref r] h 0 0 7 K := by
  have hT0 := hT
  obtain ⟨-, w, g, h1, h2⟩ := hT0
  refine Mgo ok_STR_length 60 rfl ?_
  conv => whnf
  rw [h1]
  conv => whnf
  rw [h2]
  conv => whnf
  rw [h1]
  refine ⟨_, _, _, L_coderS hT ?_, by decide, by decide, by decide⟩
  have hK2 : K (.inl (some (.int (Int32.ofNat c >>> ((0 : Int32) &&& 31))))) h := by
    rw [sb_shr0]
    exact hK
  exact hK2
theorem L_plain {h : mH} (v : Int64) (hK : ∀ l r, K (.inl (some (.ref r))) (h ++ l)) : M P n_M_plain [.long v] h 30 2000 14 K := by
  refine Mgo ok_M_plain 80 rfl ?_
  refine ⟨fun e => ?_, fun e => ?_⟩
  · refine ⟨by decide, ?_⟩
    have e1 := tl64 (tTen v)
    have e2 := tl64 (v - 10 * tTen v)
    refine ⟨by decide, ?_⟩
    refine ⟨_, _, _, L_SBnew (p := h.length) (nth_ar (l := [])) (Nat.le_refl _) (fun h1 k1 s1 => ?_), by decide, by decide, by decide⟩
    have hk1 : Kp h.length _ h1 := (Kp.rf (Nat.le_refl h.length)).ap.tr k1
    obtain ⟨f1, r1⟩ := s1.rc
    conv => whnf
    rw [r1]
    refine ⟨_, _, _, L_appT0 s1 (by omega) (fun h2 k2 s2 => ?_), by decide, by decide, by decide⟩
    have hk2 := hk1.tr k2
    obtain ⟨f2, r2⟩ := s2.rc
    conv => whnf
    rw [r2]
    refine ⟨_, _, _, L_appJ (tTen v) s2 (by omega) (fun h3 k3 s3 => ?_), by decide, by decide, by decide⟩
    have hk3 := hk2.tr k3
    obtain ⟨f3, r3⟩ := s3.rc
    conv => whnf
    rw [r3]
    refine ⟨_, _, _, L_appJ (v - 10 * tTen v) s3 (by omega) (fun h4 k4 s4 => ?_), by decide, by decide, by decide⟩
    have hk4 := hk3.tr k4
    obtain ⟨f4, r4⟩ := s4.rc
    conv => whnf
    rw [r4]
    refine ⟨_, _, _, L_toString s4 (Nat.le_refl _) (by omega) (fun h5 q5 k5 s5 => ?_), by decide, by omega, by decide⟩
    have hk5 := hk4.tr k5
    obtain ⟨l9, rfl⟩ := Kp_all hk5
    exact hK l9 q5
  · have e1 := tl64 v
    refine ⟨by decide, ?_⟩
    refine ⟨_, _, _, L_SBnew (p := h.length) (nth_ar (l := [])) (Nat.le_refl _) (fun h1 k1 s1 => ?_), by decide, by decide, by decide⟩
    have hk1 : Kp h.length _ h1 := (Kp.rf (Nat.le_refl h.length)).ap.tr k1
    obtain ⟨f1, r1⟩ := s1.rc
    conv => whnf
    rw [r1]
    refine ⟨_, _, _, L_appT0 s1 (by omega) (fun h2 k2 s2 => ?_), by decide, by decide, by decide⟩
    have hk2 := hk1.tr k2
    obtain ⟨f2, r2⟩ := s2.rc
    conv => whnf
    rw [r2]
    refine ⟨_, _, _, L_appJ v s2 (by omega) (fun h3 k3 s3 => ?_), by decide, by decide, by decide⟩
    have hk3 := hk2.tr k3
    obtain ⟨f3, r3⟩ := s3.rc
    conv => whnf
    rw [r3]
    refine ⟨_, _, _, L_toString s3 (Nat.le_refl _) (by omega) (fun h4 q4 k4 s4 => ?_), by decide, by omega, by decide⟩
    have hk4 := hk3.tr k4
    obtain ⟨l9, rfl⟩ := Kp_all hk4
    exact hK l9 q4
theorem M_text (l k : Int32) (hK : anMT K x t (m_text k s)) : M P n_M_text [.ref 5, .int l, .int k] (hm s x t) 40 3000 16 K := by
  refine Mgo ok_M_text 80 rfl ?_
  unfold m_text at hK
  refine ⟨_, _, _, L_isNo _ (fun a1 => ?_) (fun a1 => ?_), by decide, by decide, by decide⟩
  · rw [if_pos a1] at hK
    refine ⟨_, _, _, L_start0 ?_, by decide, by decide, by decide⟩
    refine ⟨fun _ => ?_, fun e => absurd rfl e⟩
    have e1 := tl64 (mNow l k (sT 0 s))
    refine ⟨by decide, ?_⟩
    refine ⟨_, _, _, L_SBnew (p := (hm (sT 0 s) x t).length) (nth_ar (l := [])) (Nat.le_refl _) (fun h1 k1 s1 => ?_), by decide, by decide, by decide⟩
    have hk1 : Kp (hm (sT 0 s) x t).length _ h1 := (Kp.rf (Nat.le_refl (hm (sT 0 s) x t).length)).ap.tr k1
    obtain ⟨f1, r1⟩ := s1.rc
    conv => whnf
    rw [r1]
    refine ⟨_, _, _, L_appT0 s1 (by omega) (fun h2 k2 s2 => ?_), by decide, by decide, by decide⟩
    have hk2 := hk1.tr k2
    conv => whnf
    rw [hm_5 hk2]
    refine ⟨_, _, _, L_nowK hk2 _ _ (n4_ok a1) ?_, by decide, by decide, by decide⟩
    obtain ⟨f2, r2⟩ := s2.rc
    conv => whnf
    rw [r2]
    refine ⟨_, _, _, L_appJ _ s2 (by omega) (fun h3 k3 s3 => ?_), by decide, by decide, by decide⟩
    have hk3 := hk2.tr k3
    obtain ⟨f3, r3⟩ := s3.rc
    conv => whnf
    rw [r3]
    refine ⟨_, _, _, L_toString s3 (Nat.le_refl _) (by omega) (fun h4 q4 k4 s4 => ?_), by decide, by omega, by decide⟩
    have hk4 := hk3.tr k4
    obtain ⟨l9, rfl⟩ := Kp_all hk4
    exact hK.2 l9 q4
  · rw [if_neg a1] at hK
    refine ⟨_, _, _, L_start1 ?_, by decide, by decide, by decide⟩
    refine ⟨fun e => absurd e (by decide), fun _ => ?_⟩
    exact hK.1
theorem M_distance (l k f : Int32) (hK : anMT K x t (m_distance k f s)) : M P n_M_distance [.ref 5, .int l, .int k, .int f] (hm s x t) 40 3000 16 K := by
  refine Mgo ok_M_distance 80 rfl ?_
  unfold m_distance at hK
  refine ⟨_, _, _, L_isNo _ (fun a1 => ?_) (fun a1 => ?_), by decide, by decide, by decide⟩
  · refine ⟨fun _ => ?_, fun e => absurd rfl e⟩
    refine ⟨_, _, _, L_isNo _ (fun a2 => ?_) (fun a2 => ?_), by decide, by decide, by decide⟩
    · refine ⟨fun _ => ?_, fun e => absurd rfl e⟩
      rw [if_pos ⟨a1, a2⟩] at hK
      refine ⟨_, _, _, L_start0 ?_, by decide, by decide, by decide⟩
      refine ⟨fun _ => ?_, fun e => absurd rfl e⟩
      refine ⟨_, _, _, L_now _ _ (n4_ok a1) ?_, by decide, by decide, by decide⟩
      refine ⟨_, _, _, L_now _ _ (n4_ok a2) ?_, by decide, by decide, by decide⟩
      refine ⟨fun _ => ?_, fun _ => ?_⟩
      · exact ⟨_, _, _, L_plain _ (fun l9 r => hK.2 l9 r), by decide, by decide, by decide⟩
      · exact ⟨_, _, _, L_plain _ (fun l9 r => hK.2 l9 r), by decide, by decide, by decide⟩
    · refine ⟨fun e => absurd e (by decide), fun _ => ?_⟩
      rw [if_neg (fun e => a2 e.2)] at hK
      refine ⟨_, _, _, L_start1 ?_, by decide, by decide, by decide⟩
      refine ⟨fun e => absurd e (by decide), fun _ => ?_⟩
      exact hK.1
  · refine ⟨fun e => absurd e (by decide), fun _ => ?_⟩
    rw [if_neg (fun e => a1 e.1)] at hK
    refine ⟨_, _, _, L_start1 ?_, by decide, by decide, by decide⟩
    refine ⟨fun e => absurd e (by decide), fun _ => ?_⟩
    exact hK.1
theorem M_quotient (l k m : Int32) (hK : anMT K x t (m_quotient k m s)) : M P n_M_quotient [.ref 5, .int l, .int k, .int m] (hm s x t) 40 3000 16 K := by
  refine Mgo ok_M_quotient 80 rfl ?_
  unfold m_quotient at hK
  refine ⟨_, _, _, L_isNo _ (fun a1 => ?_) (fun a1 => ?_), by decide, by decide, by decide⟩
  · rw [if_pos a1] at hK
    refine ⟨_, _, _, L_start0 ?_, by decide, by decide, by decide⟩
    refine ⟨fun _ => ?_, fun e => absurd rfl e⟩
    refine ⟨fun w1 => ?_, fun w1 => ?_⟩
    · rw [if_neg (fun e => e w1)] at hK
      refine ⟨_, _, _, L_mrefuse1 2 rfl (by decide) ?_, by decide, by decide, by decide⟩
      refine ⟨fun e => absurd e (by decide), fun _ => ?_⟩
      exact hK.1
    · rw [if_pos w1] at hK
      refine ⟨_, _, _, L_mrefuse0 2 rfl ?_, by decide, by decide, by decide⟩
      refine ⟨fun _ => ?_, fun e => absurd rfl e⟩
      refine ⟨_, _, _, L_now _ _ (n4_ok a1) ?_, by decide, by decide, by decide⟩
      refine ⟨_, _, _, L_mfloor _ _ (nz64 w1) ?_, by decide, by decide, by decide⟩
      have e1 := tl64 (mFloor (mNow l k (sT 0 s)) m.toInt64)
      have e2 := tl64 (mFloor (mNow l k (sT 0 s)) m.toInt64).toInt32.toInt64
      refine ⟨by decide, ?_⟩
      refine ⟨_, _, _, L_SBnew (p := (hm (sT 0 s) x t).length) (nth_ar (l := [])) (Nat.le_refl _) (fun h1 k1 s1 => ?_), by decide, by decide, by decide⟩
      have hk1 : Kp (hm (sT 0 s) x t).length _ h1 := (Kp.rf (Nat.le_refl (hm (sT 0 s) x t).length)).ap.tr k1
      obtain ⟨f1, r1⟩ := s1.rc
      conv => whnf
      rw [r1]
      refine ⟨_, _, _, L_appT0 s1 (by omega) (fun h2 k2 s2 => ?_), by decide, by decide, by decide⟩
      have hk2 := hk1.tr k2
      refine ⟨fun _ => ?_, fun _ => ?_⟩
      · skip
        obtain ⟨f2, r2⟩ := s2.rc
        conv => whnf
        rw [r2]
        refine ⟨_, _, _, L_appJ _ s2 (by omega) (fun h3 k3 s3 => ?_), by decide, by decide, by decide⟩
        have hk3 := hk2.tr k3
        obtain ⟨f3, r3⟩ := s3.rc
        conv => whnf
        rw [r3]
        refine ⟨_, _, _, L_toString s3 (Nat.le_refl _) (by omega) (fun h4 q4 k4 s4 => ?_), by decide, by omega, by decide⟩
        have hk4 := hk3.tr k4
        obtain ⟨l9, rfl⟩ := Kp_all hk4
        exact hK.2 l9 q4
      · skip
        obtain ⟨f2, r2⟩ := s2.rc
        conv => whnf
        rw [r2]
        refine ⟨_, _, _, L_appJ _ s2 (by omega) (fun h3 k3 s3 => ?_), by decide, by decide, by decide⟩
        have hk3 := hk2.tr k3
        obtain ⟨f3, r3⟩ := s3.rc
        conv => whnf
        rw [r3]
        refine ⟨_, _, _, L_toString s3 (Nat.le_refl _) (by omega) (fun h4 q4 k4 s4 => ?_), by decide, by omega, by decide⟩
        have hk4 := hk3.tr k4
        obtain ⟨l9, rfl⟩ := Kp_all hk4
        exact hK.2 l9 q4
  · rw [if_neg a1] at hK
    refine ⟨_, _, _, L_start1 ?_, by decide, by decide, by decide⟩
    refine ⟨fun e => absurd e (by decide), fun _ => ?_⟩
    exact hK.1
theorem M_common (r q i : Int32) (hz : ¬ mMod r s = 0) (hz2 : ¬ mMod q s = 0) (hK : anMT K x t (m_common r q s)) : M P n_M_common [.ref 5, .int r, .int q, .int i] (hm s x t) 40 3000 16 K := by
  refine Mgo ok_M_common 80 rfl ?_
  unfold m_common at hK
  refine ⟨_, _, _, L_isNoRing _ (fun a1 => ?_) (fun a1 => ?_), by decide, by decide, by decide⟩
  · refine ⟨fun _ => ?_, fun e => absurd rfl e⟩
    refine ⟨_, _, _, L_isNoRing _ (fun a2 => ?_) (fun a2 => ?_), by decide, by decide, by decide⟩
    · refine ⟨fun _ => ?_, fun e => absurd rfl e⟩
      rw [if_pos ⟨a1, a2⟩] at hK
      refine ⟨_, _, _, L_start0 ?_, by decide, by decide, by decide⟩
      refine ⟨fun _ => ?_, fun e => absurd rfl e⟩
      refine ⟨vp3 (n3_ok a1), ?_⟩
      refine ⟨_, _, _, L_absJ _ _ ?_, by decide, by decide, by decide⟩
      refine ⟨vp3 (n3_ok a2), ?_⟩
      refine ⟨_, _, _, L_absJ _ _ ?_, by decide, by decide, by decide⟩
      refine ⟨_, _, _, L_mgcd _ _ ?_, by decide, by decide, by decide⟩
      have g1 := abs_m hz
      have g2 := abs_m hz2
      have g3 := (gcd_m g1.1 g2.1).1
      have e1 := tl64 (mGcd (lAbs (mM (sT 0 s) r.toNatClampNeg).toInt64) (lAbs (mM (sT 0 s) q.toNatClampNeg).toInt64))
      have e2 := tl64 (lAbs (mM (sT 0 s) r.toNatClampNeg).toInt64 / mGcd (lAbs (mM (sT 0 s) r.toNatClampNeg).toInt64) (lAbs (mM (sT 0 s) q.toNatClampNeg).toInt64) * lAbs (mM (sT 0 s) q.toNatClampNeg).toInt64)
      refine ⟨by decide, ?_⟩
      refine ⟨_, _, _, L_SBnew (p := (hm (sT 0 s) x t).length) (nth_ar (l := [])) (Nat.le_refl _) (fun h1 k1 s1 => ?_), by decide, by decide, by decide⟩
      have hk1 : Kp (hm (sT 0 s) x t).length _ h1 := (Kp.rf (Nat.le_refl (hm (sT 0 s) x t).length)).ap.tr k1
      obtain ⟨f1, r1⟩ := s1.rc
      conv => whnf
      rw [r1]
      refine ⟨_, _, _, L_appT0 s1 (by omega) (fun h2 k2 s2 => ?_), by decide, by decide, by decide⟩
      have hk2 := hk1.tr k2
      refine ⟨fun _ => ?_, fun _ => ?_⟩
      · skip
        obtain ⟨f2, r2⟩ := s2.rc
        conv => whnf
        rw [r2]
        refine ⟨_, _, _, L_appJ _ s2 (by omega) (fun h3 k3 s3 => ?_), by decide, by decide, by decide⟩
        have hk3 := hk2.tr k3
        obtain ⟨f3, r3⟩ := s3.rc
        conv => whnf
        rw [r3]
        refine ⟨_, _, _, L_toString s3 (Nat.le_refl _) (by omega) (fun h4 q4 k4 s4 => ?_), by decide, by omega, by decide⟩
        have hk4 := hk3.tr k4
        obtain ⟨l9, rfl⟩ := Kp_all hk4
        exact hK.2 l9 q4
      · refine ⟨nz_pos g3, ?_⟩
        obtain ⟨f2, r2⟩ := s2.rc
        conv => whnf
        rw [r2]
        refine ⟨_, _, _, L_appJ _ s2 (by omega) (fun h3 k3 s3 => ?_), by decide, by decide, by decide⟩
        have hk3 := hk2.tr k3
        obtain ⟨f3, r3⟩ := s3.rc
        conv => whnf
        rw [r3]
        refine ⟨_, _, _, L_toString s3 (Nat.le_refl _) (by omega) (fun h4 q4 k4 s4 => ?_), by decide, by omega, by decide⟩
        have hk4 := hk3.tr k4
        obtain ⟨l9, rfl⟩ := Kp_all hk4
        exact hK.2 l9 q4
    · refine ⟨fun e => absurd e (by decide), fun _ => ?_⟩
      rw [if_neg (fun e => a2 e.2)] at hK
      refine ⟨_, _, _, L_start1 ?_, by decide, by decide, by decide⟩
      refine ⟨fun e => absurd e (by decide), fun _ => ?_⟩
      exact hK.1
  · refine ⟨fun e => absurd e (by decide), fun _ => ?_⟩
    rw [if_neg (fun e => a1 e.1)] at hK
    refine ⟨_, _, _, L_start1 ?_, by decide, by decide, by decide⟩
    refine ⟨fun e => absurd e (by decide), fun _ => ?_⟩
    exact hK.1
theorem M_ringText (r : Int32) (hK : anMT K x t (m_ringText r s)) : M P n_M_ringText [.ref 5, .int r] (hm s x t) 40 3000 16 K := by
  refine Mgo ok_M_ringText 120 rfl ?_
  unfold m_ringText at hK
  refine ⟨_, _, _, L_isNoRing _ (fun a1 => ?_) (fun a1 => ?_), by decide, by decide, by decide⟩
  · rw [if_pos a1] at hK
    refine ⟨_, _, _, L_start0 ?_, by decide, by decide, by decide⟩
    refine ⟨fun _ => ?_, fun e => absurd rfl e⟩
    have hr := n3_ok a1
    rcases c3 hr with rfl | rfl | rfl
    · refine ⟨vp3 hr, fun q9 e9 => ?_, fun e9 => absurd e9 (Option.some_ne_none _)⟩
      obtain rfl := Option.some.inj e9
      have e0 := tl32 (mM s 0)
      have e1 := tl32 (mR s 0 0)
      have e2 := tl32 (mR s 0 1)
      have e3 := tl32 (mR s 0 2)
      have e4 := tl32 (mR s 0 3)
      refine ⟨by decide, ?_⟩
      refine ⟨_, _, _, L_SBnew (p := (hm (sT 0 s) x t).length) (nth_ar (l := [])) (Nat.le_refl _) (fun h1 k1 s1 => ?_), by decide, by decide, by decide⟩
      have hk1 : Kp (hm (sT 0 s) x t).length _ h1 := (Kp.rf (Nat.le_refl (hm (sT 0 s) x t).length)).ap.tr k1
      conv => whnf
      rw [hm_5 hk1]
      conv => whnf
      rw [hm_8 hk1]
      refine ⟨vp3 hr, ?_⟩
      obtain ⟨f1, r1⟩ := s1.rc
      conv => whnf
      rw [r1]
      refine ⟨_, _, _, L_appI (mM s 0) s1 (by omega) (fun h2 k2 s2 => ?_), by decide, by decide, by decide⟩
      have hk2 := hk1.tr k2
      obtain ⟨f2, r2⟩ := s2.rc
      conv => whnf
      rw [r2]
      refine ⟨_, _, _, L_appT1 s2 (by omega) (fun h3 k3 s3 => ?_), by decide, by decide, by decide⟩
      have hk3 := hk2.tr k3
      conv => whnf
      rw [show nth _ (10 + Int32.toNatClampNeg 0) = _ from hm_10 hk3]
      refine ⟨by rw [vp_in_iff]; decide, ?_⟩
      obtain ⟨f3, r3⟩ := s3.rc
      conv => whnf
      rw [r3]
      refine ⟨_, _, _, L_appI (mR s 0 0) s3 (by omega) (fun h4 k4 s4 => ?_), by decide, by decide, by decide⟩
      have hk4 := hk3.tr k4
      obtain ⟨f4, r4⟩ := s4.rc
      conv => whnf
      rw [r4]
      refine ⟨_, _, _, L_appT2 s4 (by omega) (fun h5 k5 s5 => ?_), by decide, by decide, by decide⟩
      have hk5 := hk4.tr k5
      conv => whnf
      rw [show nth _ (10 + Int32.toNatClampNeg 0) = _ from hm_10 hk5]
      refine ⟨by rw [vp_in_iff]; decide, ?_⟩
      obtain ⟨f5, r5⟩ := s5.rc
      conv => whnf
      rw [r5]
      refine ⟨_, _, _, L_appI (mR s 0 1) s5 (by omega) (fun h6 k6 s6 => ?_), by decide, by decide, by decide⟩
      have hk6 := hk5.tr k6
      obtain ⟨f6, r6⟩ := s6.rc
      conv => whnf
      rw [r6]
      refine ⟨_, _, _, L_appT2 s6 (by omega) (fun h7 k7 s7 => ?_), by decide, by decide, by decide⟩
      have hk7 := hk6.tr k7
      conv => whnf
      rw [show nth _ (10 + Int32.toNatClampNeg 0) = _ from hm_10 hk7]
      refine ⟨by rw [vp_in_iff]; decide, ?_⟩
      obtain ⟨f7, r7⟩ := s7.rc
      conv => whnf
      rw [r7]
      refine ⟨_, _, _, L_appI (mR s 0 2) s7 (by omega) (fun h8 k8 s8 => ?_), by decide, by decide, by decide⟩
      have hk8 := hk7.tr k8
      obtain ⟨f8, r8⟩ := s8.rc
      conv => whnf
      rw [r8]
      refine ⟨_, _, _, L_appT2 s8 (by omega) (fun h9 k9 s9 => ?_), by decide, by decide, by decide⟩
      have hk9 := hk8.tr k9
      conv => whnf
      rw [show nth _ (10 + Int32.toNatClampNeg 0) = _ from hm_10 hk9]
      refine ⟨by rw [vp_in_iff]; decide, ?_⟩
      obtain ⟨f9, r9⟩ := s9.rc
      conv => whnf
      rw [r9]
      refine ⟨_, _, _, L_appI (mR s 0 3) s9 (by omega) (fun h10 k10 s10 => ?_), by decide, by decide, by decide⟩
      have hk10 := hk9.tr k10
      obtain ⟨f10, r10⟩ := s10.rc
      conv => whnf
      rw [r10]
      refine ⟨_, _, _, L_toString s10 (Nat.le_refl _) (by omega) (fun h11 q11 k11 s11 => ?_), by decide, by omega, by decide⟩
      have hk11 := hk10.tr k11
      obtain ⟨l9, rfl⟩ := Kp_all hk11
      exact hK.2 l9 q11
    · refine ⟨vp3 hr, fun q9 e9 => ?_, fun e9 => absurd e9 (Option.some_ne_none _)⟩
      obtain rfl := Option.some.inj e9
      have e0 := tl32 (mM s 1)
      have e1 := tl32 (mR s 1 0)
      have e2 := tl32 (mR s 1 1)
      have e3 := tl32 (mR s 1 2)
      have e4 := tl32 (mR s 1 3)
      refine ⟨by decide, ?_⟩
      refine ⟨_, _, _, L_SBnew (p := (hm (sT 0 s) x t).length) (nth_ar (l := [])) (Nat.le_refl _) (fun h1 k1 s1 => ?_), by decide, by decide, by decide⟩
      have hk1 : Kp (hm (sT 0 s) x t).length _ h1 := (Kp.rf (Nat.le_refl (hm (sT 0 s) x t).length)).ap.tr k1
      conv => whnf
      rw [hm_5 hk1]
      conv => whnf
      rw [hm_8 hk1]
      refine ⟨vp3 hr, ?_⟩
      obtain ⟨f1, r1⟩ := s1.rc
      conv => whnf
      rw [r1]
      refine ⟨_, _, _, L_appI (mM s 1) s1 (by omega) (fun h2 k2 s2 => ?_), by decide, by decide, by decide⟩
      have hk2 := hk1.tr k2
      obtain ⟨f2, r2⟩ := s2.rc
      conv => whnf
      rw [r2]
      refine ⟨_, _, _, L_appT1 s2 (by omega) (fun h3 k3 s3 => ?_), by decide, by decide, by decide⟩
      have hk3 := hk2.tr k3
      conv => whnf
      rw [show nth _ (10 + Int32.toNatClampNeg 1) = _ from hm_11 hk3]
      refine ⟨by rw [vp_in_iff]; decide, ?_⟩
      obtain ⟨f3, r3⟩ := s3.rc
      conv => whnf
      rw [r3]
      refine ⟨_, _, _, L_appI (mR s 1 0) s3 (by omega) (fun h4 k4 s4 => ?_), by decide, by decide, by decide⟩
      have hk4 := hk3.tr k4
      obtain ⟨f4, r4⟩ := s4.rc
      conv => whnf
      rw [r4]
      refine ⟨_, _, _, L_appT2 s4 (by omega) (fun h5 k5 s5 => ?_), by decide, by decide, by decide⟩
      have hk5 := hk4.tr k5
      conv => whnf
      rw [show nth _ (10 + Int32.toNatClampNeg 1) = _ from hm_11 hk5]
      refine ⟨by rw [vp_in_iff]; decide, ?_⟩
      obtain ⟨f5, r5⟩ := s5.rc
      conv => whnf
      rw [r5]
      refine ⟨_, _, _, L_appI (mR s 1 1) s5 (by omega) (fun h6 k6 s6 => ?_), by decide, by decide, by decide⟩
      have hk6 := hk5.tr k6
      obtain ⟨f6, r6⟩ := s6.rc
      conv => whnf
      rw [r6]
      refine ⟨_, _, _, L_appT2 s6 (by omega) (fun h7 k7 s7 => ?_), by decide, by decide, by decide⟩
      have hk7 := hk6.tr k7
      conv => whnf
      rw [show nth _ (10 + Int32.toNatClampNeg 1) = _ from hm_11 hk7]
      refine ⟨by rw [vp_in_iff]; decide, ?_⟩
      obtain ⟨f7, r7⟩ := s7.rc
      conv => whnf
      rw [r7]
      refine ⟨_, _, _, L_appI (mR s 1 2) s7 (by omega) (fun h8 k8 s8 => ?_), by decide, by decide, by decide⟩
      have hk8 := hk7.tr k8
      obtain ⟨f8, r8⟩ := s8.rc
      conv => whnf
      rw [r8]
      refine ⟨_, _, _, L_appT2 s8 (by omega) (fun h9 k9 s9 => ?_), by decide, by decide, by decide⟩
      have hk9 := hk8.tr k9
      conv => whnf
      rw [show nth _ (10 + Int32.toNatClampNeg 1) = _ from hm_11 hk9]
      refine ⟨by rw [vp_in_iff]; decide, ?_⟩
      obtain ⟨f9, r9⟩ := s9.rc
      conv => whnf
      rw [r9]
      refine ⟨_, _, _, L_appI (mR s 1 3) s9 (by omega) (fun h10 k10 s10 => ?_), by decide, by decide, by decide⟩
      have hk10 := hk9.tr k10
      obtain ⟨f10, r10⟩ := s10.rc
      conv => whnf
      rw [r10]
      refine ⟨_, _, _, L_toString s10 (Nat.le_refl _) (by omega) (fun h11 q11 k11 s11 => ?_), by decide, by omega, by decide⟩
      have hk11 := hk10.tr k11
      obtain ⟨l9, rfl⟩ := Kp_all hk11
      exact hK.2 l9 q11
    · refine ⟨vp3 hr, fun q9 e9 => ?_, fun e9 => absurd e9 (Option.some_ne_none _)⟩
      obtain rfl := Option.some.inj e9
      have e0 := tl32 (mM s 2)
      have e1 := tl32 (mR s 2 0)
      have e2 := tl32 (mR s 2 1)
      have e3 := tl32 (mR s 2 2)
      have e4 := tl32 (mR s 2 3)
      refine ⟨by decide, ?_⟩
      refine ⟨_, _, _, L_SBnew (p := (hm (sT 0 s) x t).length) (nth_ar (l := [])) (Nat.le_refl _) (fun h1 k1 s1 => ?_), by decide, by decide, by decide⟩
      have hk1 : Kp (hm (sT 0 s) x t).length _ h1 := (Kp.rf (Nat.le_refl (hm (sT 0 s) x t).length)).ap.tr k1
      conv => whnf
      rw [hm_5 hk1]
      conv => whnf
      rw [hm_8 hk1]
      refine ⟨vp3 hr, ?_⟩
      obtain ⟨f1, r1⟩ := s1.rc
      conv => whnf
      rw [r1]
      refine ⟨_, _, _, L_appI (mM s 2) s1 (by omega) (fun h2 k2 s2 => ?_), by decide, by decide, by decide⟩
      have hk2 := hk1.tr k2
      obtain ⟨f2, r2⟩ := s2.rc
      conv => whnf
      rw [r2]
      refine ⟨_, _, _, L_appT1 s2 (by omega) (fun h3 k3 s3 => ?_), by decide, by decide, by decide⟩
      have hk3 := hk2.tr k3
      conv => whnf
      rw [show nth _ (10 + Int32.toNatClampNeg 2) = _ from hm_12 hk3]
      refine ⟨by rw [vp_in_iff]; decide, ?_⟩
      obtain ⟨f3, r3⟩ := s3.rc
      conv => whnf
      rw [r3]
      refine ⟨_, _, _, L_appI (mR s 2 0) s3 (by omega) (fun h4 k4 s4 => ?_), by decide, by decide, by decide⟩
      have hk4 := hk3.tr k4
      obtain ⟨f4, r4⟩ := s4.rc
      conv => whnf
      rw [r4]
      refine ⟨_, _, _, L_appT2 s4 (by omega) (fun h5 k5 s5 => ?_), by decide, by decide, by decide⟩
      have hk5 := hk4.tr k5
      conv => whnf
      rw [show nth _ (10 + Int32.toNatClampNeg 2) = _ from hm_12 hk5]
      refine ⟨by rw [vp_in_iff]; decide, ?_⟩
      obtain ⟨f5, r5⟩ := s5.rc
      conv => whnf
      rw [r5]
      refine ⟨_, _, _, L_appI (mR s 2 1) s5 (by omega) (fun h6 k6 s6 => ?_), by decide, by decide, by decide⟩
      have hk6 := hk5.tr k6
      obtain ⟨f6, r6⟩ := s6.rc
      conv => whnf
      rw [r6]
      refine ⟨_, _, _, L_appT2 s6 (by omega) (fun h7 k7 s7 => ?_), by decide, by decide, by decide⟩
      have hk7 := hk6.tr k7
      conv => whnf
      rw [show nth _ (10 + Int32.toNatClampNeg 2) = _ from hm_12 hk7]
      refine ⟨by rw [vp_in_iff]; decide, ?_⟩
      obtain ⟨f7, r7⟩ := s7.rc
      conv => whnf
      rw [r7]
      refine ⟨_, _, _, L_appI (mR s 2 2) s7 (by omega) (fun h8 k8 s8 => ?_), by decide, by decide, by decide⟩
      have hk8 := hk7.tr k8
      obtain ⟨f8, r8⟩ := s8.rc
      conv => whnf
      rw [r8]
      refine ⟨_, _, _, L_appT2 s8 (by omega) (fun h9 k9 s9 => ?_), by decide, by decide, by decide⟩
      have hk9 := hk8.tr k9
      conv => whnf
      rw [show nth _ (10 + Int32.toNatClampNeg 2) = _ from hm_12 hk9]
      refine ⟨by rw [vp_in_iff]; decide, ?_⟩
      obtain ⟨f9, r9⟩ := s9.rc
      conv => whnf
      rw [r9]
      refine ⟨_, _, _, L_appI (mR s 2 3) s9 (by omega) (fun h10 k10 s10 => ?_), by decide, by decide, by decide⟩
      have hk10 := hk9.tr k10
      obtain ⟨f10, r10⟩ := s10.rc
      conv => whnf
      rw [r10]
      refine ⟨_, _, _, L_toString s10 (Nat.le_refl _) (by omega) (fun h11 q11 k11 s11 => ?_), by decide, by omega, by decide⟩
      have hk11 := hk10.tr k11
      obtain ⟨l9, rfl⟩ := Kp_all hk11
      exact hK.2 l9 q11
  · rw [if_neg a1] at hK
    refine ⟨_, _, _, L_start1 ?_, by decide, by decide, by decide⟩
    refine ⟨fun e => absurd e (by decide), fun _ => ?_⟩
    exact hK.1
theorem M_ofNow0 (l k w : Int32) (hk : ok4 k) (hw : n4 w) (hK : K (.inl (some (.int (mOf l k w s)))) (hm s x t)) : M P n_M_ofNow [.ref 5, .int l, .int k, .int w] (hm s x t) 0 0 8 K := by
  refine Mgo ok_M_ofNow 80 rfl ?_
  unfold mOf mLeast at hK
  refine ⟨_, _, _, L_now _ _ hk ?_, by decide, by decide, by decide⟩
  refine ⟨fun ql => ?_, fun ql => ?_⟩
  · rw [if_pos (c := l = 0) ql] at hK
    refine ⟨fun q0 => ?_, fun q0 => ?_⟩
    · rw [if_pos q0] at hK
      refine ⟨_, _, _, L_sign _ ?_, by decide, by decide, by decide⟩
      exact hK
    · rw [if_neg q0] at hK
      refine ⟨fun q1 => ?_, fun q1 => ?_⟩
      · rw [if_pos q1] at hK
        exact hK
      · rw [if_neg q1] at hK
        refine ⟨fun q2 => ?_, fun q2 => ?_⟩
        · rw [if_pos q2] at hK
          exact hK
        · rw [if_neg q2] at hK
          refine ⟨fun q3 => ?_, fun q3 => ?_⟩
          · rw [if_pos q3] at hK
            refine ⟨fun q4 => ?_, fun q4 => ?_⟩
            · rw [if_pos q4] at hK
              exact hK
            · rw [if_neg q4] at hK
              refine ⟨fun q5 => ?_, fun q5 => ?_⟩
              · rw [if_pos q5] at hK
                exact hK
              · rw [if_neg q5] at hK
                exact hK
          · exact ((c4 (n4_ok hw)).elim q0 (fun e => e.elim q1 (fun e => e.elim q2 q3))).elim
  · rw [if_neg (c := l = 0) ql] at hK
    refine ⟨fun q0 => ?_, fun q0 => ?_⟩
    · rw [if_pos q0] at hK
      refine ⟨_, _, _, L_sign _ ?_, by decide, by decide, by decide⟩
      exact hK
    · rw [if_neg q0] at hK
      refine ⟨fun q1 => ?_, fun q1 => ?_⟩
      · rw [if_pos q1] at hK
        exact hK
      · rw [if_neg q1] at hK
        refine ⟨fun q2 => ?_, fun q2 => ?_⟩
        · rw [if_pos q2] at hK
          exact hK
        · rw [if_neg q2] at hK
          refine ⟨fun q3 => ?_, fun q3 => ?_⟩
          · rw [if_pos q3] at hK
            refine ⟨fun q4 => ?_, fun q4 => ?_⟩
            · rw [if_pos q4] at hK
              exact hK
            · rw [if_neg q4] at hK
              refine ⟨fun q5 => ?_, fun q5 => ?_⟩
              · rw [if_pos q5] at hK
                exact hK
              · rw [if_neg q5] at hK
                exact hK
          · exact ((c4 (n4_ok hw)).elim q0 (fun e => e.elim q1 (fun e => e.elim q2 q3))).elim
theorem M_ofNow4 (l k : Int32) (hk : ok4 k) (hK : ∀ t', K (.inl (some (.int (mOf l k 4 s)))) (hm s x (t ++ t'))) : M P n_M_ofNow [.ref 5, .int l, .int k, .int 4] (hm s x t) 6 500 16 K := by
  refine Mgo ok_M_ofNow 80 rfl ?_
  have e1 := tl64 (mNow l k s)
  have hO : mOf l k 4 s = Int32.ofNat (0 + 0 + tl (mNow l k s).toInt) := by
    unfold mOf
    rw [if_neg (by decide), if_neg (by decide), if_neg (by decide), if_neg (by decide), Nat.zero_add]
  rw [hO] at hK
  refine ⟨_, _, _, L_now _ _ hk ?_, by decide, by decide, by decide⟩
  refine ⟨fun ql => ?_, fun ql => ?_⟩
  · refine ⟨fun e => absurd e (by decide), fun _ => ?_⟩
    refine ⟨fun e => absurd e (by decide), fun _ => ?_⟩
    refine ⟨fun e => absurd e (by decide), fun _ => ?_⟩
    refine ⟨fun e => absurd e (by decide), fun _ => ?_⟩
    refine ⟨by decide, ?_⟩
    refine ⟨_, _, _, L_SBnew (p := (hm s x t).length) (nth_ar (l := [])) (Nat.le_refl _) (fun h1 k1 s1 => ?_), by decide, by decide, by decide⟩
    have hk1 : Kp (hm s x t).length _ h1 := (Kp.rf (Nat.le_refl (hm s x t).length)).ap.tr k1
    obtain ⟨f1, r1⟩ := s1.rc
    conv => whnf
    rw [r1]
    refine ⟨_, _, _, L_appT0 s1 (by omega) (fun h2 k2 s2 => ?_), by decide, by decide, by decide⟩
    have hk2 := hk1.tr k2
    obtain ⟨f2, r2⟩ := s2.rc
    conv => whnf
    rw [r2]
    refine ⟨_, _, _, L_appJ _ s2 (by omega) (fun h3 k3 s3 => ?_), by decide, by decide, by decide⟩
    have hk3 := hk2.tr k3
    obtain ⟨f3, r3⟩ := s3.rc
    conv => whnf
    rw [r3]
    refine ⟨_, _, _, L_toString s3 (Nat.le_refl _) (by omega) (fun h4 q4 k4 s4 => ?_), by decide, by omega, by decide⟩
    have hk4 := hk3.tr k4
    obtain ⟨-, w4, g4, r4, -⟩ := id s4
    conv => whnf
    rw [r4]
    refine ⟨_, _, _, L_slenS s4 ?_, Nat.zero_le _, Nat.zero_le _, by decide⟩
    obtain ⟨l9, rfl⟩ := Kp_all hk4
    exact hK l9
  · refine ⟨fun e => absurd e (by decide), fun _ => ?_⟩
    refine ⟨fun e => absurd e (by decide), fun _ => ?_⟩
    refine ⟨fun e => absurd e (by decide), fun _ => ?_⟩
    refine ⟨fun e => absurd e (by decide), fun _ => ?_⟩
    refine ⟨by decide, ?_⟩
    refine ⟨_, _, _, L_SBnew (p := (hm s x t).length) (nth_ar (l := [])) (Nat.le_refl _) (fun h1 k1 s1 => ?_), by decide, by decide, by decide⟩
    have hk1 : Kp (hm s x t).length _ h1 := (Kp.rf (Nat.le_refl (hm s x t).length)).ap.tr k1
    obtain ⟨f1, r1⟩ := s1.rc
    conv => whnf
    rw [r1]
    refine ⟨_, _, _, L_appT0 s1 (by omega) (fun h2 k2 s2 => ?_), by decide, by decide, by decide⟩
    have hk2 := hk1.tr k2
    obtain ⟨f2, r2⟩ := s2.rc
    conv => whnf
    rw [r2]
    refine ⟨_, _, _, L_appJ _ s2 (by omega) (fun h3 k3 s3 => ?_), by decide, by decide, by decide⟩
    have hk3 := hk2.tr k3
    obtain ⟨f3, r3⟩ := s3.rc
    conv => whnf
    rw [r3]
    refine ⟨_, _, _, L_toString s3 (Nat.le_refl _) (by omega) (fun h4 q4 k4 s4 => ?_), by decide, by omega, by decide⟩
    have hk4 := hk3.tr k4
    obtain ⟨-, w4, g4, r4, -⟩ := id s4
    conv => whnf
    rw [r4]
    refine ⟨_, _, _, L_slenS s4 ?_, Nat.zero_le _, Nat.zero_le _, by decide⟩
    obtain ⟨l9, rfl⟩ := Kp_all hk4
    exact hK l9
theorem M_ofNumber (l k w : Int32) (hK : ∀ t', anM K x (t ++ t') (m_ofNumber l k w s)) : M P n_M_ofNumber [.ref 5, .int l, .int k, .int w] (hm s x t) 40 3000 17 K := by
  refine Mgo ok_M_ofNumber 80 rfl ?_
  have hG := fun t' => an_gd (hK t')
  have h0 : ∀ o, anM K x (t ++ []) o → anM K x t o := fun o h => by
    rw [List.append_nil] at h
    exact h
  refine ⟨_, _, _, L_isNo _ (fun a1 => ?_) (fun a1 => ?_), by decide, by decide, by decide⟩
  · have hR := fun t' => an_rf ((hG t').1 a1)
    refine ⟨_, _, _, L_start0 ?_, by decide, by decide, by decide⟩
    refine ⟨fun _ => ?_, fun e => absurd rfl e⟩
    refine ⟨fun w1 => ?_, fun w1 => ?_⟩
    · have hK := h0 _ ((hR []).2 (fun e => e.1 w1))
      refine ⟨_, _, _, L_mrefuse1 2 rfl (by decide) ?_, by decide, by decide, by decide⟩
      refine ⟨fun e => absurd e (by decide), fun _ => ?_⟩
      exact hK
    · refine ⟨fun w2 => ?_, fun w2 => ?_⟩
      · have hK := h0 _ ((hR []).2 (fun e => e.2 w2))
        refine ⟨_, _, _, L_mrefuse1 2 rfl (by decide) ?_, by decide, by decide, by decide⟩
        refine ⟨fun e => absurd e (by decide), fun _ => ?_⟩
        exact hK
      · have hK := fun t' => (hR t').1 ⟨w1, w2⟩
        refine ⟨_, _, _, L_mrefuse0 2 rfl ?_, by decide, by decide, by decide⟩
        refine ⟨fun _ => ?_, fun e => absurd rfl e⟩
        by_cases h4 : w = 4
        · subst h4
          exact ⟨_, _, _, M_ofNow4 _ _ (n4_ok a1) (fun t' => hK t'), by decide, by decide, by decide⟩
        · have hw : n4 w := ⟨w1, fun e => h4 (by
            have i3 : (3 : Int32).toInt = 3 := by decide
            have i4 : (4 : Int32).toInt = 4 := by decide
            rw [Int32.lt_iff_toInt_lt] at e w2
            exact Int32.toInt_inj.mp (by omega))⟩
          exact ⟨_, _, _, M_ofNow0 _ _ _ (n4_ok a1) hw (h0 _ (hK [])), by decide, by decide, by decide⟩
  · have hK := h0 _ ((hG []).2 a1)
    refine ⟨_, _, _, L_start1 ?_, by decide, by decide, by decide⟩
    refine ⟨fun e => absurd e (by decide), fun _ => ?_⟩
    exact hK
end MDT
