section
/-! THE MODEL: its texts; what a text holds isn't told, but how long it is -/
theorem SB.rc {p b c m : Nat} {h : mH} (a : SB p b c m h) : ∃ fs, nth h b = some (.inr (1, fs)) := by
  obtain ⟨-, v, n, g, q, -, -, h2, -⟩ := a
  exact ⟨_, h2⟩
def anMT (K : Kt) (x : XS) (t : mH) (s : MS) : Prop := K (.inl (some (.retAddr 10))) (hm s x t) ∧ ∀ l r, K (.inl (some (.ref r))) (hm s x (t ++ l))
def m_text (k : Int32) (s : MS) : MS := if n4 k then sT 0 s else sT 1 s
def m_distance (k f : Int32) (s : MS) : MS := if n4 k ∧ n4 f then sT 0 s else sT 1 s
def m_quotient (k m : Int32) (s : MS) : MS := if n4 k then (if ¬ m = 0 then sT 0 s else sT 2 s) else sT 1 s
def m_common (r q : Int32) (s : MS) : MS := if n3 r ∧ n3 q then sT 0 s else sT 1 s
def m_ringText (r : Int32) (s : MS) : MS := if n3 r then sT 0 s else sT 1 s
def mLeast (l : Int32) : Int64 := if l = 0 then -2147483648 else -9223372036854775808
def mOf (l k w : Int32) (s : MS) : Int32 := if w = 0 then mSign (mNow l k s) else if w = 1 then (mNow l k s).toInt32 else if w = 2 then (mNow l k s >>> sh32).toInt32 else if w = 3 then (if mNow l k s = mLeast l then -1 else if mNow l k s = -1 - mLeast l then 1 else 0) else Int32.ofNat (tl (mNow l k s).toInt)
def m_ofNumber (l k w : Int32) (s : MS) : MO := gd (n4 k) s (rf (okC w 4) (sT 0 s) (mOf l k w (sT 0 s), sT 0 s))
theorem hm_len (s : MS) (x : XS) (t : mH) : 13 ≤ (hm s x t).length := by
  unfold hm hx
  simp only [List.length_cons]
  omega
section MDT
variable {P : GP} {K : Kt} {s : MS} {x : XS} {t : mH}
theorem hm_5 {h1 : mH} (hk : Kp (hm s x t).length (hm s x t) h1) : nth h1 5 = some (.inr (4, [.int (mTh s), .ref 6, .ref 7, .ref 8, .ref 9, .int (mF s), .int (mK s)])) := hk.2 5 (Nat.lt_of_lt_of_le (by decide) (hm_len s x t))
theorem hm_8 {h1 : mH} (hk : Kp (hm s x t).length (hm s x t) h1) : nth h1 8 = some (.inl (1, 3, .inl (mM s))) := hk.2 8 (Nat.lt_of_lt_of_le (by decide) (hm_len s x t))
theorem hm_10 {h1 : mH} (hk : Kp (hm s x t).length (hm s x t) h1) : nth h1 10 = some (.inl (1, 4, .inl (mR s 0))) := hk.2 10 (Nat.lt_of_lt_of_le (by decide) (hm_len s x t))
theorem hm_11 {h1 : mH} (hk : Kp (hm s x t).length (hm s x t) h1) : nth h1 11 = some (.inl (1, 4, .inl (mR s 1))) := hk.2 11 (Nat.lt_of_lt_of_le (by decide) (hm_len s x t))
theorem hm_12 {h1 : mH} (hk : Kp (hm s x t).length (hm s x t) h1) : nth h1 12 = some (.inl (1, 4, .inl (mR s 2))) := hk.2 12 (Nat.lt_of_lt_of_le (by decide) (hm_len s x t))
theorem L_nowK {h1 : mH} (hk : Kp (hm s x t).length (hm s x t) h1) (l k : Int32) (hk4 : ok4 k) (hK : K (.inl (some (.long (mNow l k s)))) h1) : M P n_M_now [.ref 5, .int l, .int k] h1 0 0 6 K := by
  obtain ⟨l9, rfl⟩ := Kp_all hk
  exact L_now (t := t ++ l9) l k hk4 hK
theorem L_coderS {h : mH} {p r c : Nat} (hT : ST p r c h) (hK : K (.inl (some (.int 0))) h) : M P n_STR_coder [.ref r] h 0 0 6 K := by
  obtain ⟨-, w, g, h1, h2⟩ := hT
  refine Mgo ok_STR_coder 60 rfl ?_
  refine ⟨fun e => absurd e (by decide), fun _ => ?_⟩
  conv => whnf
  rw [h1]
  exact ⟨rfl, hK⟩
theorem L_slenS {h : mH} {p r c : Nat} (hT : ST p r c h) (hK : K (.inl (some (.int (Int32.ofNat c)))) h) : M P n_STR_length [.ref r] h 0 0 7 K := by
  have hT0 := hT
  obtain ⟨-, w, g, h1, h2⟩ := hT0
  refine Mgo ok_STR_length 60 rfl ?_
  conv => whnf
  rw [h1]
  conv => whnf
  rw [h2]
  conv => whnf
  rw [h1]
  refine ⟨_, _, _, L_coderS hT ?_, by decide, by decide, by decide⟩
  have hK2 : K (.inl (some (.int (Int32.ofNat c >>> ((0 : Int32) &&& 31))))) h := by
    rw [sb_shr0]
    exact hK
  exact hK2
theorem L_plain {h : mH} (v : Int64) (hK : ∀ l r, K (.inl (some (.ref r))) (h ++ l)) : M P n_M_plain [.long v] h 30 2000 14 K := by
  refine Mgo ok_M_plain 80 rfl ?_
  refine ⟨fun e => ?_, fun e => ?_⟩
  · refine ⟨by decide, ?_⟩
    have e1 := tl64 (tTen v)
    have e2 := tl64 (v - 10 * tTen v)
    refine ⟨by decide, ?_⟩
    refine ⟨_, _, _, L_SBnew (p := h.length) (nth_ar (l := [])) (Nat.le_refl _) (fun h1 k1 s1 => ?_), by decide, by decide, by decide⟩
    have hk1 : Kp h.length _ h1 := (Kp.rf (Nat.le_refl h.length)).ap.tr k1
    obtain ⟨f1, r1⟩ := s1.rc
    conv => whnf
    rw [r1]
    refine ⟨_, _, _, L_appT0 s1 (by omega) (fun h2 k2 s2 => ?_), by decide, by decide, by decide⟩
    have hk2 := hk1.tr k2
    obtain ⟨f2, r2⟩ := s2.rc
    conv => whnf
    rw [r2]
    refine ⟨_, _, _, L_appJ (tTen v) s2 (by omega) (fun h3 k3 s3 => ?_), by decide, by decide, by decide⟩
    have hk3 := hk2.tr k3
    obtain ⟨f3, r3⟩ := s3.rc
    conv => whnf
    rw [r3]
    refine ⟨_, _, _, L_appJ (v - 10 * tTen v) s3 (by omega) (fun h4 k4 s4 => ?_), by decide, by decide, by decide⟩
    have hk4 := hk3.tr k4
    obtain ⟨f4, r4⟩ := s4.rc
    conv => whnf
    rw [r4]
    refine ⟨_, _, _, L_toString s4 (Nat.le_refl _) (by omega) (fun h5 q5 k5 s5 => ?_), by decide, by omega, by decide⟩
    have hk5 := hk4.tr k5
    obtain ⟨l9, rfl⟩ := Kp_all hk5
    exact hK l9 q5
  · have e1 := tl64 v
    refine ⟨by decide, ?_⟩
    refine ⟨_, _, _, L_SBnew (p := h.length) (nth_ar (l := [])) (Nat.le_refl _) (fun h1 k1 s1 => ?_), by decide, by decide, by decide⟩
    have hk1 : Kp h.length _ h1 := (Kp.rf (Nat.le_refl h.length)).ap.tr k1
    obtain ⟨f1, r1⟩ := s1.rc
    conv => whnf
    rw [r1]
    refine ⟨_, _, _, L_appT0 s1 (by omega) (fun h2 k2 s2 => ?_), by decide, by decide, by decide⟩
    have hk2 := hk1.tr k2
    obtain ⟨f2, r2⟩ := s2.rc
    conv => whnf
    rw [r2]
    refine ⟨_, _, _, L_appJ v s2 (by omega) (fun h3 k3 s3 => ?_), by decide, by decide, by decide⟩
    have hk3 := hk2.tr k3
    obtain ⟨f3, r3⟩ := s3.rc
    conv => whnf
    rw [r3]
    refine ⟨_, _, _, L_toString s3 (Nat.le_refl _) (by omega) (fun h4 q4 k4 s4 => ?_), by decide, by omega, by decide⟩
    have hk4 := hk3.tr k4
    obtain ⟨l9, rfl⟩ := Kp_all hk4
    exact hK l9 q4
theorem M_text (l k : Int32) (hK : anMT K x t (m_text k s)) : M P n_M_text [.ref 5, .int l, .int k] (hm s x t) 40 3000 16 K := by
  refine Mgo ok_M_text 80 rfl ?_
  unfold m_text at hK
  refine ⟨_, _, _, L_isNo _ (fun a1 => ?_) (fun a1 => ?_), by decide, by decide, by decide⟩
  · rw [if_pos a1] at hK
    refine ⟨_, _, _, L_start0 ?_, by decide, by decide, by decide⟩
    refine ⟨fun _ => ?_, fun e => absurd rfl e⟩
    have e1 := tl64 (mNow l k (sT 0 s))
    refine ⟨by decide, ?_⟩
    refine ⟨_, _, _, L_SBnew (p := (hm (sT 0 s) x t).length) (nth_ar (l := [])) (Nat.le_refl _) (fun h1 k1 s1 => ?_), by decide, by decide, by decide⟩
    have hk1 : Kp (hm (sT 0 s) x t).length _ h1 := (Kp.rf (Nat.le_refl (hm (sT 0 s) x t).length)).ap.tr k1
    obtain ⟨f1, r1⟩ := s1.rc
    conv => whnf
    rw [r1]
    refine ⟨_, _, _, L_appT0 s1 (by omega) (fun h2 k2 s2 => ?_), by decide, by decide, by decide⟩
    have hk2 := hk1.tr k2
    conv => whnf
    rw [hm_5 hk2]
    refine ⟨_, _, _, L_nowK hk2 _ _ (n4_ok a1) ?_, by decide, by decide, by decide⟩
    obtain ⟨f2, r2⟩ := s2.rc
    conv => whnf
    rw [r2]
    refine ⟨_, _, _, L_appJ _ s2 (by omega) (fun h3 k3 s3 => ?_), by decide, by decide, by decide⟩
    have hk3 := hk2.tr k3
    obtain ⟨f3, r3⟩ := s3.rc
    conv => whnf
    rw [r3]
    refine ⟨_, _, _, L_toString s3 (Nat.le_refl _) (by omega) (fun h4 q4 k4 s4 => ?_), by decide, by omega, by decide⟩
    have hk4 := hk3.tr k4
    obtain ⟨l9, rfl⟩ := Kp_all hk4
    exact hK.2 l9 q4
  · rw [if_neg a1] at hK
    refine ⟨_, _, _, L_start1 ?_, by decide, by decide, by decide⟩
    refine ⟨fun e => absurd e (by decide), fun _ => ?_⟩
    exact hK.1
theorem M_distance (l k f : Int32) (hK : anMT K x t (m_distance k f s)) : M P n_M_distance [.ref 5, .int l, .int k, .int f] (hm s x t) 40 3000 16 K := by
  refine Mgo ok_M_distance 80 rfl ?_
  unfold m_distance at hK
  refine ⟨_, _, _, L_isNo _ (fun a1 => ?_) (fun a1 => ?_), by decide, by decide, by decide⟩
  · refine ⟨fun _ => ?_, fun e => absurd rfl e⟩
    refine ⟨_, _, _, L_isNo _ (fun a2 => ?_) (fun a2 => ?_), by decide, by decide, by decide⟩
    · refine ⟨fun _ => ?_, fun e => absurd rfl e⟩
      rw [if_pos ⟨a1, a2⟩] at hK
      refine ⟨_, _, _, L_start0 ?_, by decide, by decide, by decide⟩
      refine ⟨fun _ => ?_, fun e => absurd rfl e⟩
      refine ⟨_, _, _, L_now _ _ (n4_ok a1) ?_, by decide, by decide, by decide⟩
      refine ⟨_, _, _, L_now _ _ (n4_ok a2) ?_, by decide, by decide, by decide⟩
      refine ⟨fun _ => ?_, fun _ => ?_⟩
      · exact ⟨_, _, _, L_plain _ (fun l9 r => hK.2 l9 r), by decide, by decide, by decide⟩
      · exact ⟨_, _, _, L_plain _ (fun l9 r => hK.2 l9 r), by decide, by decide, by decide⟩
    · refine ⟨fun e => absurd e (by decide), fun _ => ?_⟩
      rw [if_neg (fun e => a2 e.2)] at hK
      refine ⟨_, _, _, L_start1 ?_, by decide, by decide, by decide⟩
      refine ⟨fun e => absurd e (by decide), fun _ => ?_⟩
      exact hK.1
  · refine ⟨fun e => absurd e (by decide), fun _ => ?_⟩
    rw [if_neg (fun e => a1 e.1)] at hK
    refine ⟨_, _, _, L_start1 ?_, by decide, by decide, by decide⟩
    refine ⟨fun e => absurd e (by decide), fun _ => ?_⟩
    exact hK.1
theorem M_quotient (l k m : Int32) (hK : anMT K x t (m_quotient k m s)) : M P n_M_quotient [.ref 5, .int l, .int k, .int m] (hm s x t) 40 3000 16 K := by
  refine Mgo ok_M_quotient 80 rfl ?_
  unfold m_quotient at hK
  refine ⟨_, _, _, L_isNo _ (fun a1 => ?_) (fun a1 => ?_), by decide, by decide, by decide⟩
  · rw [if_pos a1] at hK
    refine ⟨_, _, _, L_start0 ?_, by decide, by decide, by decide⟩
    refine ⟨fun _ => ?_, fun e => absurd rfl e⟩
    refine ⟨fun w1 => ?_, fun w1 => ?_⟩
    · rw [if_neg (fun e => e w1)] at hK
      refine ⟨_, _, _, L_mrefuse1 2 rfl (by decide) ?_, by decide, by decide, by decide⟩
      refine ⟨fun e => absurd e (by decide), fun _ => ?_⟩
      exact hK.1
    · rw [if_pos w1] at hK
      refine ⟨_, _, _, L_mrefuse0 2 rfl ?_, by decide, by decide, by decide⟩
      refine ⟨fun _ => ?_, fun e => absurd rfl e⟩
      refine ⟨_, _, _, L_now _ _ (n4_ok a1) ?_, by decide, by decide, by decide⟩
      refine ⟨_, _, _, L_mfloor _ _ (nz64 w1) ?_, by decide, by decide, by decide⟩
      have e1 := tl64 (mFloor (mNow l k (sT 0 s)) m.toInt64)
      have e2 := tl64 (mFloor (mNow l k (sT 0 s)) m.toInt64).toInt32.toInt64
      refine ⟨by decide, ?_⟩
      refine ⟨_, _, _, L_SBnew (p := (hm (sT 0 s) x t).length) (nth_ar (l := [])) (Nat.le_refl _) (fun h1 k1 s1 => ?_), by decide, by decide, by decide⟩
      have hk1 : Kp (hm (sT 0 s) x t).length _ h1 := (Kp.rf (Nat.le_refl (hm (sT 0 s) x t).length)).ap.tr k1
      obtain ⟨f1, r1⟩ := s1.rc
      conv => whnf
      rw [r1]
      refine ⟨_, _, _, L_appT0 s1 (by omega) (fun h2 k2 s2 => ?_), by decide, by decide, by decide⟩
      have hk2 := hk1.tr k2
      refine ⟨fun _ => ?_, fun _ => ?_⟩
      · skip
        obtain ⟨f2, r2⟩ := s2.rc
        conv => whnf
        rw [r2]
        refine ⟨_, _, _, L_appJ _ s2 (by omega) (fun h3 k3 s3 => ?_), by decide, by decide, by decide⟩
        have hk3 := hk2.tr k3
        obtain ⟨f3, r3⟩ := s3.rc
        conv => whnf
        rw [r3]
        refine ⟨_, _, _, L_toString s3 (Nat.le_refl _) (by omega) (fun h4 q4 k4 s4 => ?_), by decide, by omega, by decide⟩
        have hk4 := hk3.tr k4
        obtain ⟨l9, rfl⟩ := Kp_all hk4
        exact hK.2 l9 q4
      · skip
        obtain ⟨f2, r2⟩ := s2.rc
        conv => whnf
        rw [r2]
        refine ⟨_, _, _, L_appJ _ s2 (by omega) (fun h3 k3 s3 => ?_), by decide, by decide, by decide⟩
        have hk3 := hk2.tr k3
        obtain ⟨f3, r3⟩ := s3.rc
        conv => whnf
        rw [r3]
        refine ⟨_, _, _, L_toString s3 (Nat.le_refl _) (by omega) (fun h4 q4 k4 s4 => ?_), by decide, by omega, by decide⟩
        have hk4 := hk3.tr k4
        obtain ⟨l9, rfl⟩ := Kp_all hk4
        exact hK.2 l9 q4
  · rw [if_neg a1] at hK
    refine ⟨_, _, _, L_start1 ?_, by decide, by decide, by decide⟩
    refine ⟨fun e => absurd e (by decide), fun _ => ?_⟩
    exact hK.1
theorem M_common (r q i : Int32) (hz : ¬ mMod r s = 0) (hz2 : ¬ mMod q s = 0) (hK : anMT K x t (m_common r q s)) : M P n_M_common [.ref 5, .int r, .int q, .int i] (hm s x t) 40 3000 16 K := by
  refine Mgo ok_M_common 80 rfl ?_
  unfold m_common at hK
  refine ⟨_, _, _, L_isNoRing _ (fun a1 => ?_) (fun a1 => ?_), by decide, by decide, by decide⟩
  · refine ⟨fun _ => ?_, fun e => absurd rfl e⟩
    refine ⟨_, _, _, L_isNoRing _ (fun a2 => ?_) (fun a2 => ?_), by decide, by decide, by decide⟩
    · refine ⟨fun _ => ?_, fun e => absurd rfl e⟩
      rw [if_pos ⟨a1, a2⟩] at hK
      refine ⟨_, _, _, L_start0 ?_, by decide, by decide, by decide⟩
      refine ⟨fun _ => ?_, fun e => absurd rfl e⟩
      refine ⟨vp3 (n3_ok a1), ?_⟩
      refine ⟨_, _, _, L_absJ _ _ ?_, by decide, by decide, by decide⟩
      refine ⟨vp3 (n3_ok a2), ?_⟩
      refine ⟨_, _, _, L_absJ _ _ ?_, by decide, by decide, by decide⟩
      refine ⟨_, _, _, L_mgcd _ _ ?_, by decide, by decide, by decide⟩
      have g1 := abs_m hz
      have g2 := abs_m hz2
      have g3 := (gcd_m g1.1 g2.1).1
      have e1 := tl64 (mGcd (lAbs (mM (sT 0 s) r.toNatClampNeg).toInt64) (lAbs (mM (sT 0 s) q.toNatClampNeg).toInt64))
      have e2 := tl64 (lAbs (mM (sT 0 s) r.toNatClampNeg).toInt64 / mGcd (lAbs (mM (sT 0 s) r.toNatClampNeg).toInt64) (lAbs (mM (sT 0 s) q.toNatClampNeg).toInt64) * lAbs (mM (sT 0 s) q.toNatClampNeg).toInt64)
      refine ⟨by decide, ?_⟩
      refine ⟨_, _, _, L_SBnew (p := (hm (sT 0 s) x t).length) (nth_ar (l := [])) (Nat.le_refl _) (fun h1 k1 s1 => ?_), by decide, by decide, by decide⟩
      have hk1 : Kp (hm (sT 0 s) x t).length _ h1 := (Kp.rf (Nat.le_refl (hm (sT 0 s) x t).length)).ap.tr k1
      obtain ⟨f1, r1⟩ := s1.rc
      conv => whnf
      rw [r1]
      refine ⟨_, _, _, L_appT0 s1 (by omega) (fun h2 k2 s2 => ?_), by decide, by decide, by decide⟩
      have hk2 := hk1.tr k2
      refine ⟨fun _ => ?_, fun _ => ?_⟩
      · skip
        obtain ⟨f2, r2⟩ := s2.rc
        conv => whnf
        rw [r2]
        refine ⟨_, _, _, L_appJ _ s2 (by omega) (fun h3 k3 s3 => ?_), by decide, by decide, by decide⟩
        have hk3 := hk2.tr k3
        obtain ⟨f3, r3⟩ := s3.rc
        conv => whnf
        rw [r3]
        refine ⟨_, _, _, L_toString s3 (Nat.le_refl _) (by omega) (fun h4 q4 k4 s4 => ?_), by decide, by omega, by decide⟩
        have hk4 := hk3.tr k4
        obtain ⟨l9, rfl⟩ := Kp_all hk4
        exact hK.2 l9 q4
      · refine ⟨nz_pos g3, ?_⟩
        obtain ⟨f2, r2⟩ := s2.rc
        conv => whnf
        rw [r2]
        refine ⟨_, _, _, L_appJ _ s2 (by omega) (fun h3 k3 s3 => ?_), by decide, by decide, by decide⟩
        have hk3 := hk2.tr k3
        obtain ⟨f3, r3⟩ := s3.rc
        conv => whnf
        rw [r3]
        refine ⟨_, _, _, L_toString s3 (Nat.le_refl _) (by omega) (fun h4 q4 k4 s4 => ?_), by decide, by omega, by decide⟩
        have hk4 := hk3.tr k4
        obtain ⟨l9, rfl⟩ := Kp_all hk4
        exact hK.2 l9 q4
    · refine ⟨fun e => absurd e (by decide), fun _ => ?_⟩
      rw [if_neg (fun e => a2 e.2)] at hK
      refine ⟨_, _, _, L_start1 ?_, by decide, by decide, by decide⟩
      refine ⟨fun e => absurd e (by decide), fun _ => ?_⟩
      exact hK.1
  · refine ⟨fun e => absurd e (by decide), fun _ => ?_⟩
    rw [if_neg (fun e => a1 e.1)] at hK
    refine ⟨_, _, _, L_start1 ?_, by decide, by decide, by decide⟩
    refine ⟨fun e => absurd e (by decide), fun _ => ?_⟩
    exact hK.1
theorem M_ringText (r : Int32) (hK : anMT K x t (m_ringText r s)) : M P n_M_ringText [.ref 5, .int r] (hm s x t) 40 3000 16 K := by
  refine Mgo ok_M_ringText 120 rfl ?_
  unfold m_ringText at hK
  refine ⟨_, _, _, L_isNoRing _ (fun a1 => ?_) (fun a1 => ?_), by decide, by decide, by decide⟩
  · rw [if_pos a1] at hK
    refine ⟨_, _, _, L_start0 ?_, by decide, by decide, by decide⟩
    refine ⟨fun _ => ?_, fun e => absurd rfl e⟩
    have hr := n3_ok a1
    rcases c3 hr with rfl | rfl | rfl
    · refine ⟨vp3 hr, fun q9 e9 => ?_, fun e9 => absurd e9 (Option.some_ne_none _)⟩
      obtain rfl := Option.some.inj e9
      have e0 := tl32 (mM s 0)
      have e1 := tl32 (mR s 0 0)
      have e2 := tl32 (mR s 0 1)
      have e3 := tl32 (mR s 0 2)
      have e4 := tl32 (mR s 0 3)
      refine ⟨by decide, ?_⟩
      refine ⟨_, _, _, L_SBnew (p := (hm (sT 0 s) x t).length) (nth_ar (l := [])) (Nat.le_refl _) (fun h1 k1 s1 => ?_), by decide, by decide, by decide⟩
      have hk1 : Kp (hm (sT 0 s) x t).length _ h1 := (Kp.rf (Nat.le_refl (hm (sT 0 s) x t).length)).ap.tr k1
      conv => whnf
      rw [hm_5 hk1]
      conv => whnf
      rw [hm_8 hk1]
      refine ⟨vp3 hr, ?_⟩
      obtain ⟨f1, r1⟩ := s1.rc
      conv => whnf
      rw [r1]
      refine ⟨_, _, _, L_appI (mM s 0) s1 (by omega) (fun h2 k2 s2 => ?_), by decide, by decide, by decide⟩
      have hk2 := hk1.tr k2
      obtain ⟨f2, r2⟩ := s2.rc
      conv => whnf
      rw [r2]
      refine ⟨_, _, _, L_appT1 s2 (by omega) (fun h3 k3 s3 => ?_), by decide, by decide, by decide⟩
      have hk3 := hk2.tr k3
      conv => whnf
      rw [show nth _ (10 + Int32.toNatClampNeg 0) = _ from hm_10 hk3]
      refine ⟨by rw [vp_in_iff]; decide, ?_⟩
      obtain ⟨f3, r3⟩ := s3.rc
      conv => whnf
      rw [r3]
      refine ⟨_, _, _, L_appI (mR s 0 0) s3 (by omega) (fun h4 k4 s4 => ?_), by decide, by decide, by decide⟩
      have hk4 := hk3.tr k4
      obtain ⟨f4, r4⟩ := s4.rc
      conv => whnf
      rw [r4]
      refine ⟨_, _, _, L_appT2 s4 (by omega) (fun h5 k5 s5 => ?_), by decide, by decide, by decide⟩
      have hk5 := hk4.tr k5
      conv => whnf
      rw [show nth _ (10 + Int32.toNatClampNeg 0) = _ from hm_10 hk5]
      refine ⟨by rw [vp_in_iff]; decide, ?_⟩
      obtain ⟨f5, r5⟩ := s5.rc
      conv => whnf
      rw [r5]
      refine ⟨_, _, _, L_appI (mR s 0 1) s5 (by omega) (fun h6 k6 s6 => ?_), by decide, by decide, by decide⟩
      have hk6 := hk5.tr k6
      obtain ⟨f6, r6⟩ := s6.rc
      conv => whnf
      rw [r6]
      refine ⟨_, _, _, L_appT2 s6 (by omega) (fun h7 k7 s7 => ?_), by decide, by decide, by decide⟩
      have hk7 := hk6.tr k7
      conv => whnf
      rw [show nth _ (10 + Int32.toNatClampNeg 0) = _ from hm_10 hk7]
      refine ⟨by rw [vp_in_iff]; decide, ?_⟩
      obtain ⟨f7, r7⟩ := s7.rc
      conv => whnf
      rw [r7]
      refine ⟨_, _, _, L_appI (mR s 0 2) s7 (by omega) (fun h8 k8 s8 => ?_), by decide, by decide, by decide⟩
      have hk8 := hk7.tr k8
      obtain ⟨f8, r8⟩ := s8.rc
      conv => whnf
      rw [r8]
      refine ⟨_, _, _, L_appT2 s8 (by omega) (fun h9 k9 s9 => ?_), by decide, by decide, by decide⟩
      have hk9 := hk8.tr k9
      conv => whnf
      rw [show nth _ (10 + Int32.toNatClampNeg 0) = _ from hm_10 hk9]
      refine ⟨by rw [vp_in_iff]; decide, ?_⟩
      obtain ⟨f9, r9⟩ := s9.rc
      conv => whnf
      rw [r9]
      refine ⟨_, _, _, L_appI (mR s 0 3) s9 (by omega) (fun h10 k10 s10 => ?_), by decide, by decide, by decide⟩
      have hk10 := hk9.tr k10
      obtain ⟨f10, r10⟩ := s10.rc
      conv => whnf
      rw [r10]
      refine ⟨_, _, _, L_toString s10 (Nat.le_refl _) (by omega) (fun h11 q11 k11 s11 => ?_), by decide, by omega, by decide⟩
      have hk11 := hk10.tr k11
      obtain ⟨l9, rfl⟩ := Kp_all hk11
      exact hK.2 l9 q11
    · refine ⟨vp3 hr, fun q9 e9 => ?_, fun e9 => absurd e9 (Option.some_ne_none _)⟩
      obtain rfl := Option.some.inj e9
      have e0 := tl32 (mM s 1)
      have e1 := tl32 (mR s 1 0)
      have e2 := tl32 (mR s 1 1)
      have e3 := tl32 (mR s 1 2)
      have e4 := tl32 (mR s 1 3)
      refine ⟨by decide, ?_⟩
      refine ⟨_, _, _, L_SBnew (p := (hm (sT 0 s) x t).length) (nth_ar (l := [])) (Nat.le_refl _) (fun h1 k1 s1 => ?_), by decide, by decide, by decide⟩
      have hk1 : Kp (hm (sT 0 s) x t).length _ h1 := (Kp.rf (Nat.le_refl (hm (sT 0 s) x t).length)).ap.tr k1
      conv => whnf
      rw [hm_5 hk1]
      conv => whnf
      rw [hm_8 hk1]
      refine ⟨vp3 hr, ?_⟩
      obtain ⟨f1, r1⟩ := s1.rc
      conv => whnf
      rw [r1]
      refine ⟨_, _, _, L_appI (mM s 1) s1 (by omega) (fun h2 k2 s2 => ?_), by decide, by decide, by decide⟩
      have hk2 := hk1.tr k2
      obtain ⟨f2, r2⟩ := s2.rc
      conv => whnf
      rw [r2]
      refine ⟨_, _, _, L_appT1 s2 (by omega) (fun h3 k3 s3 => ?_), by decide, by decide, by decide⟩
      have hk3 := hk2.tr k3
      conv => whnf
      rw [show nth _ (10 + Int32.toNatClampNeg 1) = _ from hm_11 hk3]
      refine ⟨by rw [vp_in_iff]; decide, ?_⟩
      obtain ⟨f3, r3⟩ := s3.rc
      conv => whnf
      rw [r3]
      refine ⟨_, _, _, L_appI (mR s 1 0) s3 (by omega) (fun h4 k4 s4 => ?_), by decide, by decide, by decide⟩
      have hk4 := hk3.tr k4
      obtain ⟨f4, r4⟩ := s4.rc
      conv => whnf
      rw [r4]
      refine ⟨_, _, _, L_appT2 s4 (by omega) (fun h5 k5 s5 => ?_), by decide, by decide, by decide⟩
      have hk5 := hk4.tr k5
      conv => whnf
      rw [show nth _ (10 + Int32.toNatClampNeg 1) = _ from hm_11 hk5]
      refine ⟨by rw [vp_in_iff]; decide, ?_⟩
      obtain ⟨f5, r5⟩ := s5.rc
      conv => whnf
      rw [r5]
      refine ⟨_, _, _, L_appI (mR s 1 1) s5 (by omega) (fun h6 k6 s6 => ?_), by decide, by decide, by decide⟩
      have hk6 := hk5.tr k6
      obtain ⟨f6, r6⟩ := s6.rc
      conv => whnf
      rw [r6]
      refine ⟨_, _, _, L_appT2 s6 (by omega) (fun h7 k7 s7 => ?_), by decide, by decide, by decide⟩
      have hk7 := hk6.tr k7
      conv => whnf
      rw [show nth _ (10 + Int32.toNatClampNeg 1) = _ from hm_11 hk7]
      refine ⟨by rw [vp_in_iff]; decide, ?_⟩
      obtain ⟨f7, r7⟩ := s7.rc
      conv => whnf
      rw [r7]
      refine ⟨_, _, _, L_appI (mR s 1 2) s7 (by omega) (fun h8 k8 s8 => ?_), by decide, by decide, by decide⟩
      have hk8 := hk7.tr k8
      obtain ⟨f8, r8⟩ := s8.rc
      conv => whnf
      rw [r8]
      refine ⟨_, _, _, L_appT2 s8 (by omega) (fun h9 k9 s9 => ?_), by decide, by decide, by decide⟩
      have hk9 := hk8.tr k9
      conv => whnf
      rw [show nth _ (10 + Int32.toNatClampNeg 1) = _ from hm_11 hk9]
      refine ⟨by rw [vp_in_iff]; decide, ?_⟩
      obtain ⟨f9, r9⟩ := s9.rc
      conv => whnf
      rw [r9]
      refine ⟨_, _, _, L_appI (mR s 1 3) s9 (by omega) (fun h10 k10 s10 => ?_), by decide, by decide, by decide⟩
      have hk10 := hk9.tr k10
      obtain ⟨f10, r10⟩ := s10.rc
      conv => whnf
      rw [r10]
      refine ⟨_, _, _, L_toString s10 (Nat.le_refl _) (by omega) (fun h11 q11 k11 s11 => ?_), by decide, by omega, by decide⟩
      have hk11 := hk10.tr k11
      obtain ⟨l9, rfl⟩ := Kp_all hk11
      exact hK.2 l9 q11
    · refine ⟨vp3 hr, fun q9 e9 => ?_, fun e9 => absurd e9 (Option.some_ne_none _)⟩
      obtain rfl := Option.some.inj e9
      have e0 := tl32 (mM s 2)
      have e1 := tl32 (mR s 2 0)
      have e2 := tl32 (mR s 2 1)
      have e3 := tl32 (mR s 2 2)
      have e4 := tl32 (mR s 2 3)
      refine ⟨by decide, ?_⟩
      refine ⟨_, _, _, L_SBnew (p := (hm (sT 0 s) x t).length) (nth_ar (l := [])) (Nat.le_refl _) (fun h1 k1 s1 => ?_), by decide, by decide, by decide⟩
      have hk1 : Kp (hm (sT 0 s) x t).length _ h1 := (Kp.rf (Nat.le_refl (hm (sT 0 s) x t).length)).ap.tr k1
      conv => whnf
      rw [hm_5 hk1]
      conv => whnf
      rw [hm_8 hk1]
      refine ⟨vp3 hr, ?_⟩
      obtain ⟨f1, r1⟩ := s1.rc
      conv => whnf
      rw [r1]
      refine ⟨_, _, _, L_appI (mM s 2) s1 (by omega) (fun h2 k2 s2 => ?_), by decide, by decide, by decide⟩
      have hk2 := hk1.tr k2
      obtain ⟨f2, r2⟩ := s2.rc
      conv => whnf
      rw [r2]
      refine ⟨_, _, _, L_appT1 s2 (by omega) (fun h3 k3 s3 => ?_), by decide, by decide, by decide⟩
      have hk3 := hk2.tr k3
      conv => whnf
      rw [show nth _ (10 + Int32.toNatClampNeg 2) = _ from hm_12 hk3]
      refine ⟨by rw [vp_in_iff]; decide, ?_⟩
      obtain ⟨f3, r3⟩ := s3.rc
      conv => whnf
      rw [r3]
      refine ⟨_, _, _, L_appI (mR s 2 0) s3 (by omega) (fun h4 k4 s4 => ?_), by decide, by decide, by decide⟩
      have hk4 := hk3.tr k4
      obtain ⟨f4, r4⟩ := s4.rc
      conv => whnf
      rw [r4]
      refine ⟨_, _, _, L_appT2 s4 (by omega) (fun h5 k5 s5 => ?_), by decide, by decide, by decide⟩
      have hk5 := hk4.tr k5
      conv => whnf
      rw [show nth _ (10 + Int32.toNatClampNeg 2) = _ from hm_12 hk5]
      refine ⟨by rw [vp_in_iff]; decide, ?_⟩
      obtain ⟨f5, r5⟩ := s5.rc
      conv => whnf
      rw [r5]
      refine ⟨_, _, _, L_appI (mR s 2 1) s5 (by omega) (fun h6 k6 s6 => ?_), by decide, by decide, by decide⟩
      have hk6 := hk5.tr k6
      obtain ⟨f6, r6⟩ := s6.rc
      conv => whnf
      rw [r6]
      refine ⟨_, _, _, L_appT2 s6 (by omega) (fun h7 k7 s7 => ?_), by decide, by decide, by decide⟩
      have hk7 := hk6.tr k7
      conv => whnf
      rw [show nth _ (10 + Int32.toNatClampNeg 2) = _ from hm_12 hk7]
      refine ⟨by rw [vp_in_iff]; decide, ?_⟩
      obtain ⟨f7, r7⟩ := s7.rc
      conv => whnf
      rw [r7]
      refine ⟨_, _, _, L_appI (mR s 2 2) s7 (by omega) (fun h8 k8 s8 => ?_), by decide, by decide, by decide⟩
      have hk8 := hk7.tr k8
      obtain ⟨f8, r8⟩ := s8.rc
      conv => whnf
      rw [r8]
      refine ⟨_, _, _, L_appT2 s8 (by omega) (fun h9 k9 s9 => ?_), by decide, by decide, by decide⟩
      have hk9 := hk8.tr k9
      conv => whnf
      rw [show nth _ (10 + Int32.toNatClampNeg 2) = _ from hm_12 hk9]
      refine ⟨by rw [vp_in_iff]; decide, ?_⟩
      obtain ⟨f9, r9⟩ := s9.rc
      conv => whnf
      rw [r9]
      refine ⟨_, _, _, L_appI (mR s 2 3) s9 (by omega) (fun h10 k10 s10 => ?_), by decide, by decide, by decide⟩
      have hk10 := hk9.tr k10
      obtain ⟨f10, r10⟩ := s10.rc
      conv => whnf
      rw [r10]
      refine ⟨_, _, _, L_toString s10 (Nat.le_refl _) (by omega) (fun h11 q11 k11 s11 => ?_), by decide, by omega, by decide⟩
      have hk11 := hk10.tr k11
      obtain ⟨l9, rfl⟩ := Kp_all hk11
      exact hK.2 l9 q11
  · rw [if_neg a1] at hK
    refine ⟨_, _, _, L_start1 ?_, by decide, by decide, by decide⟩
    refine ⟨fun e => absurd e (by decide), fun _ => ?_⟩
    exact hK.1
theorem M_ofNow0 (l k w : Int32) (hk : ok4 k) (hw : n4 w) (hK : K (.inl (some (.int (mOf l k w s)))) (hm s x t)) : M P n_M_ofNow [.ref 5, .int l, .int k, .int w] (hm s x t) 0 0 8 K := by
  refine Mgo ok_M_ofNow 80 rfl ?_
  unfold mOf mLeast at hK
  refine ⟨_, _, _, L_now _ _ hk ?_, by decide, by decide, by decide⟩
  refine ⟨fun ql => ?_, fun ql => ?_⟩
  · rw [if_pos (c := l = 0) ql] at hK
    refine ⟨fun q0 => ?_, fun q0 => ?_⟩
    · rw [if_pos q0] at hK
      refine ⟨_, _, _, L_sign _ ?_, by decide, by decide, by decide⟩
      exact hK
    · rw [if_neg q0] at hK
      refine ⟨fun q1 => ?_, fun q1 => ?_⟩
      · rw [if_pos q1] at hK
        exact hK
      · rw [if_neg q1] at hK
        refine ⟨fun q2 => ?_, fun q2 => ?_⟩
        · rw [if_pos q2] at hK
          exact hK
        · rw [if_neg q2] at hK
          refine ⟨fun q3 => ?_, fun q3 => ?_⟩
          · rw [if_pos q3] at hK
            refine ⟨fun q4 => ?_, fun q4 => ?_⟩
            · rw [if_pos q4] at hK
              exact hK
            · rw [if_neg q4] at hK
              refine ⟨fun q5 => ?_, fun q5 => ?_⟩
              · rw [if_pos q5] at hK
                exact hK
              · rw [if_neg q5] at hK
                exact hK
          · exact ((c4 (n4_ok hw)).elim q0 (fun e => e.elim q1 (fun e => e.elim q2 q3))).elim
  · rw [if_neg (c := l = 0) ql] at hK
    refine ⟨fun q0 => ?_, fun q0 => ?_⟩
    · rw [if_pos q0] at hK
      refine ⟨_, _, _, L_sign _ ?_, by decide, by decide, by decide⟩
      exact hK
    · rw [if_neg q0] at hK
      refine ⟨fun q1 => ?_, fun q1 => ?_⟩
      · rw [if_pos q1] at hK
        exact hK
      · rw [if_neg q1] at hK
        refine ⟨fun q2 => ?_, fun q2 => ?_⟩
        · rw [if_pos q2] at hK
          exact hK
        · rw [if_neg q2] at hK
          refine ⟨fun q3 => ?_, fun q3 => ?_⟩
          · rw [if_pos q3] at hK
            refine ⟨fun q4 => ?_, fun q4 => ?_⟩
            · rw [if_pos q4] at hK
              exact hK
            · rw [if_neg q4] at hK
              refine ⟨fun q5 => ?_, fun q5 => ?_⟩
              · rw [if_pos q5] at hK
                exact hK
              · rw [if_neg q5] at hK
                exact hK
          · exact ((c4 (n4_ok hw)).elim q0 (fun e => e.elim q1 (fun e => e.elim q2 q3))).elim
theorem M_ofNow4 (l k : Int32) (hk : ok4 k) (hK : ∀ t', K (.inl (some (.int (mOf l k 4 s)))) (hm s x (t ++ t'))) : M P n_M_ofNow [.ref 5, .int l, .int k, .int 4] (hm s x t) 6 500 16 K := by
  refine Mgo ok_M_ofNow 80 rfl ?_
  have e1 := tl64 (mNow l k s)
  have hO : mOf l k 4 s = Int32.ofNat (0 + 0 + tl (mNow l k s).toInt) := by
    unfold mOf
    rw [if_neg (by decide), if_neg (by decide), if_neg (by decide), if_neg (by decide), Nat.zero_add]
  rw [hO] at hK
  refine ⟨_, _, _, L_now _ _ hk ?_, by decide, by decide, by decide⟩
  refine ⟨fun ql => ?_, fun ql => ?_⟩
  · refine ⟨fun e => absurd e (by decide), fun _ => ?_⟩
    refine ⟨fun e => absurd e (by decide), fun _ => ?_⟩
    refine ⟨fun e => absurd e (by decide), fun _ => ?_⟩
    refine ⟨fun e => absurd e (by decide), fun _ => ?_⟩
    refine ⟨by decide, ?_⟩
    refine ⟨_, _, _, L_SBnew (p := (hm s x t).length) (nth_ar (l := [])) (Nat.le_refl _) (fun h1 k1 s1 => ?_), by decide, by decide, by decide⟩
    have hk1 : Kp (hm s x t).length _ h1 := (Kp.rf (Nat.le_refl (hm s x t).length)).ap.tr k1
    obtain ⟨f1, r1⟩ := s1.rc
    conv => whnf
    rw [r1]
    refine ⟨_, _, _, L_appT0 s1 (by omega) (fun h2 k2 s2 => ?_), by decide, by decide, by decide⟩
    have hk2 := hk1.tr k2
    obtain ⟨f2, r2⟩ := s2.rc
    conv => whnf
    rw [r2]
    refine ⟨_, _, _, L_appJ _ s2 (by omega) (fun h3 k3 s3 => ?_), by decide, by decide, by decide⟩
    have hk3 := hk2.tr k3
    obtain ⟨f3, r3⟩ := s3.rc
    conv => whnf
    rw [r3]
    refine ⟨_, _, _, L_toString s3 (Nat.le_refl _) (by omega) (fun h4 q4 k4 s4 => ?_), by decide, by omega, by decide⟩
    have hk4 := hk3.tr k4
    obtain ⟨-, w4, g4, r4, -⟩ := id s4
    conv => whnf
    rw [r4]
    refine ⟨_, _, _, L_slenS s4 ?_, Nat.zero_le _, Nat.zero_le _, by decide⟩
    obtain ⟨l9, rfl⟩ := Kp_all hk4
    exact hK l9
  · refine ⟨fun e => absurd e (by decide), fun _ => ?_⟩
    refine ⟨fun e => absurd e (by decide), fun _ => ?_⟩
    refine ⟨fun e => absurd e (by decide), fun _ => ?_⟩
    refine ⟨fun e => absurd e (by decide), fun _ => ?_⟩
    refine ⟨by decide, ?_⟩
    refine ⟨_, _, _, L_SBnew (p := (hm s x t).length) (nth_ar (l := [])) (Nat.le_refl _) (fun h1 k1 s1 => ?_), by decide, by decide, by decide⟩
    have hk1 : Kp (hm s x t).length _ h1 := (Kp.rf (Nat.le_refl (hm s x t).length)).ap.tr k1
    obtain ⟨f1, r1⟩ := s1.rc
    conv => whnf
    rw [r1]
    refine ⟨_, _, _, L_appT0 s1 (by omega) (fun h2 k2 s2 => ?_), by decide, by decide, by decide⟩
    have hk2 := hk1.tr k2
    obtain ⟨f2, r2⟩ := s2.rc
    conv => whnf
    rw [r2]
    refine ⟨_, _, _, L_appJ _ s2 (by omega) (fun h3 k3 s3 => ?_), by decide, by decide, by decide⟩
    have hk3 := hk2.tr k3
    obtain ⟨f3, r3⟩ := s3.rc
    conv => whnf
    rw [r3]
    refine ⟨_, _, _, L_toString s3 (Nat.le_refl _) (by omega) (fun h4 q4 k4 s4 => ?_), by decide, by omega, by decide⟩
    have hk4 := hk3.tr k4
    obtain ⟨-, w4, g4, r4, -⟩ := id s4
    conv => whnf
    rw [r4]
    refine ⟨_, _, _, L_slenS s4 ?_, Nat.zero_le _, Nat.zero_le _, by decide⟩
    obtain ⟨l9, rfl⟩ := Kp_all hk4
    exact hK l9
theorem M_ofNumber (l k w : Int32) (hK : ∀ t', anM K x (t ++ t') (m_ofNumber l k w s)) : M P n_M_ofNumber [.ref 5, .int l, .int k, .int w] (hm s x t) 40 3000 17 K := by
  refine Mgo ok_M_ofNumber 80 rfl ?_
  have hG := fun t' => an_gd (hK t')
  have h0 : ∀ o, anM K x (t ++ []) o → anM K x t o := fun o h => by
    rw [List.append_nil] at h
    exact h
  refine ⟨_, _, _, L_isNo _ (fun a1 => ?_) (fun a1 => ?_), by decide, by decide, by decide⟩
  · have hR := fun t' => an_rf ((hG t').1 a1)
    refine ⟨_, _, _, L_start0 ?_, by decide, by decide, by decide⟩
    refine ⟨fun _ => ?_, fun e => absurd rfl e⟩
    refine ⟨fun w1 => ?_, fun w1 => ?_⟩
    · have hK := h0 _ ((hR []).2 (fun e => e.1 w1))
      refine ⟨_, _, _, L_mrefuse1 2 rfl (by decide) ?_, by decide, by decide, by decide⟩
      refine ⟨fun e => absurd e (by decide), fun _ => ?_⟩
      exact hK
    · refine ⟨fun w2 => ?_, fun w2 => ?_⟩
      · have hK := h0 _ ((hR []).2 (fun e => e.2 w2))
        refine ⟨_, _, _, L_mrefuse1 2 rfl (by decide) ?_, by decide, by decide, by decide⟩
        refine ⟨fun e => absurd e (by decide), fun _ => ?_⟩
        exact hK
      · have hK := fun t' => (hR t').1 ⟨w1, w2⟩
        refine ⟨_, _, _, L_mrefuse0 2 rfl ?_, by decide, by decide, by decide⟩
        refine ⟨fun _ => ?_, fun e => absurd rfl e⟩
        by_cases h4 : w = 4
        · subst h4
          exact ⟨_, _, _, M_ofNow4 _ _ (n4_ok a1) (fun t' => hK t'), by decide, by decide, by decide⟩
        · have hw : n4 w := ⟨w1, fun e => h4 (by
            have i3 : (3 : Int32).toInt = 3 := by decide
            have i4 : (4 : Int32).toInt = 4 := by decide
            rw [Int32.lt_iff_toInt_lt] at e w2
            exact Int32.toInt_inj.mp (by omega))⟩
          exact ⟨_, _, _, M_ofNow0 _ _ _ (n4_ok a1) hw (h0 _ (hK [])), by decide, by decide, by decide⟩
  · have hK := h0 _ ((hG []).2 a1)
    refine ⟨_, _, _, L_start1 ?_, by decide, by decide, by decide⟩
    refine ⟨fun e => absurd e (by decide), fun _ => ?_⟩
    exact hK
end MDT
end
section
/-! THE MODEL: its digest -/
theorem G_mono {P : GP} {a : Nat} {K : Kt} {d pc : Nat} {L : mLs} {st : List Value} {h : mH} {cb sb cb' sb' : Nat} (q : G P a K d pc L st h cb sb) (h1 : cb ≤ cb') (h2 : sb ≤ sb') : G P a K d pc L st h cb' sb' := by
  intro p e R s m args below meth c H locs cells slots ls F Y V
  exact q p e R s m args below meth c H locs cells slots ls F ⟨Nat.le_trans (Nat.add_le_add_left h1 _) Y.1, Nat.le_trans (Nat.add_le_add_left h2 _) Y.2.1, Y.2.2⟩ V
theorem t4 {i : Int32} {n : Nat} (h : i.toInt + n = 4) (h0 : 0 ≤ i.toInt) (hn : 1 ≤ n) : ok4 i := by
  have e4 : (4 : Int32).toInt = 4 := by decide
  have e0 : (0 : Int32).toInt = 0 := by decide
  refine ⟨fun e => ?_, ?_⟩
  · rw [Int32.lt_iff_toInt_lt] at e
    omega
  · rw [Int32.lt_iff_toInt_lt]
    omega
theorem t3 {i : Int32} {n : Nat} (h : i.toInt + n = 3) (h0 : 0 ≤ i.toInt) (hn : 1 ≤ n) : ok3 i := by
  have e4 : (3 : Int32).toInt = 3 := by decide
  have e0 : (0 : Int32).toInt = 0 := by decide
  refine ⟨fun e => ?_, ?_⟩
  · rw [Int32.lt_iff_toInt_lt] at e
    omega
  · rw [Int32.lt_iff_toInt_lt]
    omega
theorem tw {w : Int32} {n : Nat} (h0 : 0 ≤ w.toInt) (h : w.toInt + ((n + 1 : Nat) : Int) = 4) : n4 w ∧ w < 5 ∧ 0 ≤ (w + 1).toInt ∧ (w + 1).toInt + (n : Int) = 4 := by
  have e0 : (0 : Int32).toInt = 0 := by decide
  have e3 : (3 : Int32).toInt = 3 := by decide
  have e5 : (5 : Int32).toInt = 5 := by decide
  have e1 : (w + 1).toInt = w.toInt + 1 := by
    rw [Int32.toInt_add, i1]
    exact Int.bmod_eq_of_le (by omega) (by omega)
  refine ⟨⟨fun e => ?_, fun e => ?_⟩, ?_, by omega, by omega⟩
  · rw [Int32.lt_iff_toInt_lt] at e
    omega
  · rw [Int32.lt_iff_toInt_lt] at e
    omega
  · rw [Int32.lt_iff_toInt_lt]
    omega
theorem tw4 {w : Int32} (h : w.toInt + ((0 : Nat) : Int) = 4) : w = 4 := by
  have e4 : (4 : Int32).toInt = 4 := by decide
  refine Int32.toInt_inj.mp ?_
  omega
theorem ts {i : Int32} {n m : Nat} (h0 : 0 ≤ i.toInt) (h : i.toInt + ((n + 1 : Nat) : Int) = m) (hm : m < 100) : 0 ≤ (i + 1).toInt ∧ (i + 1).toInt + (n : Int) = m := by
  have e1 : (i + 1).toInt = i.toInt + 1 := by
    rw [Int32.toInt_add, i1]
    exact Int.bmod_eq_of_le (by omega) (by omega)
  omega
theorem tl0 {i c : Int32} {m : Nat} (h : i.toInt + ((0 : Nat) : Int) = m) (hc : c.toInt = m) : ¬ i < c := by
  rw [Int32.lt_iff_toInt_lt]
  omega
theorem tl1 {i c : Int32} {n m : Nat} (h : i.toInt + ((n + 1 : Nat) : Int) = m) (hc : c.toInt = m) : i < c := by
  rw [Int32.lt_iff_toInt_lt]
  omega
theorem bg1 {c0 n cb a : Nat} (h : c0 + a * (n + 1) ≤ cb) : (c0 + a * n) + a ≤ cb ∧ c0 ≤ cb := by
  rw [Nat.mul_succ] at h
  omega
theorem bg0 {c0 cb a : Nat} (h : c0 + a * 0 ≤ cb) : c0 ≤ cb := by omega
def mdH (s : MS) : Nat → Int32 → Int64 → Int64
  | 0, _, d => d
  | n + 1, i, d => mdH s n (i + 1) (d * 31 + (mHs i s).toInt64)
termination_by n => n
def mdW (l k : Int32) (s : MS) : Nat → Int32 → Int64 → Int64
  | 0, _, d => d
  | n + 1, w, d => mdW l k s n (w + 1) (d * 31 + (mOf l k w s).toInt64)
termination_by n => n
def mdK (l : Int32) (s : MS) : Nat → Int32 → Int64 → Int64
  | 0, _, d => d
  | n + 1, k, d => mdK l s n (k + 1) (mdW l k s 5 0 d)
termination_by n => n
def mdL (s : MS) : Nat → Int32 → Int64 → Int64
  | 0, _, d => d
  | n + 1, q, d => mdL s n (q + 1) (mdK (if q = 1 then 1 else 0) s 4 0 d)
termination_by n => n
def mdS (r : Int32) (s : MS) : Nat → Int32 → Int64 → Int64
  | 0, _, d => d
  | n + 1, i, d => mdS r s n (i + 1) (d * 31 + (mRes r i s).toInt64)
termination_by n => n
def mdR (s : MS) : Nat → Int32 → Int64 → Int64
  | 0, _, d => d
  | n + 1, r, d => mdR s n (r + 1) (mdS r s 4 0 (d * 31 + (mMod r s).toInt64))
termination_by n => n
def m_digest (s : MS) : Int64 := mdR s 3 0 (mdL s 2 0 (mdH s 4 0 7837)) * 31 + 1
section MDG
variable {P : GP} {K : Kt} {s : MS} {x : XS}
theorem l_mdH {t : mH} {cb sb : Nat} : ∀ (n : Nat) (i : Int32) (d : Int64), 0 ≤ i.toInt → i.toInt + (n : Int) = (4 : Nat) → G P n_M_digest K 17 37 [some (.ref 5), some (.long (mdH s n i d)), none, some (.int 0), none, none] [] (hm s x t) cb sb →
    G P n_M_digest K 17 11 [some (.ref 5), some (.long d), none, some (.int i), none, none] [] (hm s x t) cb sb
  | 0, i, d, h0, h4, hK => by
    rw [mdH] at hK
    refine go ok_M_digest 80 ?_
    refine ⟨fun q => absurd q (tl0 h4 (by decide)), fun _ => ?_⟩
    exact hK
  | n + 1, i, d, h0, h4, hK => by
    rw [mdH] at hK
    have e := ts h0 h4 (by decide)
    refine go ok_M_digest 80 ?_
    refine ⟨fun _ => ?_, fun q => absurd (tl1 h4 (by decide)) q⟩
    refine ⟨_, _, _, M_houseNow i ?_, Nat.zero_le _, Nat.zero_le _, by decide⟩
    exact l_mdH n (i + 1) _ e.1 e.2 hK
theorem l_mdW {q k : Int32} (hk : ok4 k) {c0 s0 : Nat} : ∀ (n : Nat) (w : Int32) (d : Int64) (t : mH) (cb sb : Nat), 0 ≤ w.toInt → w.toInt + (n : Int) = 4 → c0 + 6 ≤ cb → s0 + 500 ≤ sb →
    (∀ t', G P n_M_digest K 17 45 [some (.ref 5), some (.long (mdW (if q = 1 then 1 else 0) k s (n + 1) w d)), none, some (.int q), some (.int (k + 1)), none] [] (hm s x (t ++ t')) c0 s0) →
    G P n_M_digest K 17 54 [some (.ref 5), some (.long d), none, some (.int q), some (.int k), some (.int w)] [] (hm s x t) cb sb
  | 0, w, d, t, cb, sb, h0, h4, hcb, hsb, hK => by
    have hw := tw4 h4
    subst hw
    have b1 : 6 ≤ cb := Nat.le_trans (Nat.le_add_left _ _) hcb
    have b2 : 500 ≤ sb := Nat.le_trans (Nat.le_add_left _ _) hsb
    have b3 : c0 ≤ cb - 6 := Nat.le_sub_of_add_le hcb
    have b4 : s0 ≤ sb - 500 := Nat.le_sub_of_add_le hsb
    rw [mdW, mdW] at hK
    refine go ok_M_digest 80 ?_
    refine ⟨fun _ => ?_, fun q9 => absurd (by decide) q9⟩
    refine ⟨fun q1 => ?_, fun q1 => ?_⟩
    · rw [if_pos q1] at hK
      refine ⟨_, _, _, M_ofNow4 _ _ hk (fun t' => ?_), b1, b2, by decide⟩
      refine go ok_M_digest 80 ?_
      refine ⟨fun q9 => absurd q9 (by decide), fun _ => ?_⟩
      refine G_wk ?_ (G_mono (hK t') b3 b4)
      exact ⟨rfl, rfl, rfl, rfl, trivial⟩
    · rw [if_neg q1] at hK
      refine ⟨_, _, _, M_ofNow4 _ _ hk (fun t' => ?_), b1, b2, by decide⟩
      refine go ok_M_digest 80 ?_
      refine ⟨fun q9 => absurd q9 (by decide), fun _ => ?_⟩
      refine G_wk ?_ (G_mono (hK t') b3 b4)
      exact ⟨rfl, rfl, rfl, rfl, trivial⟩
  | n + 1, w, d, t, cb, sb, h0, h4, hcb, hsb, hK => by
    have e := tw h0 h4
    rw [mdW] at hK
    refine go ok_M_digest 80 ?_
    refine ⟨fun _ => ?_, fun q9 => absurd e.2.1 q9⟩
    refine ⟨fun q1 => ?_, fun q1 => ?_⟩
    · refine ⟨_, _, _, M_ofNow0 _ _ _ hk e.1 ?_, Nat.zero_le _, Nat.zero_le _, by decide⟩
      refine l_mdW hk n (w + 1) _ t cb sb e.2.2.1 e.2.2.2 hcb hsb ?_
      rw [if_pos q1] at hK ⊢
      exact hK
    · refine ⟨_, _, _, M_ofNow0 _ _ _ hk e.1 ?_, Nat.zero_le _, Nat.zero_le _, by decide⟩
      refine l_mdW hk n (w + 1) _ t cb sb e.2.2.1 e.2.2.2 hcb hsb ?_
      rw [if_neg q1] at hK ⊢
      exact hK
theorem l_mdK {q : Int32} {c0 s0 : Nat} : ∀ (n : Nat) (k : Int32) (d : Int64) (t : mH) (cb sb : Nat), 0 ≤ k.toInt → k.toInt + (n : Int) = (4 : Nat) → c0 + 6 * n ≤ cb → s0 + 500 * n ≤ sb →
    (∀ t', G P n_M_digest K 17 37 [some (.ref 5), some (.long (mdK (if q = 1 then 1 else 0) s n k d)), none, some (.int (q + 1)), none, none] [] (hm s x (t ++ t')) c0 s0) →
    G P n_M_digest K 17 45 [some (.ref 5), some (.long d), none, some (.int q), some (.int k), none] [] (hm s x t) cb sb
  | 0, k, d, t, cb, sb, h0, h4, hcb, hsb, hK => by
    have hK := hK []
    rw [mdK, List.append_nil] at hK
    refine go ok_M_digest 80 ?_
    refine ⟨fun q => absurd q (tl0 h4 (by decide)), fun _ => ?_⟩
    refine G_wk ?_ (G_mono hK (bg0 hcb) (bg0 hsb))
    exact ⟨rfl, rfl, rfl, trivial⟩
  | n + 1, k, d, t, cb, sb, h0, h4, hcb, hsb, hK => by
    have e := ts h0 h4 (by decide)
    have hk := t4 h4 h0 (Nat.succ_pos _)
    have b1 := bg1 hcb
    have b2 := bg1 hsb
    refine go ok_M_digest 80 ?_
    refine ⟨fun _ => ?_, fun q => absurd (tl1 h4 (by decide)) q⟩
    refine l_mdW hk 4 0 d t cb sb (by decide) (by decide) b1.1 b2.1 (fun t' => ?_)
    refine l_mdK n (k + 1) _ (t ++ t') _ _ e.1 e.2 (Nat.le_refl _) (Nat.le_refl _) (fun t2 => ?_)
    have := hK (t' ++ t2)
    rw [mdK, ← List.append_assoc] at this
    exact this
theorem l_mdL {c0 s0 : Nat} : ∀ (n : Nat) (q : Int32) (d : Int64) (t : mH) (cb sb : Nat), 0 ≤ q.toInt → q.toInt + (n : Int) = (2 : Nat) → c0 + 24 * n ≤ cb → s0 + 2000 * n ≤ sb →
    (∀ t', G P n_M_digest K 17 106 [some (.ref 5), some (.long (mdL s n q d)), none, some (.int 0), none, none] [] (hm s x (t ++ t')) c0 s0) →
    G P n_M_digest K 17 37 [some (.ref 5), some (.long d), none, some (.int q), none, none] [] (hm s x t) cb sb
  | 0, q, d, t, cb, sb, h0, h4, hcb, hsb, hK => by
    have hK := hK []
    rw [mdL, List.append_nil] at hK
    refine go ok_M_digest 80 ?_
    refine ⟨fun q => absurd q (tl0 h4 (by decide)), fun _ => ?_⟩
    exact G_mono hK (bg0 hcb) (bg0 hsb)
  | n + 1, q, d, t, cb, sb, h0, h4, hcb, hsb, hK => by
    have e := ts h0 h4 (by decide)
    have b1 := bg1 hcb
    have b2 := bg1 hsb
    refine go ok_M_digest 80 ?_
    refine ⟨fun _ => ?_, fun q => absurd (tl1 h4 (by decide)) q⟩
    refine l_mdK 4 0 d t cb sb (by decide) (by decide) b1.1 b2.1 (fun t' => ?_)
    refine l_mdL n (q + 1) _ (t ++ t') _ _ e.1 e.2 (Nat.le_refl _) (Nat.le_refl _) (fun t2 => ?_)
    have := hK (t' ++ t2)
    rw [mdL, ← List.append_assoc] at this
    exact this
theorem l_mdS {r : Int32} (hr : ok3 r) {t : mH} {cb sb : Nat} : ∀ (n : Nat) (i : Int32) (d : Int64), 0 ≤ i.toInt → i.toInt + (n : Int) = (4 : Nat) → G P n_M_digest K 17 106 [some (.ref 5), some (.long (mdS r s n i d)), none, some (.int (r + 1)), none, none] [] (hm s x t) cb sb →
    G P n_M_digest K 17 128 [some (.ref 5), some (.long d), none, some (.int r), some (.int i), none] [] (hm s x t) cb sb
  | 0, i, d, h0, h4, hK => by
    rw [mdS] at hK
    refine go ok_M_digest 80 ?_
    refine ⟨fun q => absurd q (tl0 h4 (by decide)), fun _ => ?_⟩
    refine G_wk ?_ hK
    exact ⟨rfl, rfl, rfl, trivial⟩
  | n + 1, i, d, h0, h4, hK => by
    rw [mdS] at hK
    have e := ts h0 h4 (by decide)
    have hi := t4 h4 h0 (Nat.succ_pos _)
    refine go ok_M_digest 80 ?_
    refine ⟨fun _ => ?_, fun q => absurd (tl1 h4 (by decide)) q⟩
    rcases c3 hr with rfl | rfl | rfl
    · refine ⟨vp3 hr, fun q9 e9 => ?_, fun e9 => absurd e9 (Option.some_ne_none _)⟩
      obtain rfl := Option.some.inj e9
      refine ⟨vp4 hi, ?_⟩
      exact l_mdS hr n (i + 1) _ e.1 e.2 hK
    · refine ⟨vp3 hr, fun q9 e9 => ?_, fun e9 => absurd e9 (Option.some_ne_none _)⟩
      obtain rfl := Option.some.inj e9
      refine ⟨vp4 hi, ?_⟩
      exact l_mdS hr n (i + 1) _ e.1 e.2 hK
    · refine ⟨vp3 hr, fun q9 e9 => ?_, fun e9 => absurd e9 (Option.some_ne_none _)⟩
      obtain rfl := Option.some.inj e9
      refine ⟨vp4 hi, ?_⟩
      exact l_mdS hr n (i + 1) _ e.1 e.2 hK
theorem l_mdR {t : mH} {cb sb : Nat} : ∀ (n : Nat) (r : Int32) (d : Int64), 0 ≤ r.toInt → r.toInt + (n : Int) = (3 : Nat) → K (.inl (some (.long (mdR s n r d * 31 + 1)))) (hm s x t) →
    G P n_M_digest K 17 106 [some (.ref 5), some (.long d), none, some (.int r), none, none] [] (hm s x t) cb sb
  | 0, r, d, h0, h4, hK => by
    rw [mdR] at hK
    refine go ok_M_digest 80 ?_
    refine ⟨fun q => absurd q (tl0 h4 (by decide)), fun _ => ?_⟩
    exact hK
  | n + 1, r, d, h0, h4, hK => by
    rw [mdR] at hK
    have e := ts h0 h4 (by decide)
    have hr := t3 h4 h0 (Nat.succ_pos _)
    refine go ok_M_digest 80 ?_
    refine ⟨fun _ => ?_, fun q => absurd (tl1 h4 (by decide)) q⟩
    refine ⟨vp3 hr, ?_⟩
    exact l_mdS hr 4 0 _ (by decide) (by decide) (l_mdR n (r + 1) _ e.1 e.2 hK)
theorem M_digest {t : mH} (hK : ∀ t', K (.inl (some (.long (m_digest (sT 0 s))))) (hm (sT 0 s) x (t ++ t'))) : M P n_M_digest [.ref 5] (hm s x t) 50 5000 17 K := by
  refine Mgo ok_M_digest 80 rfl ?_
  refine l_mdH (s := sT 0 s) 4 0 7837 (by decide) (by decide) ?_
  refine l_mdL (c0 := 2) (s0 := 1000) 2 0 _ t 50 5000 (by decide) (by decide) (by decide) (by decide) (fun t' => ?_)
  exact l_mdR 3 0 _ (by decide) (by decide) (hK t')
end MDG
end
section
/-! THE LAW: its own methods, which call the class and catch what it throws -/
def OE (p : Nat → Prop) (o : Out) : Prop := ∀ e, o.1 = .inr e → p e
theorem OE_nd {p : Nat → Prop} {c : Prop} [Decidable c] {E : Nat} {s : XS} {r : Out} (h : p E) (hr : OE p r) : OE p (nd c E s r) := fun e he => by
  unfold nd at he
  by_cases q : c
  · rw [if_pos q] at he
    exact hr e he
  · rw [if_neg q] at he
    cases he
    exact h
theorem OE_inl {p : Nat → Prop} {v : Int32} {s : XS} : OE p (.inl v, s) := fun _ h => by cases h
theorem OE_ite {p : Nat → Prop} {c : Prop} [Decidable c] {a b : Out} (ha : OE p a) (hb : OE p b) : OE p (if c then a else b) := by
  by_cases q : c
  · rw [if_pos q]
    exact ha
  · rw [if_neg q]
    exact hb
theorem OE_refuse {p : Nat → Prop} {s : XS} : OE p (xRefuse s) := OE_inl
theorem OE_keep {p : Nat → Prop} (h : p 0) {l k : Int32} {v : Int64} {s : XS} : OE p (xKeep l k v s) := OE_nd h OE_inl
theorem OE_keepR {p : Nat → Prop} (h : p 0) {l k : Int32} {v : Int64} {s : XS} : OE p (xKeepR l k v s) := OE_keep h
theorem OE_keepE {p : Nat → Prop} (h : p 0) {l k w : Int32} {a b : Int64} {s : XS} : OE p (xKeepE l k a b w s) := OE_ite OE_refuse (OE_keep h)
theorem OE_keepF {p : Nat → Prop} (h : p 0) {l k r : Int32} {d : Int64} {s : XS} : OE p (xKeepF l k d r s) := OE_nd h (OE_ite OE_refuse (OE_keepR h))
theorem OE_keepM {p : Nat → Prop} (h : p 0) {r k : Int32} {v : Int64} {s : XS} : OE p (xKeepM r k v s) := OE_nd h (OE_nd h OE_inl)
def p0 (e : Nat) : Prop := e = 0
def p1 (e : Nat) : Prop := e = 1
def p2 (e : Nat) : Prop := e = 0 ∨ e = 1
theorem p0_0 : p0 0 := rfl
theorem p1_1 : p1 1 := rfl
theorem p2_0 : p2 0 := Or.inl rfl
theorem p2_1 : p2 1 := Or.inr rfl
def oc (n : Int64) (w : Value) : va_E := .inr (3, [.long n, w])
def cd2 (E : Nat) : Int32 := match E with | 0 => 1 | _ => 2
def cdH (_ : Nat) : Int32 := 1
def bz (v : Int32) : Int64 := if v = 0 then 0 else 1
def ansK (K : Kt) (s : MS) (n : Int64) (w : Value) (t : mH) (cd : Nat → Int32) (o : Out) : Prop := match o.1 with
  | .inl v => K (.inl (some (.int 0))) (hm s o.2 (oc v.toInt64 w :: t))
  | .inr E => ∀ j, K (.inl (some (.int (cd E)))) (hm s o.2 (oc n w :: (t ++ jk j)))
def ansB (K : Kt) (s : MS) (n : Int64) (w : Value) (t : mH) (cd : Nat → Int32) (o : Out) : Prop := match o.1 with
  | .inl v => K (.inl (some (.int 0))) (hm s o.2 (oc (bz v) w :: t))
  | .inr E => ∀ j, K (.inl (some (.int (cd E)))) (hm s o.2 (oc n w :: (t ++ jk j)))
def ansS (K : Kt) (s : MS) (n : Int64) (w : Value) (t : mH) (cd : Nat → Int32) (o : Out) : Prop := match o.1 with
  | .inl _ => ∀ l r, K (.inl (some (.int 0))) (hm s o.2 (oc n (.ref r) :: (t ++ l)))
  | .inr E => ∀ l, K (.inl (some (.int (cd E)))) (hm s o.2 (oc n w :: (t ++ l)))
section LAWK
variable {P : GP} {K : Kt} {s : MS} {x : XS} {n : Int64} {w : Value} {t : mH}
theorem e_put (l k hi lo : Int32) (x : XS) : OE p0 (xPut l k hi lo x) := by
  unfold xPut
  repeat' first | with_reducible exact OE_inl | with_reducible exact OE_refuse | with_reducible refine OE_ite ?_ ?_ | with_reducible exact OE_keep p0_0 | with_reducible exact OE_keepR p0_0 | with_reducible exact OE_keepE p0_0 | with_reducible exact OE_keepF p0_0 | with_reducible exact OE_keepM p0_0 | with_reducible refine OE_nd p0_0 ?_
theorem K_put (l k hi lo : Int32) (hK : ansK K s n w t cd2 (xPut l k hi lo x)) : M P n_K_put [.ref 0, .int l, .int k, .int hi, .int lo, .ref 13] (hm s x (oc n w :: t)) 12 70 20 K := by
  refine Mgo ok_K_put 60 rfl ?_
  refine ⟨_, _, _, L_put _ _ _ _ ?_, by decide, by decide, by decide⟩
  have hE := e_put l k hi lo x
  revert hK hE
  generalize xPut l k hi lo x = o
  intro hK hE
  obtain ⟨o, y⟩ := o
  cases o with
  | inl v =>
    have hK : K (.inl (some (.int 0))) (hm s y (oc v.toInt64 w :: t)) := hK
    exact hK
  | inr E =>
    obtain rfl : E = 0 := hE E rfl
    intro j
    have hK : K (.inl (some (.int 1))) (hm s y (oc n w :: (t ++ jk j))) := hK j
    exact hK
theorem e_copy (l k f : Int32) (x : XS) : OE p0 (xCopy l k f x) := by
  unfold xCopy
  repeat' first | with_reducible exact OE_inl | with_reducible exact OE_refuse | with_reducible refine OE_ite ?_ ?_ | with_reducible exact OE_keep p0_0 | with_reducible exact OE_keepR p0_0 | with_reducible exact OE_keepE p0_0 | with_reducible exact OE_keepF p0_0 | with_reducible exact OE_keepM p0_0 | with_reducible refine OE_nd p0_0 ?_
theorem K_copy (l k f : Int32) (hK : ansK K s n w t cd2 (xCopy l k f x)) : M P n_K_copy [.ref 0, .int l, .int k, .int f, .ref 13] (hm s x (oc n w :: t)) 12 70 20 K := by
  refine Mgo ok_K_copy 60 rfl ?_
  refine ⟨_, _, _, L_copy _ _ _ ?_, by decide, by decide, by decide⟩
  have hE := e_copy l k f x
  revert hK hE
  generalize xCopy l k f x = o
  intro hK hE
  obtain ⟨o, y⟩ := o
  cases o with
  | inl v =>
    have hK : K (.inl (some (.int 0))) (hm s y (oc v.toInt64 w :: t)) := hK
    exact hK
  | inr E =>
    obtain rfl : E = 0 := hE E rfl
    intro j
    have hK : K (.inl (some (.int 1))) (hm s y (oc n w :: (t ++ jk j))) := hK j
    exact hK
theorem e_widen (k f : Int32) (x : XS) : OE p0 (xWiden k f x) := by
  unfold xWiden
  repeat' first | with_reducible exact OE_inl | with_reducible exact OE_refuse | with_reducible refine OE_ite ?_ ?_ | with_reducible exact OE_keep p0_0 | with_reducible exact OE_keepR p0_0 | with_reducible exact OE_keepE p0_0 | with_reducible exact OE_keepF p0_0 | with_reducible exact OE_keepM p0_0 | with_reducible refine OE_nd p0_0 ?_
theorem K_widen (k f : Int32) (hK : ansK K s n w t cd2 (xWiden k f x)) : M P n_K_widen [.ref 0, .int k, .int f, .ref 13] (hm s x (oc n w :: t)) 12 70 20 K := by
  refine Mgo ok_K_widen 60 rfl ?_
  refine ⟨_, _, _, L_widen _ _ ?_, by decide, by decide, by decide⟩
  have hE := e_widen k f x
  revert hK hE
  generalize xWiden k f x = o
  intro hK hE
  obtain ⟨o, y⟩ := o
  cases o with
  | inl v =>
    have hK : K (.inl (some (.int 0))) (hm s y (oc v.toInt64 w :: t)) := hK
    exact hK
  | inr E =>
    obtain rfl : E = 0 := hE E rfl
    intro j
    have hK : K (.inl (some (.int 1))) (hm s y (oc n w :: (t ++ jk j))) := hK j
    exact hK
theorem e_narrow (k f : Int32) (x : XS) : OE p0 (xNarrow k f x) := by
  unfold xNarrow
  repeat' first | with_reducible exact OE_inl | with_reducible exact OE_refuse | with_reducible refine OE_ite ?_ ?_ | with_reducible exact OE_keep p0_0 | with_reducible exact OE_keepR p0_0 | with_reducible exact OE_keepE p0_0 | with_reducible exact OE_keepF p0_0 | with_reducible exact OE_keepM p0_0 | with_reducible refine OE_nd p0_0 ?_
theorem K_narrow (k f : Int32) (hK : ansK K s n w t cd2 (xNarrow k f x)) : M P n_K_narrow [.ref 0, .int k, .int f, .ref 13] (hm s x (oc n w :: t)) 12 70 20 K := by
  refine Mgo ok_K_narrow 60 rfl ?_
  refine ⟨_, _, _, L_narrow _ _ ?_, by decide, by decide, by decide⟩
  have hE := e_narrow k f x
  revert hK hE
  generalize xNarrow k f x = o
  intro hK hE
  obtain ⟨o, y⟩ := o
  cases o with
  | inl v =>
    have hK : K (.inl (some (.int 0))) (hm s y (oc v.toInt64 w :: t)) := hK
    exact hK
  | inr E =>
    obtain rfl : E = 0 := hE E rfl
    intro j
    have hK : K (.inl (some (.int 1))) (hm s y (oc n w :: (t ++ jk j))) := hK j
    exact hK
theorem e_exact (l k f q : Int32) (x : XS) : OE p2 (xExact l k f q x) := by
  unfold xExact
  repeat' first | with_reducible exact OE_inl | with_reducible exact OE_refuse | with_reducible refine OE_ite ?_ ?_ | with_reducible exact OE_keep p2_0 | with_reducible exact OE_keepR p2_0 | with_reducible exact OE_keepE p2_0 | with_reducible exact OE_keepF p2_0 | with_reducible exact OE_keepM p2_0 | with_reducible refine OE_nd p2_0 ?_ | with_reducible refine OE_nd p2_1 ?_
theorem K_exact (l k f q : Int32) (hK : ansK K s n w t cd2 (xExact l k f q x)) : M P n_K_exact [.ref 0, .int l, .int k, .int f, .int q, .ref 13] (hm s x (oc n w :: t)) 12 70 20 K := by
  refine Mgo ok_K_exact 60 rfl ?_
  refine ⟨_, _, _, L_exact _ _ _ _ ?_, by decide, by decide, by decide⟩
  have hE := e_exact l k f q x
  revert hK hE
  generalize xExact l k f q x = o
  intro hK hE
  obtain ⟨o, y⟩ := o
  cases o with
  | inl v =>
    have hK : K (.inl (some (.int 0))) (hm s y (oc v.toInt64 w :: t)) := hK
    exact hK
  | inr E =>
    rcases hE E rfl with rfl | rfl
    · intro j
      have hK : K (.inl (some (.int 1))) (hm s y (oc n w :: (t ++ jk j))) := hK j
      exact hK
    · intro j
      have hK : K (.inl (some (.int 2))) (hm s y (oc n w :: (t ++ jk j))) := hK j
      exact hK
theorem e_fits (l k f q : Int32) (x : XS) : OE p2 (xFits l k f q x) := by
  unfold xFits
  repeat' first | with_reducible exact OE_inl | with_reducible exact OE_refuse | with_reducible refine OE_ite ?_ ?_ | with_reducible exact OE_keep p2_0 | with_reducible exact OE_keepR p2_0 | with_reducible exact OE_keepE p2_0 | with_reducible exact OE_keepF p2_0 | with_reducible exact OE_keepM p2_0 | with_reducible refine OE_nd p2_0 ?_ | with_reducible refine OE_nd p2_1 ?_
theorem K_fits (l k f q : Int32) (hK : ansB K s n w t cd2 (xFits l k f q x)) : M P n_K_fits [.ref 0, .int l, .int k, .int f, .int q, .ref 13] (hm s x (oc n w :: t)) 12 70 20 K := by
  refine Mgo ok_K_fits 60 rfl ?_
  refine ⟨_, _, _, L_fits _ _ _ _ ?_, by decide, by decide, by decide⟩
  have hE := e_fits l k f q x
  revert hK hE
  generalize xFits l k f q x = o
  intro hK hE
  obtain ⟨o, y⟩ := o
  cases o with
  | inl v =>
    have hK : K (.inl (some (.int 0))) (hm s y (oc (bz v) w :: t)) := hK
    unfold bz at hK
    refine ⟨fun e => ?_, fun e => ?_⟩
    · rw [if_pos e] at hK
      exact hK
    · rw [if_neg e] at hK
      exact hK
  | inr E =>
    rcases hE E rfl with rfl | rfl
    · intro j
      have hK : K (.inl (some (.int 1))) (hm s y (oc n w :: (t ++ jk j))) := hK j
      exact hK
    · intro j
      have hK : K (.inl (some (.int 2))) (hm s y (oc n w :: (t ++ jk j))) := hK j
      exact hK
theorem e_alone (l k q : Int32) (x : XS) : OE p2 (xAlone l k q x) := by
  unfold xAlone
  repeat' first | with_reducible exact OE_inl | with_reducible exact OE_refuse | with_reducible refine OE_ite ?_ ?_ | with_reducible exact OE_keep p2_0 | with_reducible exact OE_keepR p2_0 | with_reducible exact OE_keepE p2_0 | with_reducible exact OE_keepF p2_0 | with_reducible exact OE_keepM p2_0 | with_reducible refine OE_nd p2_0 ?_ | with_reducible refine OE_nd p2_1 ?_
theorem K_alone (l k q : Int32) (hK : ansK K s n w t cd2 (xAlone l k q x)) : M P n_K_alone [.ref 0, .int l, .int k, .int q, .ref 13] (hm s x (oc n w :: t)) 12 70 20 K := by
  refine Mgo ok_K_alone 60 rfl ?_
  refine ⟨_, _, _, L_alone _ _ _ ?_, by decide, by decide, by decide⟩
  have hE := e_alone l k q x
  revert hK hE
  generalize xAlone l k q x = o
  intro hK hE
  obtain ⟨o, y⟩ := o
  cases o with
  | inl v =>
    have hK : K (.inl (some (.int 0))) (hm s y (oc v.toInt64 w :: t)) := hK
    exact hK
  | inr E =>
    rcases hE E rfl with rfl | rfl
    · intro j
      have hK : K (.inl (some (.int 1))) (hm s y (oc n w :: (t ++ jk j))) := hK j
      exact hK
    · intro j
      have hK : K (.inl (some (.int 2))) (hm s y (oc n w :: (t ++ jk j))) := hK j
      exact hK
theorem e_timesInt (k f : Int32) (x : XS) : OE p0 (xTimesInt k f x) := by
  unfold xTimesInt
  repeat' first | with_reducible exact OE_inl | with_reducible exact OE_refuse | with_reducible refine OE_ite ?_ ?_ | with_reducible exact OE_keep p0_0 | with_reducible exact OE_keepR p0_0 | with_reducible exact OE_keepE p0_0 | with_reducible exact OE_keepF p0_0 | with_reducible exact OE_keepM p0_0 | with_reducible refine OE_nd p0_0 ?_
theorem K_timesInt (k f : Int32) (hK : ansK K s n w t cd2 (xTimesInt k f x)) : M P n_K_timesInt [.ref 0, .int k, .int f, .ref 13] (hm s x (oc n w :: t)) 12 70 20 K := by
  refine Mgo ok_K_timesInt 60 rfl ?_
  refine ⟨_, _, _, L_timesInt _ _ ?_, by decide, by decide, by decide⟩
  have hE := e_timesInt k f x
  revert hK hE
  generalize xTimesInt k f x = o
  intro hK hE
  obtain ⟨o, y⟩ := o
  cases o with
  | inl v =>
    have hK : K (.inl (some (.int 0))) (hm s y (oc v.toInt64 w :: t)) := hK
    exact hK
  | inr E =>
    obtain rfl : E = 0 := hE E rfl
    intro j
    have hK : K (.inl (some (.int 1))) (hm s y (oc n w :: (t ++ jk j))) := hK j
    exact hK
theorem e_full (k a b : Int32) (x : XS) : OE p0 (xFull k a b x) := by
  unfold xFull
  repeat' first | with_reducible exact OE_inl | with_reducible exact OE_refuse | with_reducible refine OE_ite ?_ ?_ | with_reducible exact OE_keep p0_0 | with_reducible exact OE_keepR p0_0 | with_reducible exact OE_keepE p0_0 | with_reducible exact OE_keepF p0_0 | with_reducible exact OE_keepM p0_0 | with_reducible refine OE_nd p0_0 ?_
theorem K_full (k a b : Int32) (hK : ansK K s n w t cd2 (xFull k a b x)) : M P n_K_full [.ref 0, .int k, .int a, .int b, .ref 13] (hm s x (oc n w :: t)) 12 70 20 K := by
  refine Mgo ok_K_full 60 rfl ?_
  refine ⟨_, _, _, L_full _ _ _ ?_, by decide, by decide, by decide⟩
  have hE := e_full k a b x
  revert hK hE
  generalize xFull k a b x = o
  intro hK hE
  obtain ⟨o, y⟩ := o
  cases o with
  | inl v =>
    have hK : K (.inl (some (.int 0))) (hm s y (oc v.toInt64 w :: t)) := hK
    exact hK
  | inr E =>
    obtain rfl : E = 0 := hE E rfl
    intro j
    have hK : K (.inl (some (.int 1))) (hm s y (oc n w :: (t ++ jk j))) := hK j
    exact hK
theorem e_high (k a b : Int32) (x : XS) : OE p0 (xHigh k a b x) := by
  unfold xHigh
  repeat' first | with_reducible exact OE_inl | with_reducible exact OE_refuse | with_reducible refine OE_ite ?_ ?_ | with_reducible exact OE_keep p0_0 | with_reducible exact OE_keepR p0_0 | with_reducible exact OE_keepE p0_0 | with_reducible exact OE_keepF p0_0 | with_reducible exact OE_keepM p0_0 | with_reducible refine OE_nd p0_0 ?_
theorem K_high (k a b : Int32) (hK : ansK K s n w t cd2 (xHigh k a b x)) : M P n_K_high [.ref 0, .int k, .int a, .int b, .ref 13] (hm s x (oc n w :: t)) 12 70 20 K := by
  refine Mgo ok_K_high 60 rfl ?_
  refine ⟨_, _, _, L_high _ _ _ ?_, by decide, by decide, by decide⟩
  have hE := e_high k a b x
  revert hK hE
  generalize xHigh k a b x = o
  intro hK hE
  obtain ⟨o, y⟩ := o
  cases o with
  | inl v =>
    have hK : K (.inl (some (.int 0))) (hm s y (oc v.toInt64 w :: t)) := hK
    exact hK
  | inr E =>
    obtain rfl : E = 0 := hE E rfl
    intro j
    have hK : K (.inl (some (.int 1))) (hm s y (oc n w :: (t ++ jk j))) := hK j
    exact hK
theorem e_round (l k f q : Int32) (x : XS) : OE p2 (xRound l k f q x) := by
  unfold xRound
  repeat' first | with_reducible exact OE_inl | with_reducible exact OE_refuse | with_reducible refine OE_ite ?_ ?_ | with_reducible exact OE_keep p2_0 | with_reducible exact OE_keepR p2_0 | with_reducible exact OE_keepE p2_0 | with_reducible exact OE_keepF p2_0 | with_reducible exact OE_keepM p2_0 | with_reducible refine OE_nd p2_0 ?_ | with_reducible refine OE_nd p2_1 ?_
theorem K_round (l k f q : Int32) (hK : ansK K s n w t cd2 (xRound l k f q x)) : M P n_K_round [.ref 0, .int l, .int k, .int f, .int q, .ref 13] (hm s x (oc n w :: t)) 12 70 20 K := by
  refine Mgo ok_K_round 60 rfl ?_
  refine ⟨_, _, _, L_round _ _ _ _ ?_, by decide, by decide, by decide⟩
  have hE := e_round l k f q x
  revert hK hE
  generalize xRound l k f q x = o
  intro hK hE
  obtain ⟨o, y⟩ := o
  cases o with
  | inl v =>
    have hK : K (.inl (some (.int 0))) (hm s y (oc v.toInt64 w :: t)) := hK
    exact hK
  | inr E =>
    rcases hE E rfl with rfl | rfl
    · intro j
      have hK : K (.inl (some (.int 1))) (hm s y (oc n w :: (t ++ jk j))) := hK j
      exact hK
    · intro j
      have hK : K (.inl (some (.int 2))) (hm s y (oc n w :: (t ++ jk j))) := hK j
      exact hK
theorem e_abs (l k : Int32) (x : XS) : OE p0 (xAbs l k x) := by
  unfold xAbs
  repeat' first | with_reducible exact OE_inl | with_reducible exact OE_refuse | with_reducible refine OE_ite ?_ ?_ | with_reducible exact OE_keep p0_0 | with_reducible exact OE_keepR p0_0 | with_reducible exact OE_keepE p0_0 | with_reducible exact OE_keepF p0_0 | with_reducible exact OE_keepM p0_0 | with_reducible refine OE_nd p0_0 ?_
theorem K_abs (l k : Int32) (hK : ansK K s n w t cd2 (xAbs l k x)) : M P n_K_abs [.ref 0, .int l, .int k, .ref 13] (hm s x (oc n w :: t)) 12 70 20 K := by
  refine Mgo ok_K_abs 60 rfl ?_
  refine ⟨_, _, _, L_abs _ _ ?_, by decide, by decide, by decide⟩
  have hE := e_abs l k x
  revert hK hE
  generalize xAbs l k x = o
  intro hK hE
  obtain ⟨o, y⟩ := o
  cases o with
  | inl v =>
    have hK : K (.inl (some (.int 0))) (hm s y (oc v.toInt64 w :: t)) := hK
    exact hK
  | inr E =>
    obtain rfl : E = 0 := hE E rfl
    intro j
    have hK : K (.inl (some (.int 1))) (hm s y (oc n w :: (t ++ jk j))) := hK j
    exact hK
theorem e_extreme (l k f g : Int32) (x : XS) : OE p0 (xExtreme l k f g x) := by
  unfold xExtreme
  repeat' first | with_reducible exact OE_inl | with_reducible exact OE_refuse | with_reducible refine OE_ite ?_ ?_ | with_reducible exact OE_keep p0_0 | with_reducible exact OE_keepR p0_0 | with_reducible exact OE_keepE p0_0 | with_reducible exact OE_keepF p0_0 | with_reducible exact OE_keepM p0_0 | with_reducible refine OE_nd p0_0 ?_
theorem K_extreme (l k f g : Int32) (hK : ansK K s n w t cd2 (xExtreme l k f g x)) : M P n_K_extreme [.ref 0, .int l, .int k, .int f, .int g, .ref 13] (hm s x (oc n w :: t)) 12 70 20 K := by
  refine Mgo ok_K_extreme 60 rfl ?_
  refine ⟨_, _, _, L_extreme _ _ _ _ ?_, by decide, by decide, by decide⟩
  have hE := e_extreme l k f g x
  revert hK hE
  generalize xExtreme l k f g x = o
  intro hK hE
  obtain ⟨o, y⟩ := o
  cases o with
  | inl v =>
    have hK : K (.inl (some (.int 0))) (hm s y (oc v.toInt64 w :: t)) := hK
    exact hK
  | inr E =>
    obtain rfl : E = 0 := hE E rfl
    intro j
    have hK : K (.inl (some (.int 1))) (hm s y (oc n w :: (t ++ jk j))) := hK j
    exact hK
theorem e_floor (l k f r : Int32) (x : XS) : OE p0 (xFloor l k f r x) := by
  unfold xFloor
  repeat' first | with_reducible exact OE_inl | with_reducible exact OE_refuse | with_reducible refine OE_ite ?_ ?_ | with_reducible exact OE_keep p0_0 | with_reducible exact OE_keepR p0_0 | with_reducible exact OE_keepE p0_0 | with_reducible exact OE_keepF p0_0 | with_reducible exact OE_keepM p0_0 | with_reducible refine OE_nd p0_0 ?_
theorem K_floor (l k f r : Int32) (hK : ansK K s n w t cd2 (xFloor l k f r x)) : M P n_K_floor [.ref 0, .int l, .int k, .int f, .int r, .ref 13] (hm s x (oc n w :: t)) 12 70 20 K := by
  refine Mgo ok_K_floor 60 rfl ?_
  refine ⟨_, _, _, L_floor _ _ _ _ ?_, by decide, by decide, by decide⟩
  have hE := e_floor l k f r x
  revert hK hE
  generalize xFloor l k f r x = o
  intro hK hE
  obtain ⟨o, y⟩ := o
  cases o with
  | inl v =>
    have hK : K (.inl (some (.int 0))) (hm s y (oc v.toInt64 w :: t)) := hK
    exact hK
  | inr E =>
    obtain rfl : E = 0 := hE E rfl
    intro j
    have hK : K (.inl (some (.int 1))) (hm s y (oc n w :: (t ++ jk j))) := hK j
    exact hK
theorem e_floorInt (k f r : Int32) (x : XS) : OE p0 (xFloorInt k f r x) := by
  unfold xFloorInt
  repeat' first | with_reducible exact OE_inl | with_reducible exact OE_refuse | with_reducible refine OE_ite ?_ ?_ | with_reducible exact OE_keep p0_0 | with_reducible exact OE_keepR p0_0 | with_reducible exact OE_keepE p0_0 | with_reducible exact OE_keepF p0_0 | with_reducible exact OE_keepM p0_0 | with_reducible refine OE_nd p0_0 ?_
theorem K_floorInt (k f r : Int32) (hK : ansK K s n w t cd2 (xFloorInt k f r x)) : M P n_K_floorInt [.ref 0, .int k, .int f, .int r, .ref 13] (hm s x (oc n w :: t)) 12 70 20 K := by
  refine Mgo ok_K_floorInt 60 rfl ?_
  refine ⟨_, _, _, L_floorInt _ _ _ ?_, by decide, by decide, by decide⟩
  have hE := e_floorInt k f r x
  revert hK hE
  generalize xFloorInt k f r x = o
  intro hK hE
  obtain ⟨o, y⟩ := o
  cases o with
  | inl v =>
    have hK : K (.inl (some (.int 0))) (hm s y (oc v.toInt64 w :: t)) := hK
    exact hK
  | inr E =>
    obtain rfl : E = 0 := hE E rfl
    intro j
    have hK : K (.inl (some (.int 1))) (hm s y (oc n w :: (t ++ jk j))) := hK j
    exact hK
theorem e_towards (l k f r : Int32) (x : XS) : OE p0 (xTowards l k f r x) := by
  unfold xTowards
  repeat' first | with_reducible exact OE_inl | with_reducible exact OE_refuse | with_reducible refine OE_ite ?_ ?_ | with_reducible exact OE_keep p0_0 | with_reducible exact OE_keepR p0_0 | with_reducible exact OE_keepE p0_0 | with_reducible exact OE_keepF p0_0 | with_reducible exact OE_keepM p0_0 | with_reducible refine OE_nd p0_0 ?_
theorem K_towards (l k f r : Int32) (hK : ansK K s n w t cd2 (xTowards l k f r x)) : M P n_K_towards [.ref 0, .int l, .int k, .int f, .int r, .ref 13] (hm s x (oc n w :: t)) 12 70 20 K := by
  refine Mgo ok_K_towards 60 rfl ?_
  refine ⟨_, _, _, L_towards _ _ _ _ ?_, by decide, by decide, by decide⟩
  have hE := e_towards l k f r x
  revert hK hE
  generalize xTowards l k f r x = o
  intro hK hE
  obtain ⟨o, y⟩ := o
  cases o with
  | inl v =>
    have hK : K (.inl (some (.int 0))) (hm s y (oc v.toInt64 w :: t)) := hK
    exact hK
  | inr E =>
    obtain rfl : E = 0 := hE E rfl
    intro j
    have hK : K (.inl (some (.int 1))) (hm s y (oc n w :: (t ++ jk j))) := hK j
    exact hK
theorem e_average (l k f u : Int32) (x : XS) : OE p0 (xAverage l k f u x) := by
  unfold xAverage
  repeat' first | with_reducible exact OE_inl | with_reducible exact OE_refuse | with_reducible refine OE_ite ?_ ?_ | with_reducible exact OE_keep p0_0 | with_reducible exact OE_keepR p0_0 | with_reducible exact OE_keepE p0_0 | with_reducible exact OE_keepF p0_0 | with_reducible exact OE_keepM p0_0 | with_reducible refine OE_nd p0_0 ?_
theorem K_average (l k f u : Int32) (hK : ansK K s n w t cd2 (xAverage l k f u x)) : M P n_K_average [.ref 0, .int l, .int k, .int f, .int u, .ref 13] (hm s x (oc n w :: t)) 12 70 20 K := by
  refine Mgo ok_K_average 60 rfl ?_
  refine ⟨_, _, _, L_average _ _ _ _ ?_, by decide, by decide, by decide⟩
  have hE := e_average l k f u x
  revert hK hE
  generalize xAverage l k f u x = o
  intro hK hE
  obtain ⟨o, y⟩ := o
  cases o with
  | inl v =>
    have hK : K (.inl (some (.int 0))) (hm s y (oc v.toInt64 w :: t)) := hK
    exact hK
  | inr E =>
    obtain rfl : E = 0 := hE E rfl
    intro j
    have hK : K (.inl (some (.int 1))) (hm s y (oc n w :: (t ++ jk j))) := hK j
    exact hK
theorem e_chain (k a b c : Int32) (x : XS) : OE p2 (xChain k a b c x) := by
  unfold xChain
  repeat' first | with_reducible exact OE_inl | with_reducible exact OE_refuse | with_reducible refine OE_ite ?_ ?_ | with_reducible exact OE_keep p2_0 | with_reducible exact OE_keepR p2_0 | with_reducible exact OE_keepE p2_0 | with_reducible exact OE_keepF p2_0 | with_reducible exact OE_keepM p2_0 | with_reducible refine OE_nd p2_0 ?_ | with_reducible refine OE_nd p2_1 ?_
theorem K_chain (k a b c : Int32) (hK : ansK K s n w t cd2 (xChain k a b c x)) : M P n_K_chain [.ref 0, .int k, .int a, .int b, .int c, .ref 13] (hm s x (oc n w :: t)) 12 70 20 K := by
  refine Mgo ok_K_chain 60 rfl ?_
  refine ⟨_, _, _, L_chain _ _ _ _ ?_, by decide, by decide, by decide⟩
  have hE := e_chain k a b c x
  revert hK hE
  generalize xChain k a b c x = o
  intro hK hE
  obtain ⟨o, y⟩ := o
  cases o with
  | inl v =>
    have hK : K (.inl (some (.int 0))) (hm s y (oc v.toInt64 w :: t)) := hK
    exact hK
  | inr E =>
    rcases hE E rfl with rfl | rfl
    · intro j
      have hK : K (.inl (some (.int 1))) (hm s y (oc n w :: (t ++ jk j))) := hK j
      exact hK
    · intro j
      have hK : K (.inl (some (.int 2))) (hm s y (oc n w :: (t ++ jk j))) := hK j
      exact hK
theorem e_atOnce (k a b c : Int32) (x : XS) : OE p2 (xAtOnce k a b c x) := by
  unfold xAtOnce
  repeat' first | with_reducible exact OE_inl | with_reducible exact OE_refuse | with_reducible refine OE_ite ?_ ?_ | with_reducible exact OE_keep p2_0 | with_reducible exact OE_keepR p2_0 | with_reducible exact OE_keepE p2_0 | with_reducible exact OE_keepF p2_0 | with_reducible exact OE_keepM p2_0 | with_reducible refine OE_nd p2_0 ?_ | with_reducible refine OE_nd p2_1 ?_
theorem K_atOnce (k a b c : Int32) (hK : ansK K s n w t cd2 (xAtOnce k a b c x)) : M P n_K_atOnce [.ref 0, .int k, .int a, .int b, .int c, .ref 13] (hm s x (oc n w :: t)) 12 70 20 K := by
  refine Mgo ok_K_atOnce 60 rfl ?_
  refine ⟨_, _, _, L_atOnce _ _ _ _ ?_, by decide, by decide, by decide⟩
  have hE := e_atOnce k a b c x
  revert hK hE
  generalize xAtOnce k a b c x = o
  intro hK hE
  obtain ⟨o, y⟩ := o
  cases o with
  | inl v =>
    have hK : K (.inl (some (.int 0))) (hm s y (oc v.toInt64 w :: t)) := hK
    exact hK
  | inr E =>
    rcases hE E rfl with rfl | rfl
    · intro j
      have hK : K (.inl (some (.int 1))) (hm s y (oc n w :: (t ++ jk j))) := hK j
      exact hK
    · intro j
      have hK : K (.inl (some (.int 2))) (hm s y (oc n w :: (t ++ jk j))) := hK j
      exact hK
theorem e_distance (l a b : Int32) (x : XS) : OE p0 (xDistance l a b x) := by
  unfold xDistance
  repeat' first | with_reducible exact OE_inl | with_reducible exact OE_refuse | with_reducible refine OE_ite ?_ ?_ | with_reducible exact OE_keep p0_0 | with_reducible exact OE_keepR p0_0 | with_reducible exact OE_keepE p0_0 | with_reducible exact OE_keepF p0_0 | with_reducible exact OE_keepM p0_0 | with_reducible refine OE_nd p0_0 ?_
theorem K_distance (l a b : Int32) (hK : ansS K s n w t cd2 (xDistance l a b x)) : M P n_K_distance [.ref 0, .int l, .int a, .int b, .ref 13] (hm s x (oc n w :: t)) 50 9000 20 K := by
  refine Mgo ok_K_distance 60 rfl ?_
  refine ⟨_, _, _, L_distance _ _ _ ?_, by decide, by decide, by decide⟩
  have hE := e_distance l a b x
  revert hK hE
  generalize xDistance l a b x = o
  intro hK hE
  obtain ⟨o, y⟩ := o
  cases o with
  | inl v =>
    intro l r
    have hK : K (.inl (some (.int 0))) (hm s y (oc n (.ref r) :: (t ++ l))) := hK l r
    exact hK
  | inr E =>
    obtain rfl : E = 0 := hE E rfl
    intro j
    have hK : K (.inl (some (.int 1))) (hm s y (oc n w :: (t ++ j))) := hK j
    exact hK
theorem e_compare (l k f : Int32) (x : XS) : OE p0 (xCompare l k f x) := by
  unfold xCompare
  repeat' first | with_reducible exact OE_inl | with_reducible exact OE_refuse | with_reducible refine OE_ite ?_ ?_ | with_reducible exact OE_keep p0_0 | with_reducible exact OE_keepR p0_0 | with_reducible exact OE_keepE p0_0 | with_reducible exact OE_keepF p0_0 | with_reducible exact OE_keepM p0_0 | with_reducible refine OE_nd p0_0 ?_
theorem K_compare (l k f : Int32) (hK : ansK K s n w t cd2 (xCompare l k f x)) : M P n_K_compare [.ref 0, .int l, .int k, .int f, .ref 13] (hm s x (oc n w :: t)) 12 70 20 K := by
  refine Mgo ok_K_compare 60 rfl ?_
  refine ⟨_, _, _, L_compare _ _ _ ?_, by decide, by decide, by decide⟩
  have hE := e_compare l k f x
  revert hK hE
  generalize xCompare l k f x = o
  intro hK hE
  obtain ⟨o, y⟩ := o
  cases o with
  | inl v =>
    have hK : K (.inl (some (.int 0))) (hm s y (oc v.toInt64 w :: t)) := hK
    exact hK
  | inr E =>
    obtain rfl : E = 0 := hE E rfl
    intro j
    have hK : K (.inl (some (.int 1))) (hm s y (oc n w :: (t ++ jk j))) := hK j
    exact hK
theorem e_text (l k : Int32) (x : XS) : OE p0 (xText l k x) := by
  unfold xText
  repeat' first | with_reducible exact OE_inl | with_reducible exact OE_refuse | with_reducible refine OE_ite ?_ ?_ | with_reducible exact OE_keep p0_0 | with_reducible exact OE_keepR p0_0 | with_reducible exact OE_keepE p0_0 | with_reducible exact OE_keepF p0_0 | with_reducible exact OE_keepM p0_0 | with_reducible refine OE_nd p0_0 ?_
theorem K_text (l k : Int32) (hK : ansS K s n w t cd2 (xText l k x)) : M P n_K_text [.ref 0, .int l, .int k, .ref 13] (hm s x (oc n w :: t)) 50 9000 20 K := by
  refine Mgo ok_K_text 60 rfl ?_
  refine ⟨_, _, _, L_text _ _ ?_, by decide, by decide, by decide⟩
  have hE := e_text l k x
  revert hK hE
  generalize xText l k x = o
  intro hK hE
  obtain ⟨o, y⟩ := o
  cases o with
  | inl v =>
    intro l r
    have hK : K (.inl (some (.int 0))) (hm s y (oc n (.ref r) :: (t ++ l))) := hK l r
    exact hK
  | inr E =>
    obtain rfl : E = 0 := hE E rfl
    intro j
    have hK : K (.inl (some (.int 1))) (hm s y (oc n w :: (t ++ j))) := hK j
    exact hK
theorem e_ofNumber (l k q : Int32) (x : XS) : OE p2 (xOfNumber l k q x) := by
  unfold xOfNumber
  repeat' first | with_reducible exact OE_inl | with_reducible exact OE_refuse | with_reducible refine OE_ite ?_ ?_ | with_reducible exact OE_keep p2_0 | with_reducible exact OE_keepR p2_0 | with_reducible exact OE_keepE p2_0 | with_reducible exact OE_keepF p2_0 | with_reducible exact OE_keepM p2_0 | with_reducible refine OE_nd p2_0 ?_ | with_reducible refine OE_nd p2_1 ?_
theorem K_ofNumber (l k q : Int32) (hK : ansK K s n w t cd2 (xOfNumber l k q x)) : M P n_K_ofNumber [.ref 0, .int l, .int k, .int q, .ref 13] (hm s x (oc n w :: t)) 12 70 20 K := by
  refine Mgo ok_K_ofNumber 60 rfl ?_
  refine ⟨_, _, _, L_ofNumber _ _ _ ?_, by decide, by decide, by decide⟩
  have hE := e_ofNumber l k q x
  revert hK hE
  generalize xOfNumber l k q x = o
  intro hK hE
  obtain ⟨o, y⟩ := o
  cases o with
  | inl v =>
    have hK : K (.inl (some (.int 0))) (hm s y (oc v.toInt64 w :: t)) := hK
    exact hK
  | inr E =>
    rcases hE E rfl with rfl | rfl
    · intro j
      have hK : K (.inl (some (.int 1))) (hm s y (oc n w :: (t ++ jk j))) := hK j
      exact hK
    · intro j
      have hK : K (.inl (some (.int 2))) (hm s y (oc n w :: (t ++ jk j))) := hK j
      exact hK
theorem e_rest (l k m : Int32) (x : XS) : OE p2 (xRest l k m x) := by
  unfold xRest
  repeat' first | with_reducible exact OE_inl | with_reducible exact OE_refuse | with_reducible refine OE_ite ?_ ?_ | with_reducible exact OE_keep p2_0 | with_reducible exact OE_keepR p2_0 | with_reducible exact OE_keepE p2_0 | with_reducible exact OE_keepF p2_0 | with_reducible exact OE_keepM p2_0 | with_reducible refine OE_nd p2_0 ?_ | with_reducible refine OE_nd p2_1 ?_
theorem K_rest (l k m : Int32) (hK : ansK K s n w t cd2 (xRest l k m x)) : M P n_K_rest [.ref 0, .int l, .int k, .int m, .ref 13] (hm s x (oc n w :: t)) 12 70 20 K := by
  refine Mgo ok_K_rest 60 rfl ?_
  refine ⟨_, _, _, L_rest _ _ _ ?_, by decide, by decide, by decide⟩
  have hE := e_rest l k m x
  revert hK hE
  generalize xRest l k m x = o
  intro hK hE
  obtain ⟨o, y⟩ := o
  cases o with
  | inl v =>
    have hK : K (.inl (some (.int 0))) (hm s y (oc v.toInt64 w :: t)) := hK
    exact hK
  | inr E =>
    rcases hE E rfl with rfl | rfl
    · intro j
      have hK : K (.inl (some (.int 1))) (hm s y (oc n w :: (t ++ jk j))) := hK j
      exact hK
    · intro j
      have hK : K (.inl (some (.int 2))) (hm s y (oc n w :: (t ++ jk j))) := hK j
      exact hK
theorem e_quotient (l k m : Int32) (x : XS) : OE p2 (xQuotient l k m x) := by
  unfold xQuotient
  repeat' first | with_reducible exact OE_inl | with_reducible exact OE_refuse | with_reducible refine OE_ite ?_ ?_ | with_reducible exact OE_keep p2_0 | with_reducible exact OE_keepR p2_0 | with_reducible exact OE_keepE p2_0 | with_reducible exact OE_keepF p2_0 | with_reducible exact OE_keepM p2_0 | with_reducible refine OE_nd p2_0 ?_ | with_reducible refine OE_nd p2_1 ?_
theorem K_quotient (l k m : Int32) (hK : ansS K s n w t cd2 (xQuotient l k m x)) : M P n_K_quotient [.ref 0, .int l, .int k, .int m, .ref 13] (hm s x (oc n w :: t)) 50 9000 20 K := by
  refine Mgo ok_K_quotient 60 rfl ?_
  refine ⟨_, _, _, L_quotient _ _ _ ?_, by decide, by decide, by decide⟩
  have hE := e_quotient l k m x
  revert hK hE
  generalize xQuotient l k m x = o
  intro hK hE
  obtain ⟨o, y⟩ := o
  cases o with
  | inl v =>
    intro l r
    have hK : K (.inl (some (.int 0))) (hm s y (oc n (.ref r) :: (t ++ l))) := hK l r
    exact hK
  | inr E =>
    rcases hE E rfl with rfl | rfl
    · intro j
      have hK : K (.inl (some (.int 1))) (hm s y (oc n w :: (t ++ j))) := hK j
      exact hK
    · intro j
      have hK : K (.inl (some (.int 2))) (hm s y (oc n w :: (t ++ j))) := hK j
      exact hK
theorem e_modulus (r m : Int32) (x : XS) : OE p2 (xModulus r m x) := by
  unfold xModulus
  repeat' first | with_reducible exact OE_inl | with_reducible exact OE_refuse | with_reducible refine OE_ite ?_ ?_ | with_reducible exact OE_keep p2_0 | with_reducible exact OE_keepR p2_0 | with_reducible exact OE_keepE p2_0 | with_reducible exact OE_keepF p2_0 | with_reducible exact OE_keepM p2_0 | with_reducible refine OE_nd p2_0 ?_ | with_reducible refine OE_nd p2_1 ?_
theorem K_modulus (r m : Int32) (hK : ansK K s n w t cd2 (xModulus r m x)) : M P n_K_modulus [.ref 0, .int r, .int m, .ref 13] (hm s x (oc n w :: t)) 12 70 20 K := by
  refine Mgo ok_K_modulus 60 rfl ?_
  refine ⟨_, _, _, L_modulus _ _ ?_, by decide, by decide, by decide⟩
  have hE := e_modulus r m x
  revert hK hE
  generalize xModulus r m x = o
  intro hK hE
  obtain ⟨o, y⟩ := o
  cases o with
  | inl v =>
    have hK : K (.inl (some (.int 0))) (hm s y (oc v.toInt64 w :: t)) := hK
    exact hK
  | inr E =>
    rcases hE E rfl with rfl | rfl
    · intro j
      have hK : K (.inl (some (.int 1))) (hm s y (oc n w :: (t ++ jk j))) := hK j
      exact hK
    · intro j
      have hK : K (.inl (some (.int 2))) (hm s y (oc n w :: (t ++ jk j))) := hK j
      exact hK
theorem e_bring (r k l f : Int32) (x : XS) : OE p0 (xBring r k l f x) := by
  unfold xBring
  repeat' first | with_reducible exact OE_inl | with_reducible exact OE_refuse | with_reducible refine OE_ite ?_ ?_ | with_reducible exact OE_keep p0_0 | with_reducible exact OE_keepR p0_0 | with_reducible exact OE_keepE p0_0 | with_reducible exact OE_keepF p0_0 | with_reducible exact OE_keepM p0_0 | with_reducible refine OE_nd p0_0 ?_
theorem K_bring (r k l f : Int32) (hK : ansK K s n w t cd2 (xBring r k l f x)) : M P n_K_bring [.ref 0, .int r, .int k, .int l, .int f, .ref 13] (hm s x (oc n w :: t)) 12 70 20 K := by
  refine Mgo ok_K_bring 60 rfl ?_
  refine ⟨_, _, _, L_bring _ _ _ _ ?_, by decide, by decide, by decide⟩
  have hE := e_bring r k l f x
  revert hK hE
  generalize xBring r k l f x = o
  intro hK hE
  obtain ⟨o, y⟩ := o
  cases o with
  | inl v =>
    have hK : K (.inl (some (.int 0))) (hm s y (oc v.toInt64 w :: t)) := hK
    exact hK
  | inr E =>
    obtain rfl : E = 0 := hE E rfl
    intro j
    have hK : K (.inl (some (.int 1))) (hm s y (oc n w :: (t ++ jk j))) := hK j
    exact hK
theorem e_lift (r i l k : Int32) (x : XS) : OE p0 (xLift r i l k x) := by
  unfold xLift
  repeat' first | with_reducible exact OE_inl | with_reducible exact OE_refuse | with_reducible refine OE_ite ?_ ?_ | with_reducible exact OE_keep p0_0 | with_reducible exact OE_keepR p0_0 | with_reducible exact OE_keepE p0_0 | with_reducible exact OE_keepF p0_0 | with_reducible exact OE_keepM p0_0 | with_reducible refine OE_nd p0_0 ?_
theorem K_lift (r i l k : Int32) (hK : ansK K s n w t cd2 (xLift r i l k x)) : M P n_K_lift [.ref 0, .int r, .int i, .int l, .int k, .ref 13] (hm s x (oc n w :: t)) 12 70 20 K := by
  refine Mgo ok_K_lift 60 rfl ?_
  refine ⟨_, _, _, L_lift _ _ _ _ ?_, by decide, by decide, by decide⟩
  have hE := e_lift r i l k x
  revert hK hE
  generalize xLift r i l k x = o
  intro hK hE
  obtain ⟨o, y⟩ := o
  cases o with
  | inl v =>
    have hK : K (.inl (some (.int 0))) (hm s y (oc v.toInt64 w :: t)) := hK
    exact hK
  | inr E =>
    obtain rfl : E = 0 := hE E rfl
    intro j
    have hK : K (.inl (some (.int 1))) (hm s y (oc n w :: (t ++ jk j))) := hK j
    exact hK
theorem e_plus (r k f m : Int32) (x : XS) : OE p0 (xPlus r k f m x) := by
  unfold xPlus
  repeat' first | with_reducible exact OE_inl | with_reducible exact OE_refuse | with_reducible refine OE_ite ?_ ?_ | with_reducible exact OE_keep p0_0 | with_reducible exact OE_keepR p0_0 | with_reducible exact OE_keepE p0_0 | with_reducible exact OE_keepF p0_0 | with_reducible exact OE_keepM p0_0 | with_reducible refine OE_nd p0_0 ?_
theorem K_plus (r k f m : Int32) (hK : ansK K s n w t cd2 (xPlus r k f m x)) : M P n_K_plus [.ref 0, .int r, .int k, .int f, .int m, .ref 13] (hm s x (oc n w :: t)) 12 70 20 K := by
  refine Mgo ok_K_plus 60 rfl ?_
  refine ⟨_, _, _, L_plus _ _ _ _ ?_, by decide, by decide, by decide⟩
  have hE := e_plus r k f m x
  revert hK hE
  generalize xPlus r k f m x = o
  intro hK hE
  obtain ⟨o, y⟩ := o
  cases o with
  | inl v =>
    have hK : K (.inl (some (.int 0))) (hm s y (oc v.toInt64 w :: t)) := hK
    exact hK
  | inr E =>
    obtain rfl : E = 0 := hE E rfl
    intro j
    have hK : K (.inl (some (.int 1))) (hm s y (oc n w :: (t ++ jk j))) := hK j
    exact hK
theorem e_times (r k f : Int32) (x : XS) : OE p0 (xTimes r k f x) := by
  unfold xTimes
  repeat' first | with_reducible exact OE_inl | with_reducible exact OE_refuse | with_reducible refine OE_ite ?_ ?_ | with_reducible exact OE_keep p0_0 | with_reducible exact OE_keepR p0_0 | with_reducible exact OE_keepE p0_0 | with_reducible exact OE_keepF p0_0 | with_reducible exact OE_keepM p0_0 | with_reducible refine OE_nd p0_0 ?_
theorem K_times (r k f : Int32) (hK : ansK K s n w t cd2 (xTimes r k f x)) : M P n_K_times [.ref 0, .int r, .int k, .int f, .ref 13] (hm s x (oc n w :: t)) 12 70 20 K := by
  refine Mgo ok_K_times 60 rfl ?_
  refine ⟨_, _, _, L_times _ _ _ ?_, by decide, by decide, by decide⟩
  have hE := e_times r k f x
  revert hK hE
  generalize xTimes r k f x = o
  intro hK hE
  obtain ⟨o, y⟩ := o
  cases o with
  | inl v =>
    have hK : K (.inl (some (.int 0))) (hm s y (oc v.toInt64 w :: t)) := hK
    exact hK
  | inr E =>
    obtain rfl : E = 0 := hE E rfl
    intro j
    have hK : K (.inl (some (.int 1))) (hm s y (oc n w :: (t ++ jk j))) := hK j
    exact hK
theorem e_power (r k e : Int32) (x : XS) : OE p2 (xPower r k e x) := by
  unfold xPower
  repeat' first | with_reducible exact OE_inl | with_reducible exact OE_refuse | with_reducible refine OE_ite ?_ ?_ | with_reducible exact OE_keep p2_0 | with_reducible exact OE_keepR p2_0 | with_reducible exact OE_keepE p2_0 | with_reducible exact OE_keepF p2_0 | with_reducible exact OE_keepM p2_0 | with_reducible refine OE_nd p2_0 ?_ | with_reducible refine OE_nd p2_1 ?_
theorem K_power (r k e : Int32) (hK : ansK K s n w t cd2 (xPower r k e x)) : M P n_K_power [.ref 0, .int r, .int k, .int e, .ref 13] (hm s x (oc n w :: t)) 12 70 20 K := by
  refine Mgo ok_K_power 60 rfl ?_
  refine ⟨_, _, _, L_power _ _ _ ?_, by decide, by decide, by decide⟩
  have hE := e_power r k e x
  revert hK hE
  generalize xPower r k e x = o
  intro hK hE
  obtain ⟨o, y⟩ := o
  cases o with
  | inl v =>
    have hK : K (.inl (some (.int 0))) (hm s y (oc v.toInt64 w :: t)) := hK
    exact hK
  | inr E =>
    rcases hE E rfl with rfl | rfl
    · intro j
      have hK : K (.inl (some (.int 1))) (hm s y (oc n w :: (t ++ jk j))) := hK j
      exact hK
    · intro j
      have hK : K (.inl (some (.int 2))) (hm s y (oc n w :: (t ++ jk j))) := hK j
      exact hK
theorem e_inverse (r k : Int32) (x : XS) : OE p0 (xInverse r k x) := by
  unfold xInverse
  repeat' first | with_reducible exact OE_inl | with_reducible exact OE_refuse | with_reducible refine OE_ite ?_ ?_ | with_reducible exact OE_keep p0_0 | with_reducible exact OE_keepR p0_0 | with_reducible exact OE_keepE p0_0 | with_reducible exact OE_keepF p0_0 | with_reducible exact OE_keepM p0_0 | with_reducible refine OE_nd p0_0 ?_
theorem K_inverse (r k : Int32) (hK : ansK K s n w t cd2 (xInverse r k x)) : M P n_K_inverse [.ref 0, .int r, .int k, .ref 13] (hm s x (oc n w :: t)) 12 70 20 K := by
  refine Mgo ok_K_inverse 60 rfl ?_
  refine ⟨_, _, _, L_inverse _ _ ?_, by decide, by decide, by decide⟩
  have hE := e_inverse r k x
  revert hK hE
  generalize xInverse r k x = o
  intro hK hE
  obtain ⟨o, y⟩ := o
  cases o with
  | inl v =>
    have hK : K (.inl (some (.int 0))) (hm s y (oc v.toInt64 w :: t)) := hK
    exact hK
  | inr E =>
    obtain rfl : E = 0 := hE E rfl
    intro j
    have hK : K (.inl (some (.int 1))) (hm s y (oc n w :: (t ++ jk j))) := hK j
    exact hK
theorem e_isUnit (r k : Int32) (x : XS) : OE p0 (xUnit r k x) := by
  unfold xUnit
  repeat' first | with_reducible exact OE_inl | with_reducible exact OE_refuse | with_reducible refine OE_ite ?_ ?_ | with_reducible exact OE_keep p0_0 | with_reducible exact OE_keepR p0_0 | with_reducible exact OE_keepE p0_0 | with_reducible exact OE_keepF p0_0 | with_reducible exact OE_keepM p0_0 | with_reducible refine OE_nd p0_0 ?_
theorem K_isUnit (r k : Int32) (hK : ansB K s n w t cd2 (xUnit r k x)) : M P n_K_isUnit [.ref 0, .int r, .int k, .ref 13] (hm s x (oc n w :: t)) 12 70 20 K := by
  refine Mgo ok_K_isUnit 60 rfl ?_
  refine ⟨_, _, _, L_isUnit _ _ ?_, by decide, by decide, by decide⟩
  have hE := e_isUnit r k x
  revert hK hE
  generalize xUnit r k x = o
  intro hK hE
  obtain ⟨o, y⟩ := o
  cases o with
  | inl v =>
    have hK : K (.inl (some (.int 0))) (hm s y (oc (bz v) w :: t)) := hK
    unfold bz at hK
    refine ⟨fun e => ?_, fun e => ?_⟩
    · rw [if_pos e] at hK
      exact hK
    · rw [if_neg e] at hK
      exact hK
  | inr E =>
    obtain rfl : E = 0 := hE E rfl
    intro j
    have hK : K (.inl (some (.int 1))) (hm s y (oc n w :: (t ++ jk j))) := hK j
    exact hK
theorem e_residue (r k : Int32) (x : XS) : OE p0 (xResidue r k x) := by
  unfold xResidue
  repeat' first | with_reducible exact OE_inl | with_reducible exact OE_refuse | with_reducible refine OE_ite ?_ ?_ | with_reducible exact OE_keep p0_0 | with_reducible exact OE_keepR p0_0 | with_reducible exact OE_keepE p0_0 | with_reducible exact OE_keepF p0_0 | with_reducible exact OE_keepM p0_0 | with_reducible refine OE_nd p0_0 ?_
theorem K_residue (r k : Int32) (hK : ansK K s n w t cd2 (xResidue r k x)) : M P n_K_residue [.ref 0, .int r, .int k, .ref 13] (hm s x (oc n w :: t)) 12 70 20 K := by
  refine Mgo ok_K_residue 60 rfl ?_
  refine ⟨_, _, _, L_residue _ _ ?_, by decide, by decide, by decide⟩
  have hE := e_residue r k x
  revert hK hE
  generalize xResidue r k x = o
  intro hK hE
  obtain ⟨o, y⟩ := o
  cases o with
  | inl v =>
    have hK : K (.inl (some (.int 0))) (hm s y (oc v.toInt64 w :: t)) := hK
    exact hK
  | inr E =>
    obtain rfl : E = 0 := hE E rfl
    intro j
    have hK : K (.inl (some (.int 1))) (hm s y (oc n w :: (t ++ jk j))) := hK j
    exact hK
theorem e_ringText (r : Int32) (x : XS) : OE p0 (xRingText r x) := by
  unfold xRingText
  repeat' first | with_reducible exact OE_inl | with_reducible exact OE_refuse | with_reducible refine OE_ite ?_ ?_ | with_reducible exact OE_keep p0_0 | with_reducible exact OE_keepR p0_0 | with_reducible exact OE_keepE p0_0 | with_reducible exact OE_keepF p0_0 | with_reducible exact OE_keepM p0_0 | with_reducible refine OE_nd p0_0 ?_
theorem K_ringText (r : Int32) (hK : ansS K s n w t cd2 (xRingText r x)) : M P n_K_ringText [.ref 0, .int r, .ref 13] (hm s x (oc n w :: t)) 50 9000 20 K := by
  refine Mgo ok_K_ringText 60 rfl ?_
  refine ⟨_, _, _, L_ringText _ ?_, by decide, by decide, by decide⟩
  have hE := e_ringText r x
  revert hK hE
  generalize xRingText r x = o
  intro hK hE
  obtain ⟨o, y⟩ := o
  cases o with
  | inl v =>
    intro l r
    have hK : K (.inl (some (.int 0))) (hm s y (oc n (.ref r) :: (t ++ l))) := hK l r
    exact hK
  | inr E =>
    obtain rfl : E = 0 := hE E rfl
    intro j
    have hK : K (.inl (some (.int 1))) (hm s y (oc n w :: (t ++ j))) := hK j
    exact hK
theorem e_areAlike (r l a b : Int32) (x : XS) : OE p0 (xAlike r l a b x) := by
  unfold xAlike
  repeat' first | with_reducible exact OE_inl | with_reducible exact OE_refuse | with_reducible refine OE_ite ?_ ?_ | with_reducible exact OE_keep p0_0 | with_reducible exact OE_keepR p0_0 | with_reducible exact OE_keepE p0_0 | with_reducible exact OE_keepF p0_0 | with_reducible exact OE_keepM p0_0 | with_reducible refine OE_nd p0_0 ?_
theorem K_areAlike (r l a b : Int32) (hK : ansB K s n w t cd2 (xAlike r l a b x)) : M P n_K_areAlike [.ref 0, .int r, .int l, .int a, .int b, .ref 13] (hm s x (oc n w :: t)) 12 70 20 K := by
  refine Mgo ok_K_areAlike 60 rfl ?_
  refine ⟨_, _, _, L_alike _ _ _ _ ?_, by decide, by decide, by decide⟩
  have hE := e_areAlike r l a b x
  revert hK hE
  generalize xAlike r l a b x = o
  intro hK hE
  obtain ⟨o, y⟩ := o
  cases o with
  | inl v =>
    have hK : K (.inl (some (.int 0))) (hm s y (oc (bz v) w :: t)) := hK
    unfold bz at hK
    refine ⟨fun e => ?_, fun e => ?_⟩
    · rw [if_pos e] at hK
      exact hK
    · rw [if_neg e] at hK
      exact hK
  | inr E =>
    obtain rfl : E = 0 := hE E rfl
    intro j
    have hK : K (.inl (some (.int 1))) (hm s y (oc n w :: (t ++ jk j))) := hK j
    exact hK
theorem e_together (k r a q b : Int32) (x : XS) : OE p0 (xTogether k r a q b x) := by
  unfold xTogether
  repeat' first | with_reducible exact OE_inl | with_reducible exact OE_refuse | with_reducible refine OE_ite ?_ ?_ | with_reducible exact OE_keep p0_0 | with_reducible exact OE_keepR p0_0 | with_reducible exact OE_keepE p0_0 | with_reducible exact OE_keepF p0_0 | with_reducible exact OE_keepM p0_0 | with_reducible refine OE_nd p0_0 ?_
theorem K_together (k r a q b : Int32) (hK : ansK K s n w t cd2 (xTogether k r a q b x)) : M P n_K_together [.ref 0, .int k, .int r, .int a, .int q, .int b, .ref 13] (hm s x (oc n w :: t)) 12 70 20 K := by
  refine Mgo ok_K_together 60 rfl ?_
  refine ⟨_, _, _, L_together _ _ _ _ _ ?_, by decide, by decide, by decide⟩
  have hE := e_together k r a q b x
  revert hK hE
  generalize xTogether k r a q b x = o
  intro hK hE
  obtain ⟨o, y⟩ := o
  cases o with
  | inl v =>
    have hK : K (.inl (some (.int 0))) (hm s y (oc v.toInt64 w :: t)) := hK
    exact hK
  | inr E =>
    obtain rfl : E = 0 := hE E rfl
    intro j
    have hK : K (.inl (some (.int 1))) (hm s y (oc n w :: (t ++ jk j))) := hK j
    exact hK
theorem e_common (r q : Int32) (x : XS) : OE p0 (xCommon r q x) := by
  unfold xCommon
  repeat' first | with_reducible exact OE_inl | with_reducible exact OE_refuse | with_reducible refine OE_ite ?_ ?_ | with_reducible exact OE_keep p0_0 | with_reducible exact OE_keepR p0_0 | with_reducible exact OE_keepE p0_0 | with_reducible exact OE_keepF p0_0 | with_reducible exact OE_keepM p0_0 | with_reducible refine OE_nd p0_0 ?_
theorem K_common (r q i : Int32) (hK : ansS K s n w t cd2 (xCommon r q x)) : M P n_K_common [.ref 0, .int r, .int q, .int i, .ref 13] (hm s x (oc n w :: t)) 50 9000 20 K := by
  refine Mgo ok_K_common 60 rfl ?_
  refine ⟨_, _, _, L_common _ _ _ ?_, by decide, by decide, by decide⟩
  have hE := e_common r q x
  revert hK hE
  generalize xCommon r q x = o
  intro hK hE
  obtain ⟨o, y⟩ := o
  cases o with
  | inl v =>
    intro l r
    have hK : K (.inl (some (.int 0))) (hm s y (oc n (.ref r) :: (t ++ l))) := hK l r
    exact hK
  | inr E =>
    obtain rfl : E = 0 := hE E rfl
    intro j
    have hK : K (.inl (some (.int 1))) (hm s y (oc n w :: (t ++ j))) := hK j
    exact hK
theorem e_house (q : Int32) (x : XS) : OE p1 (xHouse q x) := by
  unfold xHouse
  repeat' first | with_reducible exact OE_inl | with_reducible exact OE_refuse | with_reducible refine OE_ite ?_ ?_ | with_reducible refine OE_nd p1_1 ?_
theorem K_house (q : Int32) (hK : ansK K s n w t cdH (xHouse q x)) : M P n_K_house [.ref 0, .int q, .ref 13] (hm s x (oc n w :: t)) 12 70 20 K := by
  refine Mgo ok_K_house 60 rfl ?_
  refine ⟨_, _, _, L_house _ ?_, by decide, by decide, by decide⟩
  have hE := e_house q x
  revert hK hE
  generalize xHouse q x = o
  intro hK hE
  obtain ⟨o, y⟩ := o
  cases o with
  | inl v =>
    have hK : K (.inl (some (.int 0))) (hm s y (oc v.toInt64 w :: t)) := hK
    exact hK
  | inr E =>
    obtain rfl : E = 1 := hE E rfl
    intro j
    have hK : K (.inl (some (.int 1))) (hm s y (oc n w :: (t ++ jk j))) := hK j
    exact hK
end LAWK
end
section
/-! put: the class and the model agree -/
theorem ok4_n4 {k : Int32} (h : ok4 k) : n4 k := by
  refine ⟨h.1, fun e => ?_⟩
  have h2 := h.2
  have i3 : (3 : Int32).toInt = 3 := by decide
  have i4 : (4 : Int32).toInt = 4 := by decide
  rw [Int32.lt_iff_toInt_lt] at e h2
  omega
theorem jn (hi lo : Int32) : hi.toInt64 <<< sh32 ||| (lo.toInt64 &&& 4294967295) = hi.toInt64 * 4294967296 + (if lo < 0 then lo.toInt64 + 4294967296 else lo.toInt64) := by
  have hl : lo.toInt64.toInt = lo.toInt := Int32.toInt_toInt64 lo
  have l1 := lo.le_toInt
  have l2 := lo.toInt_lt
  have hh := hi.toInt64.toBitVec.isLt
  have hlt := lo.toInt64.toBitVec.isLt
  have e0 : (0 : Int32).toInt = 0 := by decide
  have hc : lo.toInt64.toInt = lo.toInt64.toBitVec.toInt := rfl
  rw [hc, BitVec.toInt_eq_toNat_cond] at hl
  have e1 : (hi.toInt64 <<< sh32).toBitVec = hi.toInt64.toBitVec <<< 32 := by
    rw [Int64.toBitVec_shiftLeft]
    have : sh32.toBitVec.smod 64 = 32#64 := by decide
    rw [this]
    rfl
  have n1 : (hi.toInt64 <<< sh32).toBitVec.toNat = (hi.toInt64.toBitVec.toNat % 4294967296) <<< 32 := by
    rw [e1, BitVec.toNat_shiftLeft, Nat.shiftLeft_eq, Nat.shiftLeft_eq]
    omega
  have n2 : (lo.toInt64 &&& 4294967295).toBitVec.toNat = lo.toInt64.toBitVec.toNat % 4294967296 := by
    rw [Int64.toBitVec_and, BitVec.toNat_and, show (4294967295 : Int64).toBitVec.toNat = 2 ^ 32 - 1 from rfl, Nat.and_two_pow_sub_one_eq_mod]
  refine Int64.toBitVec_inj.mp (BitVec.eq_of_toNat_eq ?_)
  rw [Int64.toBitVec_or, BitVec.toNat_or, n1, n2, ← Nat.shiftLeft_add_eq_or_of_lt (by omega), Nat.shiftLeft_eq]
  have em : (4294967296 : Int64).toBitVec.toNat = 4294967296 := rfl
  by_cases q : lo < 0
  · rw [if_pos q]
    rw [Int32.lt_iff_toInt_lt, e0] at q
    rw [Int64.toBitVec_add, Int64.toBitVec_add, Int64.toBitVec_mul, BitVec.toNat_add, BitVec.toNat_add, BitVec.toNat_mul, em]
    split at hl <;> omega
  · rw [if_neg q]
    rw [Int32.lt_iff_toInt_lt, e0] at q
    rw [Int64.toBitVec_add, Int64.toBitVec_mul, BitVec.toNat_add, BitVec.toNat_mul, em]
    split at hl <;> omega
theorem ord_sg (v : Int64) : wOrder v 0 = mSign v := rfl
theorem now_set (l k : Int32) (v : Int64) (s : MS) : mNow l k (sSet l k v s) = if l = 0 then v.toInt32.toInt64 else v := by
  unfold mNow sSet
  by_cases q : l = 0
  · rw [if_pos q, if_pos q, if_pos q]
    show vp_updL (mI s) k.toNatClampNeg v.toInt32.toInt64 k.toNatClampNeg = _
    simp [vp_updL]
  · rw [if_neg q, if_neg q, if_neg q]
    show vp_updL (mL s) k.toNatClampNeg v k.toNatClampNeg = _
    simp [vp_updL]
theorem th_set (l k : Int32) (v : Int64) (s : MS) : mTh (sSet l k v s) = mTh s := by
  unfold sSet
  by_cases q : l = 0
  · rw [if_pos q]
  · rw [if_neg q]
theorem i6432 (a : Int32) : a.toInt64.toInt32 = a := by simp
end
section
/-! ARITHMETIC: what the class counts and what the model counts is one -/
theorem i64_lt (a b : Int64) : a < b ↔ a.toInt < b.toInt := Int64.lt_iff_toInt_lt
theorem neg_iff (a : Int64) : a < 0 ↔ a.toInt < 0 := by rw [i64_lt, l0]
theorem msb_neg (a : Int64) : a < 0 ↔ a.toBitVec.msb = true := by
  rw [neg_iff]
  show a.toBitVec.toInt < 0 ↔ _
  rw [BitVec.msb_eq_toInt]
  simp
theorem xor_neg (a b : Int64) : a ^^^ b < 0 ↔ ¬ (a < 0 ↔ b < 0) := by
  rw [msb_neg, msb_neg a, msb_neg b, Int64.toBitVec_xor, BitVec.msb_xor]
  cases a.toBitVec.msb <;> cases b.toBitVec.msb <;> simp
theorem and_neg (a b : Int64) : a &&& b < 0 ↔ a < 0 ∧ b < 0 := by
  rw [msb_neg, msb_neg a, msb_neg b, Int64.toBitVec_and, BitVec.msb_and]
  cases a.toBitVec.msb <;> cases b.toBitVec.msb <;> simp
theorem tmod_rng (a b : Int) : (0 ≤ a → 0 ≤ a.tmod b ∧ a.tmod b ≤ a) ∧ (a ≤ 0 → a ≤ a.tmod b ∧ a.tmod b ≤ 0) := by
  have h : (a.tmod b).natAbs ≤ a.natAbs := by
    rw [Int.natAbs_tmod]
    exact Nat.mod_le _ _
  refine ⟨fun h0 => ?_, fun h0 => ?_⟩
  · have h1 := Int.tmod_nonneg b h0
    omega
  · have h1 := Int.tmod_nonneg b (a := -a) (by omega)
    rw [Int.neg_tmod] at h1
    omega
theorem wRem_i (a b : Int64) : (wRem a b).toInt = a.toInt.tmod b.toInt := by
  have u1 := a.toInt_lt
  have u2 := a.le_toInt
  have hr := tmod_rng a.toInt b.toInt
  unfold wRem
  rw [Int64.toInt_sub, Int64.toInt_mul, Int64.toInt_div]
  simp only [Int.bmod_mul_bmod, Int.sub_bmod_bmod]
  have e2 : a.toInt - a.toInt.tdiv b.toInt * b.toInt = a.toInt.tmod b.toInt := by
    have := Int.tdiv_mul_add_tmod a.toInt b.toInt
    omega
  rw [e2]
  rcases Int.le_total 0 a.toInt with h | h
  · have := hr.1 h
    exact Int.bmod_eq_of_le (by omega) (by omega)
  · have := hr.2 h
    exact Int.bmod_eq_of_le (by omega) (by omega)
theorem wRem_0 (a b : Int64) : wRem a b = 0 ↔ a / b * b = a := by
  unfold wRem
  rw [Int64.sub_eq_iff_eq_add, Int64.zero_add]
  exact eq_comm
theorem mRest_eq {a b : Int64} (hb : ¬ b = 0) : mRest a b = wRest a b := by
  unfold mRest wRest
  rw [if_neg hb]
theorem mFloor_eq {a b : Int64} (hb : ¬ b = 0) : mFloor a b = wFloor a b := by
  unfold mFloor wFloor wFDiv
  rw [if_neg hb]
  have h2 := xor_neg a b
  by_cases q : wRem a b = 0
  · have q1 := (wRem_0 a b).mp q
    rw [if_pos q]
    by_cases q2 : a ^^^ b < 0
    · rw [if_pos q2, if_pos q1]
    · rw [if_neg q2]
  · have q1 : ¬ a / b * b = a := fun e => q ((wRem_0 a b).mpr e)
    rw [if_neg q]
    by_cases qa : a < 0
    · rw [if_pos qa]
      by_cases qb : b < 0
      · rw [if_pos qb, if_neg (fun e => (h2.mp e) ⟨fun _ => qb, fun _ => qa⟩)]
      · rw [if_neg qb, if_pos (h2.mpr (fun e => qb (e.mp qa))), if_neg q1]
    · rw [if_neg qa]
      by_cases qb : b < 0
      · rw [if_pos qb, if_pos (h2.mpr (fun e => qa (e.mpr qb))), if_neg q1]
      · rw [if_neg qb, if_neg (fun e => (h2.mp e) ⟨fun h => absurd h qa, fun h => absurd h qb⟩)]
theorem ex_sum {l : Int32} (a b : Int64) (hl : ¬ l = 0) : wExact l a b 0 = mWithin l a b 0 := by
  unfold wExact mWithin wTrue wWithin wJoin sg
  simp only [if_neg hl, if_true]
  by_cases A : a < 0 <;> by_cases B : b < 0 <;> by_cases C : a + b < 0 <;> simp [and_neg, xor_neg, A, B, C]
theorem ex_dif {l : Int32} (a b : Int64) (hl : ¬ l = 0) : wExact l a b 1 = mWithin l a b 1 := by
  have e : ¬ (1 : Int32) = 0 := by decide
  unfold wExact mWithin wTrue wWithin wJoin sg
  simp only [if_neg hl, if_neg e, if_true]
  by_cases A : a < 0 <;> by_cases B : b < 0 <;> by_cases C : a - b < 0 <;> simp [and_neg, xor_neg, A, B, C]
theorem shr32 (a : Int64) : (a >>> sh32).toInt = a.toInt / 4294967296 := by
  show (a >>> sh32).toBitVec.toInt = _
  rw [Int64.toBitVec_shiftRight, BitVec.toInt_sshiftRight', show (sh32.toBitVec.smod 64).toNat = 32 from by decide, Int.shiftRight_eq_div_pow]
  rfl
theorem tn_cond (a : Int64) : a.toInt = (a.toBitVec.toNat : Int) ∨ a.toInt = (a.toBitVec.toNat : Int) - 18446744073709551616 := by
  have e : a.toInt = a.toBitVec.toInt := rfl
  rw [e, BitVec.toInt_eq_toNat_cond]
  split
  · exact Or.inl rfl
  · exact Or.inr rfl
theorem low32 (a : Int64) : (a &&& 4294967295).toInt = a.toInt % 4294967296 := by
  have h : (a &&& 4294967295).toBitVec.toNat = a.toBitVec.toNat % 4294967296 := by
    rw [Int64.toBitVec_and, BitVec.toNat_and, show (4294967295 : Int64).toBitVec.toNat = 2 ^ 32 - 1 from rfl, Nat.and_two_pow_sub_one_eq_mod]
  rw [tni _ h (by omega)]
  rcases tn_cond a with e | e <;> rw [e] <;> omega
theorem ushr32 (a : Int64) : ((a.toUInt64 >>> ((32 : Int32).toInt64.toUInt64 &&& Int64.toUInt64 63)).toInt64).toInt = ((a.toBitVec.toNat / 4294967296 : Nat) : Int) := by
  have h : ((a.toUInt64 >>> ((32 : Int32).toInt64.toUInt64 &&& Int64.toUInt64 63)).toInt64).toBitVec.toNat = a.toBitVec.toNat / 4294967296 := by
    show (a.toUInt64 >>> ((32 : Int32).toInt64.toUInt64 &&& Int64.toUInt64 63)).toNat = _
    rw [UInt64.toNat_shiftRight]
    have : ((32 : Int32).toInt64.toUInt64 &&& Int64.toUInt64 63).toNat % 64 = 32 := by decide
    rw [this, Nat.shiftRight_eq_div_pow]
    rfl
  have hu := a.toBitVec.isLt
  exact tni _ h (by omega)
theorem mul_rng {x y X Y : Int} (h1 : -X ≤ x) (h2 : x ≤ X) (h3 : 0 ≤ y) (h4 : y ≤ Y) (hX : 0 ≤ X) : -(X * Y) ≤ x * y ∧ x * y ≤ X * Y := by
  have e1 : x * y ≤ X * y := Int.mul_le_mul_of_nonneg_right h2 h3
  have e2 : X * y ≤ X * Y := Int.mul_le_mul_of_nonneg_left h4 hX
  have e3 : (-X) * y ≤ x * y := Int.mul_le_mul_of_nonneg_right h1 h3
  rw [Int.neg_mul] at e3
  omega
theorem mul4 (x y u v K : Int) : (x * K + u) * (y * K + v) = x * y * (K * K) + x * v * K + u * y * K + u * v := by
  have e : x * K * (y * K) = x * y * (K * K) := by
    rw [Int.mul_assoc x K, ← Int.mul_assoc K y K, Int.mul_comm K y, Int.mul_assoc y K K, ← Int.mul_assoc x y]
  rw [Int.add_mul, Int.mul_add, Int.mul_add, e, Int.mul_right_comm x K v, ← Int.mul_assoc u y K]
  omega
/-- the upper half of the true product -/
theorem above_i (a b : Int64) : ∃ low : Int, 0 ≤ low ∧ low < 18446744073709551616 ∧ a.toInt * b.toInt = (mAbove a b).toInt * 18446744073709551616 + low := by
  have a1 := a.toInt_lt
  have a2 := a.le_toInt
  have b1 := b.toInt_lt
  have b2 := b.le_toInt
  have hah := shr32 a
  have hbh := shr32 b
  have hal := low32 a
  have hbl := low32 b
  generalize hx : a.toInt / 4294967296 = x at hah
  generalize hy : b.toInt / 4294967296 = y at hbh
  generalize hu : a.toInt % 4294967296 = u at hal
  generalize hv : b.toInt % 4294967296 = v at hbl
  have ru : 0 ≤ u ∧ u ≤ 4294967295 := by omega
  have rv : 0 ≤ v ∧ v ≤ 4294967295 := by omega
  have rx : -2147483648 ≤ x ∧ x ≤ 2147483648 := by omega
  have ry : -2147483648 ≤ y ∧ y ≤ 2147483648 := by omega
  have rxv := mul_rng rx.1 rx.2 rv.1 rv.2 (by decide)
  have ryu := mul_rng ry.1 ry.2 ru.1 ru.2 (by decide)
  have rx2 : x ≤ 2147483647 := by omega
  have ry2 : y ≤ 2147483647 := by omega
  have rxv2 : x * v ≤ 2147483647 * 4294967295 := by
    have e1 : x * v ≤ 2147483647 * v := Int.mul_le_mul_of_nonneg_right rx2 rv.1
    omega
  have ryu2 : y * u ≤ 2147483647 * 4294967295 := by
    have e1 : y * u ≤ 2147483647 * u := Int.mul_le_mul_of_nonneg_right ry2 ru.1
    omega
  have ruv : 0 ≤ u * v ∧ u * v ≤ 4294967295 * 4294967295 := by
    have e1 : u * v ≤ 4294967295 * v := Int.mul_le_mul_of_nonneg_right ru.2 rv.1
    have e2 : 0 ≤ u * v := Int.mul_nonneg ru.1 rv.1
    omega
  have huy : u * y = y * u := Int.mul_comm u y
  have rxy : -4611686018427387904 ≤ x * y ∧ x * y ≤ 4611686018427387904 := by
    rcases Int.le_total 0 y with h | h
    · have := mul_rng rx.1 rx.2 h ry.2 (by decide)
      omega
    · have := mul_rng rx.1 rx.2 (y := -y) (Y := 2147483648) (by omega) (by omega) (by decide)
      rw [Int.mul_neg] at this
      omega
  have eA : a.toInt * b.toInt = x * y * (4294967296 * 4294967296) + x * v * 4294967296 + u * y * 4294967296 + u * v := by
    have e1 : a.toInt = x * 4294967296 + u := by omega
    have e2 : b.toInt = y * 4294967296 + v := by omega
    rw [e1, e2]
    exact mul4 x y u v 4294967296
  have hp0 : ((a &&& 4294967295) * (b &&& 4294967295)).toBitVec.toNat = (u * v).toNat := by
    have hun := tnn _ (hal.trans (Int.toNat_of_nonneg ru.1).symm)
    have hvn := tnn _ (hbl.trans (Int.toNat_of_nonneg rv.1).symm)
    have hc : ((u.toNat * v.toNat : Nat) : Int) = u * v := by rw [Int.natCast_mul, Int.toNat_of_nonneg ru.1, Int.toNat_of_nonneg rv.1]
    rw [Int64.toBitVec_mul, BitVec.toNat_mul, hun, hvn, Nat.mod_eq_of_lt (by omega)]
    omega
  have hsh := ushr32 ((a &&& 4294967295) * (b &&& 4294967295))
  rw [hp0] at hsh
  generalize hM : (a >>> sh32) * (b &&& 4294967295) + (((a &&& 4294967295) * (b &&& 4294967295)).toUInt64 >>> ((32 : Int32).toInt64.toUInt64 &&& Int64.toUInt64 63)).toInt64 = mid
  have hm : mid.toInt = x * v + (u * v) / 4294967296 := by
    rw [← hM, Int64.toInt_add, Int64.toInt_mul, hah, hbl, hsh, Int.bmod_eq_of_le (n := x * v) (by omega) (by omega), Int.bmod_eq_of_le (by omega) (by omega)]
    omega
  have hml := low32 mid
  have hmh := shr32 mid
  generalize hO : (a &&& 4294967295) * (b >>> sh32) + (mid &&& 4294967295) = oth
  have ho : oth.toInt = y * u + mid.toInt % 4294967296 := by
    rw [← hO, Int64.toInt_add, Int64.toInt_mul, hal, hbh, hml, huy, Int.bmod_eq_of_le (n := y * u) (by omega) (by omega), Int.bmod_eq_of_le (by omega) (by omega)]
  have hoh := shr32 oth
  have hR : (mAbove a b).toInt = x * y + mid.toInt / 4294967296 + oth.toInt / 4294967296 := by
    unfold mAbove
    rw [hM, hO, Int64.toInt_add, Int64.toInt_add, Int64.toInt_mul, hah, hbh, hmh, hoh, Int.bmod_eq_of_le (n := x * y) (by omega) (by omega), Int.bmod_eq_of_le (n := x * y + mid.toInt / 4294967296) (by omega) (by omega), Int.bmod_eq_of_le (by omega) (by omega)]
  refine ⟨oth.toInt % 4294967296 * 4294967296 + (u * v) % 4294967296, by omega, by omega, ?_⟩
  rw [eA, hR, huy]
  omega
end
section
/-! ARITHMETIC: which results are exact; averages -/
theorem bm_c (x : Int) : (x.bmod (2 ^ 64) = x % 18446744073709551616 ∧ x % 18446744073709551616 < 9223372036854775808) ∨ (x.bmod (2 ^ 64) = x % 18446744073709551616 - 18446744073709551616 ∧ 9223372036854775808 ≤ x % 18446744073709551616) := by
  rw [Int.bmod_def]
  split
  · exact Or.inl ⟨by omega, by omega⟩
  · exact Or.inr ⟨by omega, by omega⟩
theorem lm1 : (-1 : Int64).toInt = -1 := by decide
theorem lmin : (-9223372036854775808 : Int64).toInt = -9223372036854775808 := by decide
theorem prod_m (a b : Int64) : mAbove a b = (if a * b < 0 then -1 else 0 : Int32).toInt64 ↔ (a * b).toInt = a.toInt * b.toInt := by
  obtain ⟨low, h1, h2, h3⟩ := above_i a b
  have hr := bm_c (a.toInt * b.toInt)
  rw [← Int64.toInt_mul] at hr
  generalize a.toInt * b.toInt = P at h3 hr
  have e : mAbove a b = (if a * b < 0 then -1 else 0 : Int32).toInt64 ↔ (mAbove a b).toInt = if (a * b).toInt < 0 then -1 else 0 := by
    rw [← Int64.toInt_inj]
    by_cases q : a * b < 0
    · rw [if_pos q, if_pos ((neg_iff _).mp q)]
      rfl
    · rw [if_neg q, if_neg (fun e => q ((neg_iff _).mpr e))]
      rfl
  rw [e]
  split <;> omega
theorem tdiv_rng {r b : Int} (h1 : -9223372036854775808 ≤ r) (h2 : r ≤ 9223372036854775807) (hb : b ≠ 0) (hb1 : b ≠ -1) : -9223372036854775808 ≤ r.tdiv b ∧ r.tdiv b ≤ 9223372036854775807 := by
  by_cases q : b = 1
  · subst q
    rw [Int.tdiv_one]
    exact ⟨h1, h2⟩
  · have e := Int.natAbs_tdiv r b
    have h3 : r.natAbs.div b.natAbs ≤ r.natAbs / 2 := Nat.div_le_div_left (by omega) (by decide)
    rw [← e] at h3
    generalize r.tdiv b = Z at *
    omega
theorem n20 : ¬ (2 : Int32) = 0 := by decide
theorem n21 : ¬ (2 : Int32) = 1 := by decide
theorem n10 : ¬ (1 : Int32) = 0 := by decide
theorem n01 : ¬ (0 : Int32) = 1 := by decide
theorem prod_x (a b : Int64) : wTrue a b 2 (a * b) = 1 ↔ (a * b).toInt = a.toInt * b.toInt := by
  have a1 := a.toInt_lt
  have a2 := a.le_toInt
  have r1 := (a * b).toInt_lt
  have r2 := (a * b).le_toInt
  have hr := bm_c (a.toInt * b.toInt)
  rw [← Int64.toInt_mul] at hr
  unfold wTrue
  rw [if_neg (by decide), if_neg (by decide)]
  by_cases q0 : b = 0
  · subst q0
    rw [if_pos rfl, l0, Int.mul_zero] at *
    refine ⟨fun _ => ?_, fun _ => rfl⟩
    omega
  · rw [if_neg q0]
    have q0i : b.toInt ≠ 0 := fun e => q0 (Int64.toInt_inj.mp (e.trans l0.symm))
    by_cases q1 : b = -1
    · subst q1
      rw [if_pos rfl]
      rw [lm1] at hr ⊢
      by_cases q2 : a = -9223372036854775808
      · rw [if_pos q2]
        have := congrArg Int64.toInt q2
        rw [lmin] at this
        refine ⟨fun e => absurd e (by decide), fun e => ?_⟩
        omega
      · rw [if_neg q2]
        have : a.toInt ≠ -9223372036854775808 := fun e => q2 (Int64.toInt_inj.mp (e.trans lmin.symm))
        refine ⟨fun _ => ?_, fun _ => rfl⟩
        omega
    · rw [if_neg q1]
      have q1i : b.toInt ≠ -1 := fun e => q1 (Int64.toInt_inj.mp (e.trans lm1.symm))
      have hd : (a * b / b).toInt = (a * b).toInt.tdiv b.toInt := by
        have := tdiv_rng (r := (a * b).toInt) (b := b.toInt) (by omega) (by omega) q0i q1i
        rw [Int64.toInt_div]
        exact Int.bmod_eq_of_le (by omega) (by omega)
      have hm : ((a * b).toInt.tmod b.toInt).natAbs < b.toInt.natAbs := by
        rw [Int.natAbs_tmod]
        exact Nat.mod_lt _ (by omega)
      have hs := Int.tdiv_mul_add_tmod (a * b).toInt b.toInt
      have b1 := b.toInt_lt
      have b2 := b.le_toInt
      by_cases q2 : a * b / b = a
      · rw [if_pos q2]
        have e2 := congrArg Int64.toInt q2
        rw [hd] at e2
        rw [e2] at hs
        refine ⟨fun _ => ?_, fun _ => rfl⟩
        generalize a.toInt * b.toInt = Q at *
        omega
      · rw [if_neg q2]
        refine ⟨fun e => absurd e (by decide), fun e => ?_⟩
        refine absurd (Int64.toInt_inj.mp ?_) q2
        rw [hd, e]
        exact Int.mul_tdiv_cancel _ q0i
theorem wTrue_01 (a b : Int64) (w : Int32) (r : Int64) : wTrue a b w r = 0 ∨ wTrue a b w r = 1 := by
  unfold wTrue
  repeat' split
  all_goals first | exact Or.inl rfl | exact Or.inr rfl
theorem ex_pro {l : Int32} (a b : Int64) (hl : ¬ l = 0) : wExact l a b 2 = mWithin l a b 2 := by
  have e1 := prod_x a b
  have e2 := prod_m a b
  unfold wExact mWithin wWithin wJoin
  simp only [if_neg n20, if_neg n21, if_neg hl]
  rcases wTrue_01 a b 2 (a * b) with h | h
  · simp only [h, if_true]
    rw [if_neg (fun e => absurd (e1.mpr (e2.mp e)) (by rw [h]; decide))]
  · simp only [h, if_neg n10]
    rw [if_pos (e2.mpr (e1.mp h))]
def inI (a : Int64) : Prop := -2147483648 ≤ a.toInt ∧ a.toInt < 2147483648
theorem true_int {a b : Int64} (ha : inI a) (hb : inI b) (w : Int32) : wTrue a b w (wJoin a b w) = 1 := by
  obtain ⟨a1, a2⟩ := ha
  obtain ⟨b1, b2⟩ := hb
  by_cases q0 : w = 0
  · subst q0
    have hr : (a + b).toInt = a.toInt + b.toInt := by
      rw [Int64.toInt_add]
      exact Int.bmod_eq_of_le (by omega) (by omega)
    unfold wTrue wJoin
    simp only [if_true]
    rw [if_neg]
    rw [and_neg, xor_neg, xor_neg, neg_iff, neg_iff, neg_iff, hr]
    omega
  · by_cases q1 : w = 1
    · subst q1
      have hr : (a - b).toInt = a.toInt - b.toInt := by
        rw [Int64.toInt_sub]
        exact Int.bmod_eq_of_le (by omega) (by omega)
      unfold wTrue wJoin
      simp only [if_neg n10, if_true]
      rw [if_neg]
      rw [and_neg, xor_neg, xor_neg, neg_iff, neg_iff, neg_iff, hr]
      omega
    · have hp : wTrue a b w (wJoin a b w) = wTrue a b 2 (a * b) := by
        unfold wTrue wJoin
        simp only [if_neg q0, if_neg q1, if_neg n20, if_neg n21]
      rw [hp, prod_x, Int64.toInt_mul]
      have := mul_rng (x := a.toInt) (y := b.toInt.natAbs) (X := 2147483648) (Y := 2147483648) (by omega) (by omega) (by omega) (by omega) (by decide)
      have e : a.toInt * b.toInt = a.toInt * (b.toInt.natAbs : Int) ∨ a.toInt * b.toInt = -(a.toInt * (b.toInt.natAbs : Int)) := by
        rcases Int.le_total 0 b.toInt with h | h
        · exact Or.inl (by rw [Int.natAbs_of_nonneg h])
        · refine Or.inr ?_
          rw [← Int.mul_neg]
          congr 1
          omega
      exact Int.bmod_eq_of_le (by omega) (by omega)
theorem ex_all {l : Int32} {a b : Int64} (h : l = 0 → inI a ∧ inI b) (w : Int32) : wExact l a b w = mWithin l a b w := by
  by_cases hl : l = 0
  · have ht := true_int (h hl).1 (h hl).2 w
    unfold wExact mWithin wWithin
    rw [ht]
    simp only [if_neg n10, if_pos hl]
    by_cases q : wJoin a b w = (wJoin a b w).toInt32.toInt64
    · simp only [if_pos q, if_neg n10]
    · simp only [if_neg q, if_true]
  · by_cases q0 : w = 0
    · subst q0
      exact ex_sum a b hl
    · by_cases q1 : w = 1
      · subst q1
        exact ex_dif a b hl
      · have := ex_pro a b hl
        unfold wExact mWithin wTrue wJoin at this ⊢
        simp only [if_neg n20, if_neg n21, if_neg hl] at this
        simp only [if_neg q0, if_neg q1, if_neg hl]
        exact this
end
section
/-! WHAT HOLDS BETWEEN THE CLASS'S STATE AND THE MODEL'S; the numbers' methods keep it and answer alike -/
def rt (v : Int64) : Prop := v.toInt32.toInt64 = v
theorem rt_I (a : Int32) : rt a.toInt64 := by
  unfold rt
  rw [i6432]
theorem rt_iff (v : Int64) : rt v ↔ inI v := by
  unfold rt inI
  constructor
  · intro h
    have h1 := v.toInt32.toInt_lt
    have h2 := v.toInt32.le_toInt
    rw [← Int32.toInt_toInt64, h] at h1 h2
    omega
  · intro h
    rw [← Int64.toInt_inj, Int32.toInt_toInt64, Int64.toInt_toInt32]
    exact Int.bmod_eq_of_le (by omega) (by omega)
theorem rt_rt (v : Int64) : rt v.toInt32.toInt64 := rt_I _
def Rel (x : XS) (s : MS) : Prop := xI x = mI s ∧ xL x = mL s ∧ (∀ j, rt (mI s j)) ∧ xM x = mM s ∧ (∀ j, ¬ mM s j = 0) ∧ (∀ i j : Nat, i < 3 → j < 4 → xR x (4 * i + j) = mR s i j) ∧ xF x = mF s ∧ xK x = mK s
theorem n4_iff (k : Int32) : ok4 k ↔ n4 k := ⟨ok4_n4, n4_ok⟩
theorem n3_iff (k : Int32) : ok3 k ↔ n3 k := by
  refine ⟨fun h => ⟨h.1, fun e => ?_⟩, n3_ok⟩
  have h2 := h.2
  have i3 : (3 : Int32).toInt = 3 := by decide
  have i2 : (2 : Int32).toInt = 2 := by decide
  rw [Int32.lt_iff_toInt_lt] at e h2
  omega
def agI (cd : Nat → Int32) (o : Out) (mo : MO) : Prop := match o.1 with
  | .inl v => mTh mo.2 = 0 ∧ v = mo.1
  | .inr E => mTh mo.2 = cd E
/-- the same answer, and afterwards the same state -/
def AR (o : Out) (mo : MO) : Prop := Rel o.2 mo.2 ∧ agI cd2 o mo
theorem rel_T {x : XS} {s : MS} (h : Rel x s) (v : Int32) : Rel x (sT v s) := h
theorem AR_gd {c c' : Prop} [Decidable c] [Decidable c'] {x : XS} {s : MS} {r : Out} {r' : MO} (hc : c ↔ c') (h : Rel x s) (hr : c → AR r r') : AR (nd c 0 x r) (gd c' s r') := by
  unfold nd gd
  by_cases q : c
  · rw [if_pos q, if_pos (hc.mp q)]
    exact hr q
  · rw [if_neg q, if_neg (fun e => q (hc.mpr e))]
    exact ⟨rel_T h 1, rfl⟩
theorem AR_rf {c : Prop} [Decidable c] {x : XS} {s : MS} {r : Out} {r' : MO} (h : Rel x s) (hr : c → AR r r') : AR (nd c 1 x r) (rf c s r') := by
  unfold nd rf
  by_cases q : c
  · rw [if_pos q, if_pos q]
    exact hr q
  · rw [if_neg q, if_neg q]
    exact ⟨rel_T h 2, rfl⟩
theorem nd_nd {c d : Prop} [Decidable c] [Decidable d] {E : Nat} {x : XS} {r : Out} : nd c E x (nd d E x r) = nd (c ∧ d) E x r := by
  unfold nd
  by_cases q : c <;> by_cases q2 : d <;> simp [q, q2]
theorem nd_yes {c : Prop} [Decidable c] {E : Nat} {x : XS} {r : Out} (h : c) : nd c E x r = r := if_pos h
theorem updL_same (f : Nat → Int64) (i : Nat) : vp_updL f i (f i) = f := by
  funext j
  unfold vp_updL
  split
  · rename_i e
    rw [e]
  · rfl
theorem updL_rt {f : Nat → Int64} (h : ∀ j, rt (f j)) (i : Nat) {v : Int64} (hv : rt v) : ∀ j, rt (vp_updL f i v j) := fun j => by
  unfold vp_updL
  split
  · exact hv
  · exact h j
theorem gone_rt {l : Int32} (v : Int64) (h : l = 0) : rt (wGone l v) := by
  unfold wGone
  rw [if_pos h]
  exact rt_rt v
theorem set_gone (l k : Int32) (v : Int64) (s : MS) : sSet l k (wGone l v) s = sSet l k v s := by
  unfold sSet wGone
  by_cases q : l = 0
  · rw [if_pos q, if_pos q, if_pos q, i6432]
  · rw [if_neg q, if_neg q, if_neg q]
theorem rel_set {x : XS} {s : MS} (h : Rel x s) (l k : Int32) {v : Int64} (hv : l = 0 → rt v) : Rel (xSet l k v x) (sSet l k v s) := by
  obtain ⟨h1, h2, h3, h4⟩ := h
  unfold xSet sSet
  by_cases q : l = 0
  · rw [if_pos q, if_pos q]
    have hv := hv q
    refine ⟨?_, h2, ?_, h4⟩
    · show vp_updL (xI x) _ v = vp_updL (mI s) _ v.toInt32.toInt64
      rw [h1, hv]
    · exact updL_rt h3 _ (rt_rt v)
  · rw [if_neg q, if_neg q]
    refine ⟨h1, ?_, h3, h4⟩
    show vp_updL (xL x) _ v = vp_updL (mL s) _ v
    rw [h2]
theorem AR_set {x : XS} {s : MS} (h : Rel x s) (h0 : mTh s = 0) (l k : Int32) {v : Int64} (hv : l = 0 → rt v) {a : Int32} : AR (.inl a, xSet l k v x) (a, sSet l k v s) := ⟨rel_set h l k hv, (th_set l k v s).trans h0, rfl⟩
theorem AR_val {x : XS} {s : MS} (h : Rel x s) (h0 : mTh s = 0) {a b : Int32} (e : a = b) : AR (.inl a, x) (b, s) := ⟨h, h0, e⟩
theorem now_set2 (l k : Int32) {v : Int64} (hv : l = 0 → rt v) (s : MS) : mNow l k (sSet l k v s) = v := by
  rw [now_set]
  by_cases q : l = 0
  · rw [if_pos q]
    exact hv q
  · rw [if_neg q]
theorem AR_become {x : XS} {s : MS} (h : Rel x s) (h0 : mTh s = 0) (l k : Int32) {v : Int64} (hv : l = 0 → rt v) : AR (.inl (wOrder v 0), xSet l k v x) (mBecome l k v s) := by
  refine ⟨rel_set h l k hv, (th_set l k v s).trans h0, ?_⟩
  show wOrder v 0 = mSign (mNow l k (sSet l k v s))
  rw [now_set2 l k hv, ord_sg]
theorem AR_keep {x : XS} {s : MS} (h : Rel x s) (h0 : mTh s = 0) (l : Int32) {k : Int32} (hk : ok4 k) {v : Int64} (hv : l = 0 → rt v) : AR (xKeep l k v x) (mBecome l k v s) := by
  unfold xKeep
  rw [nd_yes hk]
  exact AR_become h h0 l k hv
theorem AR_keepR {x : XS} {s : MS} (h : Rel x s) (h0 : mTh s = 0) (l : Int32) {k : Int32} (hk : ok4 k) (v : Int64) : AR (xKeepR l k v x) (mBecome l k v s) := by
  have := AR_keep h h0 l hk (v := wGone l v) (fun q => gone_rt v q)
  unfold mBecome at this
  rw [set_gone] at this
  exact this
theorem AR_no {x : XS} {s : MS} (h : Rel x s) (h0 : mTh s = 0) : AR (xRefuse x) (mNo s) := by
  obtain ⟨h1, h2, h3, h4, h5, h6, h7, h8⟩ := h
  refine ⟨⟨h1, h2, h3, h4, h5, h6, ?_, h8⟩, h0, rfl⟩
  show xF x + 1 = mF s + 1
  rw [h7]
theorem num_now {x : XS} {s : MS} (h : Rel x s) (l k : Int32) : xNum l k x = mNow l k s := by
  unfold xNum mNow
  rw [h.1, h.2.1]
theorem now_rt {x : XS} {s : MS} (h : Rel x s) {l : Int32} (k : Int32) (hl : l = 0) : rt (mNow l k s) := by
  unfold mNow
  rw [if_pos hl]
  exact h.2.2.1 _
theorem now0 (k : Int32) (s : MS) : mNow 0 k s = mI s k.toNatClampNeg := rfl
theorem now1 (k : Int32) (s : MS) : mNow 1 k s = mL s k.toNatClampNeg := rfl
theorem AR_ite {c c' : Prop} [Decidable c] [Decidable c'] {a b : Out} {a' b' : MO} (hc : c ↔ c') (ha : c → AR a a') (hb : ¬ c → AR b b') : AR (if c then a else b) (if c' then a' else b') := by
  by_cases q : c
  · rw [if_pos q, if_pos (hc.mp q)]
    exact ha q
  · rw [if_neg q, if_neg (fun e => q (hc.mpr e))]
    exact hb q
theorem n44 (k f : Int32) : (ok4 f ∧ ok4 k) ↔ (n4 k ∧ n4 f) := by
  rw [n4_iff, n4_iff]
  exact And.comm
theorem n44' (k f : Int32) : (ok4 k ∧ ok4 f) ↔ (n4 k ∧ n4 f) := by rw [n4_iff, n4_iff]
section REL
variable {x : XS} {s : MS}
theorem ra_put (h : Rel x s) (l k hi lo : Int32) : AR (xPut l k hi lo x) (m_put l k hi lo s) := by
  unfold xPut m_put xKeep
  refine AR_gd (n4_iff k) h (fun _ => ?_)
  rw [jn]
  exact AR_become (rel_T h 0) rfl l k (fun q => by rw [if_pos q]; exact rt_I lo)
theorem ra_copy (h : Rel x s) (l k f : Int32) : AR (xCopy l k f x) (m_copy l k f s) := by
  unfold xCopy m_copy xKeep
  rw [nd_nd, num_now h]
  exact AR_gd (n44 k f) h (fun _ => AR_become (rel_T h 0) rfl l k (fun q => now_rt h f q))
theorem ra_widen (h : Rel x s) (k f : Int32) : AR (xWiden k f x) (m_widen k f s) := by
  unfold xWiden m_widen xKeep
  rw [nd_nd, num_now h]
  exact AR_gd (n44 k f) h (fun _ => AR_become (rel_T h 0) rfl 1 k (fun q => absurd q n10))
theorem ra_narrow (h : Rel x s) (k f : Int32) : AR (xNarrow k f x) (m_narrow k f s) := by
  unfold xNarrow m_narrow
  rw [nd_nd, num_now h, now1]
  refine AR_gd (n44' k f) h (fun hk => ?_)
  have e : wWithin 0 (mL s f.toNatClampNeg) = 0 ↔ ¬ (mL s f.toNatClampNeg = (mL s f.toNatClampNeg).toInt32.toInt64) := by
    unfold wWithin
    rw [if_pos rfl]
    by_cases q : mL s f.toNatClampNeg = (mL s f.toNatClampNeg).toInt32.toInt64
    · rw [if_pos q]
      exact ⟨fun e => absurd e n10, fun e => absurd q e⟩
    · rw [if_neg q]
      exact ⟨fun _ => q, fun _ => rfl⟩
  by_cases q : mL s f.toNatClampNeg = (mL s f.toNatClampNeg).toInt32.toInt64
  · rw [if_neg (fun e2 => (e.mp e2) q)]
    refine Eq.subst (motive := fun z => AR (xKeep 0 k (mL s f.toNatClampNeg) x) z) (if_pos q).symm ?_
    exact AR_keep (rel_T h 0) rfl 0 hk.1 (fun _ => q.symm)
  · rw [if_pos (e.mpr q)]
    refine Eq.subst (motive := fun z => AR (xRefuse x) z) (if_neg q).symm ?_
    exact AR_no (rel_T h 0) rfl
theorem wi_0 {l : Int32} {a b : Int64} {w : Int32} (h : l = 0) (e : ¬ mWithin l a b w = 0) : rt (wJoin a b w) := by
  unfold mWithin at e
  rw [if_pos h] at e
  by_cases q : wJoin a b w = (wJoin a b w).toInt32.toInt64
  · exact q.symm
  · rw [if_neg q] at e
    exact absurd rfl e
theorem AR_keepE (h : Rel x s) (h0 : mTh s = 0) (l : Int32) {k : Int32} (hk : ok4 k) {a b : Int64} (hi : l = 0 → inI a ∧ inI b) (w : Int32) : AR (xKeepE l k a b w x) (if mWithin l a b w = 0 then mNo s else mBecome l k (wJoin a b w) s) := by
  unfold xKeepE
  rw [ex_all hi w]
  exact AR_ite Iff.rfl (fun _ => AR_no h h0) (fun q => AR_keep h h0 l hk (fun q2 => wi_0 q2 q))
theorem in_now (h : Rel x s) {l : Int32} (k f : Int32) (hl : l = 0) : inI (mNow l k s) ∧ inI (mNow l f s) := ⟨(rt_iff _).mp (now_rt h k hl), (rt_iff _).mp (now_rt h f hl)⟩
theorem ra_exact (h : Rel x s) (l k f w : Int32) : AR (xExact l k f w x) (m_exact l k f w s) := by
  unfold xExact m_exact
  rw [nd_nd, num_now h, num_now h]
  refine AR_gd (n44' k f) h (fun hk => AR_rf (rel_T h 0) (fun _ => ?_))
  exact AR_keepE (rel_T h 0) rfl l hk.1 (fun q => in_now h k f q) w
theorem ra_fits (h : Rel x s) (l k f w : Int32) : AR (xFits l k f w x) (m_fits l k f w s) := by
  unfold xFits m_fits
  rw [nd_nd, num_now h, num_now h]
  refine AR_gd (n44' k f) h (fun hk => AR_rf (rel_T h 0) (fun _ => ?_))
  refine AR_val (rel_T h 0) rfl ?_
  rw [ex_all (fun q => in_now h k f q) w]
  show mWithin l (mNow l k s) (mNow l f s) w = if mWithin l (mNow l k s) (mNow l f s) w = 0 then 0 else 1
  generalize mNow l k s = a
  generalize mNow l f s = b
  unfold mWithin
  repeat' split
  all_goals first | rfl | (rename_i e; exact absurd e n10) | (rename_i e; exact absurd rfl e)
theorem ra_round (h : Rel x s) (l k f w : Int32) : AR (xRound l k f w x) (m_round l k f w s) := by
  unfold xRound m_round
  rw [nd_nd, num_now h, num_now h]
  refine AR_gd (n44' k f) h (fun hk => AR_rf (rel_T h 0) (fun _ => ?_))
  exact AR_keepR (rel_T h 0) rfl l hk.1 _
theorem ra_alone (h : Rel x s) (l k w : Int32) : AR (xAlone l k w x) (m_alone l k w s) := by
  unfold xAlone m_alone
  rw [num_now h]
  refine AR_gd (n4_iff k) h (fun hk => AR_rf (rel_T h 0) (fun hw => ?_))
  have i0 : inI 0 := ⟨by decide, by decide⟩
  have i1 : inI 1 := ⟨by decide, by decide⟩
  refine AR_ite Iff.rfl (fun q => ?_) (fun q => ?_)
  · have := AR_keepE (rel_T h 0) rfl l hk (a := 0) (b := mNow l k s) (fun q => ⟨i0, (in_now h k k q).1⟩) 1
    have e : wJoin 0 (mNow l k s) 1 = -(mNow l k s) := by
      unfold wJoin
      rw [if_neg n10, if_pos rfl]
      exact Int64.zero_sub _
    rw [e] at this
    exact this
  · have e : (if w = 0 then 0 else 1 : Int32) = w := by
      have h1 := hw.1
      have h2 := hw.2
      rw [Int32.lt_iff_toInt_lt] at h1 h2
      have e2 : (2 : Int32).toInt = 2 := by decide
      have e1 : (1 : Int32).toInt = 1 := by decide
      have e0 : (0 : Int32).toInt = 0 := by decide
      have q3 : ¬ w.toInt = 2 := fun e => q (Int32.toInt_inj.mp (e.trans e2.symm))
      by_cases q4 : w = 0
      · rw [if_pos q4, q4]
      · rw [if_neg q4]
        have q5 : ¬ w.toInt = 0 := fun e => q4 (Int32.toInt_inj.mp (e.trans e0.symm))
        exact Int32.toInt_inj.mp (by omega)
    rw [e]
    exact AR_keepE (rel_T h 0) rfl l hk (fun q => ⟨(in_now h k k q).1, i1⟩) w
theorem ra_timesInt (h : Rel x s) (k f : Int32) : AR (xTimesInt k f x) (m_timesInt k f s) := by
  unfold xTimesInt m_timesInt
  rw [nd_nd, num_now h, num_now h]
  refine AR_gd (n44' k f) h (fun hk => ?_)
  exact AR_keepE (rel_T h 0) rfl 1 hk.1 (fun q => absurd q n10) 2
theorem n444 (k f g : Int32) : ((ok4 f ∧ ok4 g) ∧ ok4 k) ↔ (n4 k ∧ n4 f ∧ n4 g) := by
  rw [n4_iff, n4_iff, n4_iff]
  exact ⟨fun ⟨⟨a, b⟩, c⟩ => ⟨c, a, b⟩, fun ⟨a, b, c⟩ => ⟨⟨b, c⟩, a⟩⟩
theorem ra_full (h : Rel x s) (k f g : Int32) : AR (xFull k f g x) (m_full k f g s) := by
  unfold xFull m_full xKeep
  rw [nd_nd, nd_nd, num_now h, num_now h]
  exact AR_gd (n444 k f g) h (fun _ => AR_become (rel_T h 0) rfl 1 k (fun q => absurd q n10))
theorem upper1 (a b : Int64) : wUpper 1 a b = mAbove a b := by
  unfold wUpper mAbove
  rw [if_neg n10]
theorem ra_high (h : Rel x s) (k f g : Int32) : AR (xHigh k f g x) (m_high k f g s) := by
  unfold xHigh m_high xKeep
  rw [nd_nd, nd_nd, num_now h, num_now h, upper1]
  exact AR_gd (n444 k f g) h (fun _ => AR_become (rel_T h 0) rfl 1 k (fun q => absurd q n10))
theorem ra_compare (h : Rel x s) (l k f : Int32) : AR (xCompare l k f x) (m_compare l k f s) := by
  unfold xCompare m_compare
  rw [nd_nd, num_now h, num_now h]
  refine AR_gd (n44' k f) h (fun hk => ?_)
  show AR (.inl (wOrder (mNow l k s) (mNow l f s)), x) (if mNow l k s < mNow l f s then (-1, sT 0 s) else if mNow l f s < mNow l k s then (1, sT 0 s) else (0, sT 0 s))
  unfold wOrder
  split
  · exact AR_val (rel_T h 0) rfl rfl
  · split <;> exact AR_val (rel_T h 0) rfl rfl
theorem ra_abs (h : Rel x s) (l k : Int32) : AR (xAbs l k x) (m_abs l k s) := by
  unfold xAbs m_abs
  rw [num_now h]
  refine AR_gd (n4_iff k) h (fun hk => ?_)
  show AR (xKeepR l k (lAbs (mNow l k s)) x) (if mNow l k s < 0 then mBecome l k (-(mNow l k s)) (sT 0 s) else (mSign (mNow l k s), sT 0 s))
  unfold lAbs
  by_cases q : mNow l k s < 0
  · rw [if_pos q, if_pos q]
    exact AR_keepR (rel_T h 0) rfl l hk _
  · rw [if_neg q, if_neg q]
    have e : sSet l k (mNow l k s) (sT 0 s) = sT 0 s := by
      unfold sSet mNow
      by_cases q2 : l = 0
      · have e2 : (mI s k.toNatClampNeg).toInt32.toInt64 = mI s k.toNatClampNeg := h.2.2.1 _
        rw [if_pos q2, if_pos q2, e2]
        show (_, vp_updL (mI s) _ _, _) = _
        rw [updL_same]
        rfl
      · rw [if_neg q2, if_neg q2]
        show (_, _, vp_updL (mL s) _ _, _) = _
        rw [updL_same]
        rfl
    have := AR_keepR (rel_T h 0) rfl l hk (mNow l k s)
    unfold mBecome at this
    rw [e] at this
    exact this
end REL
end
section
/-! averages, divisions, chains: the class and the model agree -/
theorem nat_pair : ∀ (n x y : Nat), x < 2 ^ n → y < 2 ^ n → x + y = 2 * (x &&& y) + (x ^^^ y) ∧ (x ||| y) = (x &&& y) + (x ^^^ y)
  | 0, x, y, hx, hy => by
    have h1 : x = 0 := by omega
    have h2 : y = 0 := by omega
    subst h1
    subst h2
    decide
  | n + 1, x, y, hx, hy => by
    rw [Nat.pow_succ] at hx hy
    obtain ⟨h1, h2⟩ := nat_pair n (x / 2) (y / 2) (by omega) (by omega)
    rw [← Nat.and_div_two, ← Nat.xor_div_two] at h1
    rw [← Nat.and_div_two, ← Nat.xor_div_two, ← Nat.or_div_two] at h2
    have a1 := Nat.and_mod_two_pow (a := x) (b := y) (n := 1)
    have a2 := Nat.xor_mod_two_pow (a := x) (b := y) (n := 1)
    have a3 := Nat.or_mod_two_pow (a := x) (b := y) (n := 1)
    have c1 : x % 2 = 0 ∨ x % 2 = 1 := by omega
    have c2 : y % 2 = 0 ∨ y % 2 = 1 := by omega
    rw [Nat.pow_one] at a1 a2 a3
    rcases c1 with c1 | c1 <;> rcases c2 with c2 | c2 <;> rw [c1, c2] at a1 a2 a3 <;> simp only [Nat.reduceAnd, Nat.reduceXor, Nat.reduceOr] at a1 a2 a3 <;> omega
theorem nat_and2 (x y : Nat) : (x &&& y) % 2 = 1 ↔ x % 2 = 1 ∧ y % 2 = 1 := by
  have a1 := Nat.and_mod_two_pow (a := x) (b := y) (n := 1)
  rw [Nat.pow_one] at a1
  have c1 : x % 2 = 0 ∨ x % 2 = 1 := by omega
  have c2 : y % 2 = 0 ∨ y % 2 = 1 := by omega
  rcases c1 with c1 | c1 <;> rcases c2 with c2 | c2 <;> rw [c1, c2] at a1 <;> simp only [Nat.reduceAnd] at a1 <;> omega
theorem msb_n (a : Int64) : (a.toBitVec.msb = true ∧ a.toInt = (a.toBitVec.toNat : Int) - 18446744073709551616) ∨ (a.toBitVec.msb = false ∧ a.toInt = (a.toBitVec.toNat : Int)) := by
  have e : a.toInt = a.toBitVec.toInt := rfl
  rw [e, BitVec.toInt_eq_msb_cond]
  cases a.toBitVec.msb
  · exact Or.inr ⟨rfl, rfl⟩
  · exact Or.inl ⟨rfl, rfl⟩
/-- a sum, a pair's common bits, its differing bits -/
theorem pair_i (a b : Int64) : a.toInt + b.toInt = 2 * (a &&& b).toInt + (a ^^^ b).toInt ∧ (a ||| b).toInt = (a &&& b).toInt + (a ^^^ b).toInt ∧ ((a &&& b).toInt % 2 = 1 ↔ a.toInt % 2 = 1 ∧ b.toInt % 2 = 1) := by
  have h := nat_pair 64 _ _ a.toBitVec.isLt b.toBitVec.isLt
  have h2 := nat_and2 a.toBitVec.toNat b.toBitVec.toNat
  rw [← BitVec.toNat_and, ← Int64.toBitVec_and] at h h2
  rw [← BitVec.toNat_xor, ← BitVec.toNat_or, ← Int64.toBitVec_xor, ← Int64.toBitVec_or] at h
  have m1 := msb_n a
  have m2 := msb_n b
  have m3 := msb_n (a &&& b)
  have m4 := msb_n (a ^^^ b)
  have m5 := msb_n (a ||| b)
  rw [show (a &&& b).toBitVec.msb = (a.toBitVec.msb && b.toBitVec.msb) by rw [Int64.toBitVec_and, BitVec.msb_and]] at m3
  rw [show (a ^^^ b).toBitVec.msb = (a.toBitVec.msb ^^ b.toBitVec.msb) by rw [Int64.toBitVec_xor, BitVec.msb_xor]] at m4
  rw [show (a ||| b).toBitVec.msb = (a.toBitVec.msb || b.toBitVec.msb) by rw [Int64.toBitVec_or, BitVec.msb_or]] at m5
  generalize (a &&& b).toBitVec.toNat = A at *
  generalize (a ^^^ b).toBitVec.toNat = X at *
  generalize (a ||| b).toBitVec.toNat = O at *
  rcases m1 with ⟨p1, m1⟩ | ⟨p1, m1⟩ <;> rcases m2 with ⟨p2, m2⟩ | ⟨p2, m2⟩ <;> rw [p1, p2] at m3 m4 m5 <;> simp at m3 m4 m5 <;> rw [m1, m2, m3, m4, m5] <;> omega
theorem shr1 (a : Int64) : (a >>> ((1 : Int32).toInt64 &&& 63)).toInt = a.toInt / 2 := by
  show (a >>> ((1 : Int32).toInt64 &&& 63)).toBitVec.toInt = _
  rw [Int64.toBitVec_shiftRight, BitVec.toInt_sshiftRight', show (((1 : Int32).toInt64 &&& 63).toBitVec.smod 64).toNat = 1 from by decide, Int.shiftRight_eq_div_pow]
  rfl
theorem and1 (a : Int64) : (a &&& 1).toInt = a.toInt % 2 := by
  have h : (a &&& 1).toBitVec.toNat = a.toBitVec.toNat % 2 := by
    rw [Int64.toBitVec_and, BitVec.toNat_and, show (1 : Int64).toBitVec.toNat = 2 ^ 1 - 1 from rfl, Nat.and_two_pow_sub_one_eq_mod]
  rw [tni _ h (by omega)]
  rcases tn_cond a with e | e <;> rw [e] <;> omega
theorem avg0 (a b : Int64) : (wAvg a b 0).toInt = (a.toInt + b.toInt) / 2 := by
  obtain ⟨h1, h2, h3⟩ := pair_i a b
  have a1 := a.toInt_lt
  have a2 := a.le_toInt
  have b1 := b.toInt_lt
  have b2 := b.le_toInt
  unfold wAvg
  rw [if_pos rfl, Int64.toInt_add, shr1, Int.bmod_eq_of_le (by omega) (by omega)]
  omega
theorem avg1 (a b : Int64) {u : Int32} (hu : ¬ u = 0) : (wAvg a b u).toInt = (a.toInt + b.toInt + 1) / 2 := by
  obtain ⟨h1, h2, h3⟩ := pair_i a b
  have a1 := a.toInt_lt
  have a2 := a.le_toInt
  have b1 := b.toInt_lt
  have b2 := b.le_toInt
  unfold wAvg
  rw [if_neg hu, Int64.toInt_sub, shr1, h2, Int.bmod_eq_of_le (by omega) (by omega)]
  omega
def mAvg (a b : Int64) (u : Int32) : Int64 := if u = 0 then (a >>> ((1 : Int32).toInt64 &&& 63) + b >>> ((1 : Int32).toInt64 &&& 63) + (a &&& b &&& 1)) else (a >>> ((1 : Int32).toInt64 &&& 63) + b >>> ((1 : Int32).toInt64 &&& 63) + (a &&& b &&& 1)) + ((a ^^^ b) &&& 1)
theorem mav0 (a b : Int64) : (a >>> ((1 : Int32).toInt64 &&& 63) + b >>> ((1 : Int32).toInt64 &&& 63) + (a &&& b &&& 1)).toInt = (a.toInt + b.toInt) / 2 := by
  obtain ⟨h1, h2, h3⟩ := pair_i a b
  have a1 := a.toInt_lt
  have a2 := a.le_toInt
  have b1 := b.toInt_lt
  have b2 := b.le_toInt
  rw [Int64.toInt_add, Int64.toInt_add, shr1, shr1, and1, Int.bmod_eq_of_le (n := a.toInt / 2 + b.toInt / 2) (by omega) (by omega), Int.bmod_eq_of_le (by omega) (by omega)]
  omega
theorem avg_eq (a b : Int64) (u : Int32) : wAvg a b u = mAvg a b u := by
  rw [← Int64.toInt_inj]
  have e := mav0 a b
  obtain ⟨h1, h2, h3⟩ := pair_i a b
  have a1 := a.toInt_lt
  have a2 := a.le_toInt
  have b1 := b.toInt_lt
  have b2 := b.le_toInt
  unfold mAvg
  by_cases q : u = 0
  · rw [if_pos q, e, q, avg0]
  · rw [if_neg q, avg1 a b q, Int64.toInt_add, e, and1, Int.bmod_eq_of_le (by omega) (by omega)]
    omega
theorem avg_rt {a b : Int64} (u : Int32) (ha : inI a) (hb : inI b) : rt (wAvg a b u) := by
  rw [rt_iff]
  obtain ⟨a1, a2⟩ := ha
  obtain ⟨b1, b2⟩ := hb
  unfold inI
  by_cases q : u = 0
  · rw [q, avg0]
    omega
  · rw [avg1 a b q]
    omega
theorem okV_i {a b c : Int32} (h : okV a b c) : 1 ≤ a.toInt ∧ 1 ≤ b.toInt ∧ 1 ≤ c.toInt := by
  obtain ⟨h1, h2, h3⟩ := h
  have e1 : (1 : Int32).toInt = 1 := by decide
  rw [Int32.lt_iff_toInt_lt] at h1 h2 h3
  omega
theorem i64_nz {a : Int32} (h : 1 ≤ a.toInt) : ¬ a.toInt64 = 0 := fun e => by
  have := congrArg Int64.toInt e
  rw [Int32.toInt_toInt64, l0] at this
  omega
theorem lmax : (9223372036854775807 : Int64).toInt = 9223372036854775807 := by decide
theorem nonneg_mul {x y X Y : Int} (h1 : 0 ≤ x) (h2 : x ≤ X) (h3 : 0 ≤ y) (h4 : y ≤ Y) : 0 ≤ x * y ∧ x * y ≤ X * Y := by
  have e1 : x * y ≤ X * y := Int.mul_le_mul_of_nonneg_right h2 h3
  have e2 : X * y ≤ X * Y := Int.mul_le_mul_of_nonneg_left h4 (by omega)
  have e3 : 0 ≤ x * y := Int.mul_nonneg h1 h3
  omega
/-- two divisors and a third: past the end or not -/
theorem once_i {a b c : Int32} (h : okV a b c) : (wExact 1 (a.toInt64 * b.toInt64) c.toInt64 2 = 0 ↔ 9223372036854775807 / c.toInt64 < a.toInt64 * b.toInt64) ∧ (¬ wExact 1 (a.toInt64 * b.toInt64) c.toInt64 2 = 0 → ¬ a.toInt64 * b.toInt64 * c.toInt64 = 0) := by
  obtain ⟨h1, h2, h3⟩ := okV_i h
  have a1 := a.toInt_lt
  have b1 := b.toInt_lt
  have c1 := c.toInt_lt
  have rab := nonneg_mul (x := a.toInt) (X := 2147483647) (y := b.toInt) (Y := 2147483647) (by omega) (by omega) (by omega) (by omega)
  have pab : 1 ≤ a.toInt * b.toInt := by
    have := Int.mul_pos (a := a.toInt) (b := b.toInt) (by omega) (by omega)
    omega
  have eab : (a.toInt64 * b.toInt64).toInt = a.toInt * b.toInt := by
    rw [Int64.toInt_mul, Int32.toInt_toInt64, Int32.toInt_toInt64]
    exact Int.bmod_eq_of_le (by omega) (by omega)
  have ec : c.toInt64.toInt = c.toInt := Int32.toInt_toInt64 c
  generalize a.toInt64 * b.toInt64 = p at *
  rw [← eab] at rab pab
  have ed : (9223372036854775807 / c.toInt64).toInt = 9223372036854775807 / c.toInt := by
    have hn : 9223372036854775807 / c.toInt ≤ 9223372036854775807 := Int.ediv_le_self _ (by decide)
    have hp : 0 ≤ 9223372036854775807 / c.toInt := Int.ediv_nonneg (by decide) (by omega)
    rw [Int64.toInt_div, ec, lmax, Int.tdiv_eq_ediv_of_nonneg (by decide)]
    exact Int.bmod_eq_of_le (by omega) (by omega)
  have hx := prod_x p c.toInt64
  rw [Int64.toInt_mul, ec] at hx
  have hE : wExact 1 p c.toInt64 2 = 0 ↔ ¬ wTrue p c.toInt64 2 (p * c.toInt64) = 1 := by
    unfold wExact wWithin wJoin
    simp only [if_neg n20, if_neg n21, if_neg n10]
    rcases wTrue_01 p c.toInt64 2 (p * c.toInt64) with h | h
    · rw [h, if_pos rfl]
      exact ⟨fun _ => by decide, fun _ => rfl⟩
    · rw [h, if_neg n10]
      exact ⟨fun e => absurd e n10, fun e => absurd rfl e⟩
  have hlt : 9223372036854775807 / c.toInt < p.toInt ↔ 9223372036854775807 < p.toInt * c.toInt := by
    have := Int.le_ediv_iff_mul_le (a := p.toInt) (b := 9223372036854775807) (c := c.toInt) (by omega)
    omega
  have hpc : 1 ≤ p.toInt * c.toInt := by
    have := Int.mul_pos (a := p.toInt) (b := c.toInt) (by omega) (by omega)
    omega
  have hr := bm_c (p.toInt * c.toInt)
  have hu : p.toInt * c.toInt ≤ 4611686014132420609 * 2147483647 := (nonneg_mul (by omega) (by omega) (by omega) (by omega)).2
  rw [hE, hx, i64_lt, ed, hlt]
  refine ⟨?_, fun e0 => ?_⟩
  · constructor
    · intro hne
      refine Int.lt_of_not_ge (fun hle => hne ?_)
      exact Int.bmod_eq_of_le (by omega) (by omega)
    · intro hgt e
      have := (p * c.toInt64).toInt_lt
      rw [Int64.toInt_mul, ec, e] at this
      omega
  · have e1 : (p.toInt * c.toInt).bmod (2 ^ 64) = p.toInt * c.toInt := Decidable.of_not_not e0
    intro e
    have e2 := congrArg Int64.toInt e
    rw [Int64.toInt_mul, ec, e1, l0] at e2
    omega
section REL2
variable {x : XS} {s : MS}
theorem ra_average (h : Rel x s) (l k f u : Int32) : AR (xAverage l k f u x) (m_average l k f u s) := by
  unfold xAverage m_average xKeep
  rw [nd_nd, num_now h, num_now h]
  refine AR_gd (n44' k f) h (fun hk => ?_)
  rw [nd_yes hk.1]
  show AR _ (mBecome l k (mAvg (mNow l k s) (mNow l f s) u) (sT 0 s))
  rw [← avg_eq]
  exact AR_become (rel_T h 0) rfl l k (fun q => avg_rt u (in_now h k f q).1 (in_now h k f q).2)
theorem AR_keepF (h : Rel x s) (h0 : mTh s = 0) (l : Int32) {k : Int32} (hk : ok4 k) (d : Int64) (r : Int32) : AR (xKeepF l k d r x) (if d = 0 then mNo s else mBecome l k (if r = 0 then mFloor (mNow l k s) d else mRest (mNow l k s) d) s) := by
  unfold xKeepF
  rw [nd_yes hk, num_now h]
  refine AR_ite Iff.rfl (fun _ => AR_no h h0) (fun q => ?_)
  rw [mFloor_eq q, mRest_eq q]
  exact AR_keepR h h0 l hk _
theorem AR_F (h : Rel x s) (l k : Int32) (d : Int64) (r : Int32) {c c' : Prop} [Decidable c] [Decidable c'] (hc : (c ∧ ok4 k) ↔ c') (s' : MS) (hs : s' = sT 0 s) : AR (nd c 0 x (xKeepF l k d r x)) (gd c' s (if d = 0 then mNo s' else mBecome l k (if r = 0 then mFloor (mNow l k s') d else mRest (mNow l k s') d) s')) := by
  subst hs
  by_cases q : c
  · rw [nd_yes q]
    by_cases q2 : ok4 k
    · unfold gd
      rw [if_pos (hc.mp ⟨q, q2⟩)]
      exact AR_keepF (rel_T h 0) rfl l q2 d r
    · unfold gd xKeepF nd
      rw [if_neg q2, if_neg (fun e => q2 (hc.mpr e).2)]
      exact ⟨rel_T h 1, rfl⟩
  · unfold nd gd
    rw [if_neg q, if_neg (fun e => q (hc.mpr e).1)]
    exact ⟨rel_T h 1, rfl⟩
theorem ra_floor (h : Rel x s) (l k f r : Int32) : AR (xFloor l k f r x) (m_floor l k f r s) := by
  unfold xFloor m_floor
  rw [num_now h]
  exact AR_F h l k (mNow l f s) r (n44 k f) _ rfl
theorem ra_floorInt (h : Rel x s) (k f r : Int32) : AR (xFloorInt k f r x) (m_floorInt k f r s) := by
  unfold xFloorInt m_floorInt
  rw [num_now h]
  exact AR_F h 1 k (mNow 0 f s) r (n44 k f) _ rfl
theorem ra_towards (h : Rel x s) (l k f r : Int32) : AR (xTowards l k f r x) (m_towards l k f r s) := by
  unfold xTowards m_towards
  rw [nd_nd, num_now h, num_now h]
  refine AR_gd (n44' k f) h (fun hk => ?_)
  refine AR_ite Iff.rfl (fun _ => AR_no (rel_T h 0) rfl) (fun q => ?_)
  have e : (if r = 0 then wQuot (mNow l k s) (mNow l f s) else wRestT (mNow l k s) (mNow l f s)) = if r = 0 then mNow l k s / mNow l f s else wRem (mNow l k s) (mNow l f s) := by
    unfold wQuot wRestT
    rw [if_neg q, if_neg q]
  rw [e]
  exact AR_keepR (rel_T h 0) rfl l hk.1 _
theorem ra_chain (h : Rel x s) (k a b c : Int32) : AR (xChain k a b c x) (m_chain k a b c s) := by
  unfold xChain m_chain
  rw [num_now h]
  refine AR_gd (n4_iff k) h (fun hk => AR_rf (rel_T h 0) (fun hv => ?_))
  obtain ⟨h1, h2, h3⟩ := okV_i hv
  rw [mFloor_eq (i64_nz h1), mFloor_eq (i64_nz h2), mFloor_eq (i64_nz h3)]
  exact AR_keep (rel_T h 0) rfl 1 hk (fun q => absurd q n10)
theorem ra_atOnce (h : Rel x s) (k a b c : Int32) : AR (xAtOnce k a b c x) (m_atOnce k a b c s) := by
  unfold xAtOnce m_atOnce
  rw [num_now h]
  refine AR_gd (n4_iff k) h (fun hk => AR_rf (rel_T h 0) (fun hv => ?_))
  obtain ⟨h1, h2⟩ := once_i hv
  refine AR_ite h1 (fun _ => AR_no (rel_T h 0) rfl) (fun q => ?_)
  rw [mFloor_eq (h2 q)]
  exact AR_keep (rel_T h 0) rfl 1 hk (fun q => absurd q n10)
theorem lt_i (x y : Int64) (a : Int32) (b : Int32) : (if x < y then a else b) = (if x.toInt < y.toInt then a else b) := by
  by_cases q : x < y
  · rw [if_pos q, if_pos ((i64_lt x y).mp q)]
  · rw [if_neg q, if_neg (fun e => q ((i64_lt x y).mpr e))]
theorem min_i (a b : Int64) : (b < a → lMin a b = b) ∧ (¬ b < a → lMin a b = a) := by
  unfold lMin
  exact ⟨fun q => if_pos q, fun q => if_neg q⟩
theorem set_now (h : Rel x s) (l k : Int32) : sSet l k (mNow l k s) s = s := by
  unfold sSet mNow
  by_cases q2 : l = 0
  · have e2 : (mI s k.toNatClampNeg).toInt32.toInt64 = mI s k.toNatClampNeg := h.2.2.1 _
    rw [if_pos q2, if_pos q2, e2, updL_same]
  · rw [if_neg q2, if_neg q2, updL_same]
theorem ra_extreme (h : Rel x s) (l k f g : Int32) : AR (xExtreme l k f g x) (m_extreme l k f g s) := by
  unfold xExtreme m_extreme
  rw [nd_nd, num_now h, num_now h]
  refine AR_gd (n44' k f) h (fun hk => ?_)
  have hs : sSet l k (mNow l k (sT 0 s)) (sT 0 s) = sT 0 s := set_now (rel_T h 0) l k
  have e1 : mNow l k (sT 0 s) = mNow l k s := rfl
  have e2 : mNow l f (sT 0 s) = mNow l f s := rfl
  have r1 : l = 0 → rt (mNow l k s) := fun q => now_rt h k q
  have r2 : l = 0 → rt (mNow l f s) := fun q => now_rt h f q
  rw [e1] at hs
  rw [e1, e2]
  generalize mNow l k s = a at *
  generalize mNow l f s = b at *
  have key : ∀ {v : Int64} {p q : Int32}, (l = 0 → rt v) → p = q → AR (.inl p, xSet l k v x) (q, sSet l k v (sT 0 s)) := fun {v p q} hv e => by
    subst e
    exact AR_set (rel_T h 0) rfl l k hv
  refine AR_ite Iff.rfl (fun _ => ?_) (fun _ => ?_)
  · unfold lMin
    by_cases q : b < a
    · rw [if_pos q, if_pos q]
      refine key r2 (if_neg (fun e => ?_))
      rw [e, i64_lt] at q
      omega
    · rw [if_neg q, if_neg q]
      have := key (p := if a = a then 0 else 1) (q := 0) r1 (if_pos rfl)
      rw [hs] at this
      exact this
  · unfold lMax
    by_cases q : a < b
    · rw [if_pos q, if_pos q]
      refine key r2 (if_neg (fun e => ?_))
      rw [e, i64_lt] at q
      omega
    · rw [if_neg q, if_neg q]
      have := key (p := if a = a then 0 else 1) (q := 0) r1 (if_pos rfl)
      rw [hs] at this
      exact this
end REL2
end
section
/-! residues: the class and the model agree -/
theorem rest_spec (a b : Int64) (hb : ¬ b = 0) : ∃ q : Int, a.toInt = b.toInt * q + (mRest a b).toInt ∧ (0 < b.toInt → 0 ≤ (mRest a b).toInt ∧ (mRest a b).toInt < b.toInt) ∧ (b.toInt < 0 → b.toInt < (mRest a b).toInt ∧ (mRest a b).toInt ≤ 0) := by
  have b0 : ¬ b.toInt = 0 := fun e => hb (Int64.toInt_inj.mp (e.trans l0.symm))
  have b1 := b.toInt_lt
  have b2 := b.le_toInt
  have e := wRem_i a b
  have hs := Int.tdiv_mul_add_tmod a.toInt b.toInt
  have hm : (a.toInt.tmod b.toInt).natAbs < b.toInt.natAbs := by
    rw [Int.natAbs_tmod]
    exact Nat.mod_lt _ (by omega)
  rw [← e, Int.mul_comm] at hs
  rw [← e] at hm
  have hadd : ∀ h : (wRem a b).toInt < 0 ∧ 0 < b.toInt ∨ 0 < (wRem a b).toInt ∧ b.toInt < 0, (wRem a b + b).toInt = (wRem a b).toInt + b.toInt := fun h => by
    rw [Int64.toInt_add]
    exact Int.bmod_eq_of_le (by omega) (by omega)
  have hq : b.toInt * (a.toInt.tdiv b.toInt - 1) = b.toInt * a.toInt.tdiv b.toInt - b.toInt := by rw [Int.mul_sub, Int.mul_one]
  have key : ∀ c : Int64, c = mRest a b → (c = wRem a b ∧ (0 < b.toInt → 0 ≤ c.toInt) ∧ (b.toInt < 0 → c.toInt ≤ 0)) ∨ (c.toInt = (wRem a b).toInt + b.toInt ∧ (0 < b.toInt → (wRem a b).toInt < 0) ∧ (b.toInt < 0 → 0 < (wRem a b).toInt)) := fun c hc => by
    subst hc
    have z : wRem a b = 0 ↔ (wRem a b).toInt = 0 := by rw [← Int64.toInt_inj, l0]
    have zn := neg_iff (wRem a b)
    have bn := neg_iff b
    unfold mRest
    by_cases q1 : wRem a b = 0
    · rw [if_pos q1]
      have z1 := z.mp q1
      exact Or.inl ⟨rfl, by omega, by omega⟩
    · rw [if_neg q1]
      have z1 : ¬ (wRem a b).toInt = 0 := fun e => q1 (z.mpr e)
      by_cases q2 : wRem a b < 0
      · rw [if_pos q2]
        have z2 := zn.mp q2
        by_cases q3 : b < 0
        · rw [if_pos q3]
          have z3 := bn.mp q3
          exact Or.inl ⟨rfl, by omega, by omega⟩
        · rw [if_neg q3]
          have z3 : ¬ b.toInt < 0 := fun e => q3 (bn.mpr e)
          exact Or.inr ⟨hadd (Or.inl (by omega)), by omega, by omega⟩
      · rw [if_neg q2]
        have z2 : ¬ (wRem a b).toInt < 0 := fun e => q2 (zn.mpr e)
        by_cases q3 : b < 0
        · rw [if_pos q3]
          have z3 := bn.mp q3
          exact Or.inr ⟨hadd (Or.inr (by omega)), by omega, by omega⟩
        · rw [if_neg q3]
          have z3 : ¬ b.toInt < 0 := fun e => q3 (bn.mpr e)
          exact Or.inl ⟨rfl, by omega, by omega⟩
  rcases key _ rfl with ⟨k1, k2, k3⟩ | ⟨k1, k2, k3⟩
  · refine ⟨a.toInt.tdiv b.toInt, by rw [k1]; omega, fun h => ⟨k2 h, ?_⟩, fun h => ⟨?_, k3 h⟩⟩
    · rw [k1]
      omega
    · rw [k1]
      omega
  · refine ⟨a.toInt.tdiv b.toInt - 1, by rw [k1, hq]; omega, fun h => ?_, fun h => ?_⟩
    · have := k2 h
      omega
    · have := k3 h
      omega
/-- a rest is one of its class in its range, and there is one such -/
theorem rest_uniq {a b : Int64} (hb : ¬ b = 0) {r : Int} (hr : ∃ q : Int, a.toInt = b.toInt * q + r) (h1 : 0 < b.toInt → 0 ≤ r ∧ r < b.toInt) (h2 : b.toInt < 0 → b.toInt < r ∧ r ≤ 0) : (mRest a b).toInt = r := by
  have b0 : ¬ b.toInt = 0 := fun e => hb (Int64.toInt_inj.mp (e.trans l0.symm))
  obtain ⟨q, hq⟩ := hr
  obtain ⟨p, hp, k1, k2⟩ := rest_spec a b hb
  have e : b.toInt * (q - p) = (mRest a b).toInt - r := by
    rw [Int.mul_sub]
    omega
  have hz : q - p = 0 := by
    refine Decidable.by_contra (fun hn => ?_)
    have hA : b.toInt.natAbs ≤ (b.toInt * (q - p)).natAbs := by
      rw [Int.natAbs_mul]
      exact Nat.le_mul_of_pos_right _ (by omega)
    rw [e] at hA
    rcases Int.lt_or_gt_of_ne b0 with h | h
    · have := k2 h
      have := h2 h
      omega
    · have := k1 h
      have := h1 h
      omega
  rw [hz, Int.mul_zero] at e
  omega
theorem m_nz {m : Int32} (h : ¬ m = 0) : ¬ m.toInt64 = 0 := fun e => by
  have := congrArg Int64.toInt e
  rw [Int32.toInt_toInt64, l0] at this
  exact h (Int32.toInt_inj.mp (this.trans i0.symm))
theorem rest_rt (v : Int64) {m : Int32} (h : ¬ m = 0) : rt (mRest v m.toInt64) := by
  rw [rt_iff]
  obtain ⟨q, -, h1, h2⟩ := rest_spec v m.toInt64 (m_nz h)
  have e := Int32.toInt_toInt64 m
  have m1 := m.toInt_lt
  have m2 := m.le_toInt
  have m0 : ¬ m.toInt = 0 := fun e => h (Int32.toInt_inj.mp (e.trans i0.symm))
  unfold inI
  rw [e] at h1 h2
  rcases Int.lt_or_gt_of_ne m0 with q | q
  · have := h2 q
    omega
  · have := h1 q
    omega
theorem rest_rest (v b : Int64) (h : ¬ b = 0) : mRest (mRest v b) b = mRest v b := by
  obtain ⟨q, -, h1, h2⟩ := rest_spec v b h
  exact Int64.toInt_inj.mp (rest_uniq h ⟨0, by rw [Int.mul_zero, Int.zero_add]⟩ h1 h2)
theorem rRes_m (v : Int64) {m : Int32} (h : ¬ m = 0) : rRes v m = (mRest v m.toInt64).toInt32 := by
  unfold rRes
  rw [← mRest_eq (m_nz h)]
theorem rRes_64 (v : Int64) {m : Int32} (h : ¬ m = 0) : (rRes v m).toInt64 = mRest v m.toInt64 := by
  rw [rRes_m v h]
  exact rest_rt v h
theorem rRes_2 (v : Int64) {m : Int32} (h : ¬ m = 0) : rRes (rRes v m).toInt64 m = rRes v m := by
  rw [rRes_64 v h, rRes_m _ h, rRes_m _ h, rest_rest _ _ (m_nz h)]
theorem cl3 {r : Int32} (h : ok3 r) : r.toNatClampNeg < 3 := by rcases c3 h with rfl | rfl | rfl <;> decide
theorem cl4 {k : Int32} (h : ok4 k) : k.toNatClampNeg < 4 := by rcases c4 h with rfl | rfl | rfl | rfl <;> decide
theorem cl12 {r k : Int32} (hr : ok3 r) (hk : ok4 k) : (r * 4 + k).toNatClampNeg = 4 * r.toNatClampNeg + k.toNatClampNeg := by
  rcases c3 hr with rfl | rfl | rfl <;> rcases c4 hk with rfl | rfl | rfl | rfl <;> decide
section REL3
variable {x : XS} {s : MS}
theorem res_eq (h : Rel x s) {r k : Int32} (hr : ok3 r) (hk : ok4 k) : xRes r k x = mRes r k s := by
  unfold xRes mRes
  rw [cl12 hr hk]
  exact h.2.2.2.2.2.1 _ _ (cl3 hr) (cl4 hk)
theorem mod_eq (h : Rel x s) (r : Int32) : xMod r x = mMod r s := by
  unfold xMod mMod
  rw [h.2.2.2.1]
theorem mod_nz (h : Rel x s) (r : Int32) : ¬ mMod r s = 0 := h.2.2.2.2.1 _
theorem rel_setR (h : Rel x s) {r k : Int32} (hr : ok3 r) (hk : ok4 k) (v : Int32) : Rel (xSetR r k v x) (sSetR r k v s) := by
  obtain ⟨h1, h2, h3, h4, h5, h6, h7⟩ := h
  refine ⟨h1, h2, h3, h4, h5, fun i j hi hj => ?_, h7⟩
  show upd (xR x) (r * 4 + k).toNatClampNeg v (4 * i + j) = (if i = r.toNatClampNeg then upd (mR s i) k.toNatClampNeg v else mR s i) j
  rw [cl12 hr hk]
  have := cl4 hk
  have h6 := h6 i j hi hj
  by_cases q : i = r.toNatClampNeg
  · rw [if_pos q]
    unfold upd
    by_cases q2 : j = k.toNatClampNeg
    · rw [if_pos q2, if_pos (by omega)]
    · rw [if_neg q2, if_neg (by omega)]
      exact h6
  · rw [if_neg q]
    unfold upd
    rw [if_neg (by omega)]
    exact h6
theorem res_set (r k : Int32) (v : Int32) (s : MS) : mRes r k (sSetR r k v s) = v := by
  show (if r.toNatClampNeg = r.toNatClampNeg then upd (mR s r.toNatClampNeg) k.toNatClampNeg v else mR s r.toNatClampNeg) k.toNatClampNeg = v
  rw [if_pos rfl]
  unfold upd
  rw [if_pos rfl]
theorem AR_come (h : Rel x s) (h0 : mTh s = 0) {r k : Int32} (hr : ok3 r) (hk : ok4 k) (v : Int64) : AR (.inl (rRes v (xMod r x)), xSetR r k (rRes v (xMod r x)) x) (mCome r k v s) := by
  rw [mod_eq h, rRes_m v (mod_nz h r)]
  refine ⟨rel_setR h hr hk _, h0, ?_⟩
  show _ = mRes r k (sSetR r k _ s)
  rw [res_set]
theorem AR_keepM (h : Rel x s) (h0 : mTh s = 0) {r k : Int32} (hr : ok3 r) (hk : ok4 k) (v : Int64) : AR (xKeepM r k v x) (mCome r k v s) := by
  unfold xKeepM
  rw [nd_yes hr, nd_yes hk]
  exact AR_come h h0 hr hk v
theorem ra_rest (h : Rel x s) (l k m : Int32) : AR (xRest l k m x) (m_rest l k m s) := by
  unfold xRest m_rest
  rw [num_now h]
  refine AR_gd (n4_iff k) h (fun hk => AR_rf (rel_T h 0) (fun hm => ?_))
  exact AR_val (rel_T h 0) rfl (rRes_m _ hm)
theorem n344 (r k f : Int32) : ((ok3 r ∧ ok4 k) ∧ (ok3 r ∧ ok4 f)) ↔ (n3 r ∧ n4 k ∧ n4 f) := by
  rw [n4_iff, n4_iff, n3_iff]
  exact ⟨fun ⟨⟨a, b⟩, _, c⟩ => ⟨a, b, c⟩, fun ⟨a, b, c⟩ => ⟨⟨a, b⟩, a, c⟩⟩
theorem n34 (r k : Int32) : (ok3 r ∧ ok4 k) ↔ (n3 r ∧ n4 k) := by rw [n4_iff, n3_iff]
theorem ra_bring (h : Rel x s) (r k l f : Int32) : AR (xBring r k l f x) (m_bring r k l f s) := by
  unfold xBring m_bring xKeepM
  rw [nd_nd, nd_nd, num_now h]
  refine AR_gd ?_ h (fun hk => AR_come (rel_T h 0) rfl hk.1.2 hk.2 _)
  rw [n4_iff, n4_iff, n3_iff]
  exact ⟨fun ⟨⟨a, b⟩, c⟩ => ⟨b, c, a⟩, fun ⟨a, b, c⟩ => ⟨⟨c, a⟩, b⟩⟩
theorem ra_lift (h : Rel x s) (r i l k : Int32) : AR (xLift r i l k x) (m_lift r i l k s) := by
  unfold xLift m_lift xKeep
  rw [nd_nd]
  refine AR_gd ?_ h (fun hk => ?_)
  · rw [n4_iff, n4_iff, n3_iff]
    exact and_assoc
  · rw [res_eq h hk.1.1 hk.1.2]
    exact AR_become (rel_T h 0) rfl l k (fun _ => rt_I _)
theorem ra_plus (h : Rel x s) (r k f m : Int32) : AR (xPlus r k f m x) (m_plus r k f m s) := by
  unfold xPlus m_plus
  rw [nd_nd]
  refine AR_gd (n344 r k f) h (fun hk => ?_)
  rw [res_eq h hk.1.1 hk.1.2, res_eq h hk.2.1 hk.2.2]
  rw [Int64.sub_eq_add_neg]
  exact AR_keepM (rel_T h 0) rfl hk.1.1 hk.1.2 _
theorem ra_times (h : Rel x s) (r k f : Int32) : AR (xTimes r k f x) (m_times r k f s) := by
  unfold xTimes m_times
  rw [nd_nd]
  refine AR_gd (n344 r k f) h (fun hk => ?_)
  rw [res_eq h hk.1.1 hk.1.2, res_eq h hk.2.1 hk.2.2]
  exact AR_keepM (rel_T h 0) rfl hk.1.1 hk.1.2 _
theorem ra_residue (h : Rel x s) (r k : Int32) : AR (xResidue r k x) (m_residue r k s) := by
  unfold xResidue m_residue
  refine AR_gd (n34 r k) h (fun hk => ?_)
  exact AR_val (rel_T h 0) rfl (res_eq h hk.1 hk.2)
theorem ra_areAlike (h : Rel x s) (r l f g : Int32) : AR (xAlike r l f g x) (m_areAlike r l f g s) := by
  unfold xAlike m_areAlike
  rw [nd_nd, nd_nd, num_now h, num_now h]
  refine AR_gd ?_ h (fun hk => ?_)
  · rw [n4_iff, n4_iff, n3_iff]
    exact and_assoc
  · refine AR_val (rel_T h 0) rfl ?_
    have e := mod_eq h r
    have hn := mod_nz h r
    rw [e]
    show (if wRest (mNow l f s) (mMod r s).toInt64 = wRest (mNow l g s) (mMod r s).toInt64 then 1 else 0 : Int32) = if mRest (mNow l f s) (mMod r s).toInt64 = mRest (mNow l g s) (mMod r s).toInt64 then 1 else 0
    rw [mRest_eq (m_nz hn), mRest_eq (m_nz hn)]
theorem rel_setM (h : Rel x s) (r : Int32) {m : Int32} (hm : ¬ m = 0) : Rel (xSetM r m x) (sSetM r m s) := by
  obtain ⟨h1, h2, h3, h4, h5, h6⟩ := h
  refine ⟨h1, h2, h3, ?_, fun j => ?_, h6⟩
  · show upd (xM x) _ m = upd (mM s) _ m
    rw [h4]
  · show ¬ upd (mM s) _ m j = 0
    unfold upd
    split
    · exact hm
    · exact h5 j
theorem rel_ring (h : Rel x s) {r i : Int32} (hr : ok3 r) (hi : ok4 i) : Rel (xRing1 r i x) (mCome r i (mRes r i s).toInt64 s).2 := by
  unfold xRing1 mCome
  rw [mod_eq h, res_eq h hr hi, rRes_m _ (mod_nz h r)]
  exact rel_setR h hr hi _
theorem th_come (r i : Int32) (v : Int64) (s : MS) : mTh (mCome r i v s).2 = mTh s := rfl
theorem ra_modulus (h : Rel x s) (r m : Int32) : AR (xModulus r m x) (m_modulus r m s) := by
  unfold xModulus m_modulus
  refine AR_gd (n3_iff r) h (fun hr => AR_rf (rel_T h 0) (fun hm => ?_))
  have g := rel_setM (rel_T h 0) r hm
  have g1 := rel_ring g hr (i := 0) ⟨by decide, by decide⟩
  have g2 := rel_ring g1 hr (i := 0 + 1) ⟨by decide, by decide⟩
  have g3 := rel_ring g2 hr (i := 0 + 1 + 1) ⟨by decide, by decide⟩
  have g4 := rel_ring g3 hr (i := 0 + 1 + 1 + 1) ⟨by decide, by decide⟩
  refine ⟨?_, ?_, ?_⟩
  · show Rel (rgL r 4 0 (xSetM r m x)) (mgL r 4 0 (sSetM r m (sT 0 s)))
    simp only [rgL, mgL]
    exact g4
  · show mTh (mgL r 4 0 (sSetM r m (sT 0 s))) = 0
    simp only [mgL]
    rfl
  · show xMod r x = mMod r (sT 0 s)
    exact mod_eq h r
end REL3
end
section
/-! powers, common divisors, inverses: the class and the model agree -/
theorem bit_sh : ∀ j : Nat, j < 31 → ((Int32.ofNat j &&& 31).toBitVec.smod 32).toNat = j := by decide
theorem shr_i (e : Int32) {j : Nat} (h : j < 31) : (e >>> (Int32.ofNat j &&& 31)).toInt = e.toInt / ((2 ^ j : Nat) : Int) := by
  show (e >>> (Int32.ofNat j &&& 31)).toBitVec.toInt = _
  rw [Int32.toBitVec_shiftRight, BitVec.toInt_sshiftRight', bit_sh j h, Int.shiftRight_eq_div_pow]
  rfl
theorem and1_32 (a : Int32) : a &&& 1 = 1 ↔ a.toInt % 2 = 1 := by
  have h : (a &&& 1).toBitVec.toNat = a.toBitVec.toNat % 2 := by
    rw [Int32.toBitVec_and, BitVec.toNat_and, show (1 : Int32).toBitVec.toNat = 2 ^ 1 - 1 from rfl, Nat.and_two_pow_sub_one_eq_mod]
  have e : a.toInt = a.toBitVec.toInt := rfl
  rw [e, BitVec.toInt_eq_toNat_cond]
  constructor
  · intro q
    rw [q] at h
    have : (1 : Int32).toBitVec.toNat = 1 := rfl
    split <;> omega
  · intro q
    refine Int32.toBitVec_inj.mp (BitVec.eq_of_toNat_eq ?_)
    rw [h]
    show _ = 1
    split at q <;> omega
theorem i32_two : (2 : Int32).toInt = 2 := by decide
theorem half_i {e : Int32} (h : 0 ≤ e.toInt) : (e / 2).toInt = e.toInt / 2 := by
  have := e.toInt_lt
  rw [Int32.toInt_div, i32_two, Int.tdiv_eq_ediv_of_nonneg h]
  exact Int.bmod_eq_of_le (by omega) (by omega)
theorem odd_i {e : Int32} (h : 0 ≤ e.toInt) : e - e / 2 * 2 = 1 ↔ e.toInt % 2 = 1 := by
  have := e.toInt_lt
  have e1 : (e - e / 2 * 2).toInt = e.toInt % 2 := by
    rw [Int32.toInt_sub, Int32.toInt_mul, half_i h, i32_two, Int.bmod_eq_of_le (n := e.toInt / 2 * 2) (by omega) (by omega), Int.bmod_eq_of_le (by omega) (by omega)]
    omega
  rw [← Int32.toInt_inj, e1, i1]
theorem on_s (j : Nat) : Int32.ofNat j + 1 = Int32.ofNat (j + 1) := (Int32.ofNat_add j 1).symm
theorem raise_0 {e m : Int32} (h : 0 ≤ e.toInt) : ∀ (n j : Nat) (r s : Int32), j + n = 31 → e.toInt / ((2 ^ j : Nat) : Int) = 0 → rRaiseL e m n (Int32.ofNat j) r s = r
  | 0, j, r, s, _, _ => by rw [rRaiseL]
  | n + 1, j, r, s, hj, h0 => by
    have hb : ¬ (e >>> (Int32.ofNat j &&& 31)) &&& 1 = 1 := fun q => by
      rw [and1_32, shr_i e (by omega), h0] at q
      exact absurd q (by decide)
    have h1 : e.toInt / ((2 ^ (j + 1) : Nat) : Int) = 0 := by
      rw [Nat.pow_succ, Int.natCast_mul, ← Int.ediv_ediv_of_nonneg (Int.natCast_nonneg _), h0]
      rfl
    rw [rRaiseL, if_neg hb, on_s]
    exact raise_0 h n (j + 1) r _ (by omega) h1
theorem raise_pow {e m : Int32} (h : 0 ≤ e.toInt) (hm : ¬ m = 0) : ∀ (n j : Nat) (r s e' : Int32), j + n = 31 → e'.toInt = e.toInt / ((2 ^ j : Nat) : Int) → mPowL m.toInt64 n r.toInt64 s.toInt64 e' = (rRaiseL e m n (Int32.ofNat j) r s).toInt64
  | 0, j, r, s, e', _, _ => by rw [rRaiseL, mPowL]
  | n + 1, j, r, s, e', hj, he => by
    have hp : 0 ≤ e'.toInt := by
      rw [he]
      exact Int.ediv_nonneg h (Int.natCast_nonneg _)
    by_cases q : 0 < e'
    · have hb : ((e >>> (Int32.ofNat j &&& 31)) &&& 1 = 1) ↔ e' - e' / 2 * 2 = 1 := by rw [and1_32, shr_i e (by omega), odd_i hp, he]
      have h1 : (e' / 2).toInt = e.toInt / ((2 ^ (j + 1) : Nat) : Int) := by
        rw [half_i hp, he, Nat.pow_succ, Int.natCast_mul, ← Int.ediv_ediv_of_nonneg (Int.natCast_nonneg _)]
        rfl
      rw [mPowL, if_pos q, rRaiseL, on_s]
      rw [← rRes_64 (s.toInt64 * s.toInt64) hm]
      by_cases q2 : e' - e' / 2 * 2 = 1
      · rw [if_pos q2, if_pos (hb.mpr q2), ← rRes_64 (r.toInt64 * s.toInt64) hm]
        exact raise_pow h hm n (j + 1) _ _ _ (by omega) h1
      · rw [if_neg q2, if_neg (fun e => q2 (hb.mp e))]
        exact raise_pow h hm n (j + 1) _ _ _ (by omega) h1
    · rw [mPowL, if_neg q]
      have e0 : e'.toInt = 0 := by
        rw [Int32.lt_iff_toInt_lt, i0] at q
        omega
      rw [raise_0 h (n + 1) j r s hj (he.symm.trans e0)]
/-- the steps of the common divisor's search, as numbers -/
def fin : Nat → Nat → Nat → Prop
  | 0, _, l => l = 0
  | n + 1, g, l => l = 0 ∨ fin n l (g % l)
theorem fin_0 (n g : Nat) : fin n g 0 := by
  cases n with
  | zero => rfl
  | succ n => exact Or.inl rfl
theorem fin_le : ∀ (n g l : Nat), l ≤ n → fin n g l
  | 0, g, l, h => by
    show l = 0
    omega
  | n + 1, g, l, h => by
    by_cases q : l = 0
    · exact Or.inl q
    · exact Or.inr (fin_le n l (g % l) (by
        have := Nat.mod_lt g (show 0 < l by omega)
        omega))
theorem fin_log : ∀ (k g l : Nat), l < 2 ^ k → fin (2 * k + 1) g l
  | 0, g, l, h => by
    refine Or.inl ?_
    simp at h
    exact h
  | k + 1, g, l, h => by
    by_cases q : l = 0
    · exact Or.inl q
    · refine Or.inr ?_
      show fin (2 * k + 2) l (g % l)
      by_cases q2 : g % l = 0
      · exact Or.inl q2
      · refine Or.inr ?_
        show fin (2 * k + 1) (g % l) (l % (g % l))
        refine fin_log k _ _ ?_
        have h1 := Nat.mod_lt g (show 0 < l by omega)
        have h2 := Nat.mod_lt l (show 0 < g % l by omega)
        have h3 := Nat.div_add_mod l (g % l)
        have h4 : g % l ≤ g % l * (l / (g % l)) := Nat.le_mul_of_pos_right _ (Nat.div_pos (by omega) (by omega))
        rw [Nat.pow_succ] at h
        omega
theorem fin_mono : ∀ (n m g l : Nat), n ≤ m → fin n g l → fin m g l
  | 0, m, g, l, _, h => by
    have h : l = 0 := h
    rw [h]
    exact fin_0 m g
  | n + 1, 0, g, l, hm, _ => absurd hm (by omega)
  | n + 1, m + 1, g, l, hm, h => by
    rcases h with h | h
    · exact Or.inl h
    · exact Or.inr (fin_mono n m _ _ (by omega) h)
/-- not negative, and the number -/
def nn (a : Int64) (n : Nat) : Prop := a.toInt = n
theorem nn_lt {a : Int64} {n : Nat} (h : nn a n) : n < 2 ^ 63 := by
  have := a.toInt_lt
  unfold nn at h
  omega
theorem nn_rem {a b : Int64} {n m : Nat} (h1 : nn a n) (h2 : nn b m) : nn (wRem a b) (n % m) := by
  unfold nn at *
  rw [wRem_i, h1, h2]
  exact (Int.ofNat_tmod n m).symm
theorem nn_0 {a : Int64} {n : Nat} (h : nn a n) : a = 0 ↔ n = 0 := by
  unfold nn at h
  rw [← Int64.toInt_inj, l0]
  omega
theorem nn_p {a : Int64} {n : Nat} (h : nn a n) : 0 < a ↔ ¬ n = 0 := by
  unfold nn at h
  rw [i64_lt, l0]
  omega
theorem inv_st : ∀ (n m : Nat) {g l : Int64} {a b : Nat} (f nf : Int64), nn g a → nn l b → fin n a b → fin m a b → rInvL n g l f nf = rInvL m g l f nf ∧ mAgL m g l f nf = (rInvL m g l f nf).2 ∧ nn (rInvL m g l f nf).1 (Nat.gcd a b) ∧ nn (rGcdL m g l) (Nat.gcd a b) ∧ mGcdL m g l = rGcdL m g l
  | n, 0, g, l, a, b, f, nf, h1, h2, h3, h4 => by
    have h4 : b = 0 := h4
    subst h4
    have e := (nn_0 h2).mpr rfl
    rw [rInvL, mAgL, rGcdL, mGcdL, Nat.gcd_zero_right]
    refine ⟨?_, rfl, h1, h1, rfl⟩
    cases n with
    | zero => rw [rInvL]
    | succ n => rw [rInvL, if_pos e]
  | 0, m + 1, g, l, a, b, f, nf, h1, h2, h3, h4 => by
    have h3 : b = 0 := h3
    subst h3
    have e := (nn_0 h2).mpr rfl
    have p : ¬ 0 < l := fun q => (nn_p h2).mp q rfl
    rw [rInvL, rInvL, mAgL, rGcdL, mGcdL, if_pos e, if_pos e, if_neg p, if_neg p, Nat.gcd_zero_right]
    exact ⟨rfl, rfl, h1, h1, rfl⟩
  | n + 1, m + 1, g, l, a, b, f, nf, h1, h2, h3, h4 => by
    by_cases q : b = 0
    · subst q
      have e := (nn_0 h2).mpr rfl
      have p : ¬ 0 < l := fun q => (nn_p h2).mp q rfl
      rw [rInvL, rInvL, mAgL, rGcdL, mGcdL, if_pos e, if_pos e, if_pos e, if_neg p, if_neg p, Nat.gcd_zero_right]
      exact ⟨rfl, rfl, h1, h1, rfl⟩
    · have e : ¬ l = 0 := fun z => q ((nn_0 h2).mp z)
      have p : 0 < l := (nn_p h2).mpr q
      have h3 := h3.resolve_left q
      have h4 := h4.resolve_left q
      have ih := inv_st n m nf (f - g / l * nf) h2 (nn_rem h1 h2) h3 h4
      rw [rInvL, rInvL, mAgL, rGcdL, mGcdL, if_neg e, if_neg e, if_neg e, if_pos p, if_pos p, Nat.gcd_comm a b, Nat.gcd_rec b a, Nat.gcd_comm (a % b) b]
      exact ih
end
section
/-! inverses, units, the house: the class and the model agree -/
theorem neg_64 (a : Int64) (h : -9223372036854775808 < a.toInt) : (-a).toInt = -a.toInt := by
  have := a.toInt_lt
  rw [Int64.toInt_neg]
  exact Int.bmod_eq_of_le (by omega) (by omega)
theorem abs_nn (a : Int64) (h : -9223372036854775808 < a.toInt) : nn (lAbs a) a.toInt.natAbs := by
  have e := neg_iff a
  unfold nn lAbs
  by_cases q : a < 0
  · rw [if_pos q, neg_64 a h]
    have := e.mp q
    omega
  · rw [if_neg q]
    have : ¬ a.toInt < 0 := fun z => q (e.mpr z)
    omega
theorem abs32 (m : Int32) : nn (lAbs m.toInt64) m.toInt.natAbs := by
  have e := Int32.toInt_toInt64 m
  have h := abs_nn m.toInt64 (by
    have := m.le_toInt
    omega)
  rw [e] at h
  exact h
theorem size_nn (m : Int32) : nn (rSize m) m.toInt.natAbs := abs32 m
theorem size_pos {m : Int32} (h : ¬ m = 0) : m.toInt.natAbs ≠ 0 := fun e => h (Int32.toInt_inj.mp (by
  rw [i0]
  omega))
theorem size_lt (m : Int32) : m.toInt.natAbs ≤ 2147483648 := by
  have := m.le_toInt
  have := m.toInt_lt
  omega
theorem nn_nz {b : Int64} {n : Nat} (hb : nn b n) (h0 : n ≠ 0) : ¬ b = 0 := fun e => h0 ((nn_0 hb).mp e)
theorem rest_nn (v : Int64) {b : Int64} {n : Nat} (hb : nn b n) (h0 : n ≠ 0) : nn (mRest v b) (v.toInt % (n : Int)).toNat := by
  have e : b.toInt = n := hb
  have h1 := Int.emod_nonneg v.toInt (b := (n : Int)) (by omega)
  have h2 := Int.emod_lt_of_pos v.toInt (b := (n : Int)) (by omega)
  have h3 := Int.mul_ediv_add_emod v.toInt n
  unfold nn
  rw [rest_uniq (nn_nz hb h0) (r := v.toInt % (n : Int)) ⟨v.toInt / n, by rw [e]; omega⟩ (fun _ => by rw [e]; omega) (fun _ => by omega)]
  omega
theorem gcd_rest (a : Int) (n : Nat) (h : n ≠ 0) : Nat.gcd n (a % (n : Int)).toNat = Nat.gcd a.natAbs n := by
  have e : Int.gcd (n : Int) (a % (n : Int)) = Int.gcd (n : Int) a := by
    rw [Int.emod_def]
    exact Int.gcd_sub_mul_left_right _ _ _
  have h1 := Int.emod_nonneg a (b := (n : Int)) (by omega)
  rw [Int.gcd_eq_natAbs_gcd_natAbs, Int.gcd_eq_natAbs_gcd_natAbs, Int.natAbs_natCast] at e
  rw [Nat.gcd_comm a.natAbs n, ← e]
  congr 1
  omega
theorem fin_k {a b : Nat} (h : b < 2 ^ 63) : fin 1000 a b := fin_mono (2 * 63 + 1) 1000 a b (by decide) (fin_log 63 a b h)
theorem gcd_nn {a b : Int64} {n m : Nat} (h1 : nn a n) (h2 : nn b m) : nn (rGcd a b) (Nat.gcd n m) := (inv_st 1000 1000 0 0 h1 h2 (fin_k (nn_lt h2)) (fin_k (nn_lt h2))).2.2.2.1
theorem mgcd_nn {a b : Int64} (ha : -9223372036854775808 < a.toInt) (hb : -9223372036854775808 < b.toInt) : nn (mGcd a b) (Nat.gcd a.toInt.natAbs b.toInt.natAbs) := by
  have h1 := abs_nn a ha
  have h2 := abs_nn b hb
  have e : (lAbs b).toInt.toNat = b.toInt.natAbs := by
    have h2 : (lAbs b).toInt = b.toInt.natAbs := h2
    rw [h2]
    rfl
  have hf := fin_le b.toInt.natAbs a.toInt.natAbs b.toInt.natAbs (Nat.le_refl _)
  have := inv_st _ _ 0 0 h1 h2 hf hf
  unfold mGcd
  rw [e, this.2.2.2.2]
  exact this.2.2.2.1
/-- against: both searches end alike -/
theorem against {v b : Int64} {n : Nat} (hb : nn b n) (h0 : n ≠ 0) : rInv v b = (if Nat.gcd v.toInt.natAbs n = 1 then mAgainst v b else -1) := by
  have hr := rest_nn v hb h0
  have e : (mRest v b).toInt.toNat = (v.toInt % (n : Int)).toNat := by
    have hr : (mRest v b).toInt = ((v.toInt % (n : Int)).toNat : Nat) := hr
    rw [hr]
    rfl
  have hf := fin_le (v.toInt % (n : Int)).toNat n (v.toInt % (n : Int)).toNat (Nat.le_refl _)
  have st := inv_st 1000 _ 0 1 hb hr (fin_k (nn_lt hr)) hf
  rw [gcd_rest v.toInt n h0] at st
  unfold rInv mAgainst
  rw [← mRest_eq (nn_nz hb h0), ← mRest_eq (nn_nz hb h0), st.1, e, st.2.1]
  have z : (rInvL (v.toInt % (n : Int)).toNat b (mRest v b) 0 1).1 = 1 ↔ Nat.gcd v.toInt.natAbs n = 1 := by
    have h3 := st.2.2.1
    unfold nn at h3
    rw [← Int64.toInt_inj, h3, show (1 : Int64).toInt = 1 by decide]
    omega
  by_cases q : Nat.gcd v.toInt.natAbs n = 1
  · rw [if_pos q, if_pos (z.mpr q)]
  · rw [if_neg q, if_neg (fun e => q (z.mp e))]
theorem against_nn (v : Int64) {b : Int64} {n : Nat} (hb : nn b n) (h0 : n ≠ 0) : ∃ k : Nat, nn (mAgainst v b) k ∧ k < n := by
  unfold mAgainst
  refine ⟨_, rest_nn _ hb h0, ?_⟩
  have h2 := Int.emod_lt_of_pos (mAgL (mRest v b).toInt.toNat b (mRest v b) 0 1).toInt (b := (n : Int)) (by omega)
  omega
theorem nn_m1 {a : Int64} {n : Nat} (h : nn a n) : ¬ a = -1 := fun e => by
  unfold nn at h
  rw [e, lm1] at h
  omega
theorem n64 (a : Int32) : -9223372036854775808 < a.toInt64.toInt := by
  rw [Int32.toInt_toInt64]
  have := a.le_toInt
  omega
section REL4
variable {x : XS} {s : MS}
theorem has_unit (a : Int32) {m : Int32} (hm : ¬ m = 0) : rHas a m = if mGcd a.toInt64 m.toInt64 = 1 then 1 else 0 := by
  have g := mgcd_nn (n64 a) (n64 m)
  obtain ⟨k, hk, -⟩ := against_nn a.toInt64 (size_nn m) (size_pos hm)
  unfold rHas
  rw [against (size_nn m) (size_pos hm)]
  have z : mGcd a.toInt64 m.toInt64 = 1 ↔ Nat.gcd a.toInt64.toInt.natAbs m.toInt.natAbs = 1 := by
    rw [Int32.toInt_toInt64 m] at g
    unfold nn at g
    rw [← Int64.toInt_inj, g, show (1 : Int64).toInt = 1 by decide]
    omega
  by_cases q : Nat.gcd a.toInt64.toInt.natAbs m.toInt.natAbs = 1
  · rw [if_pos q, if_pos (z.mpr q), if_neg (nn_m1 hk)]
  · rw [if_neg q, if_neg (fun e => q (z.mp e)), if_pos rfl]
theorem has_eq (h : Rel x s) {r k : Int32} (hr : ok3 r) (hk : ok4 k) : rHas (xRes r k x) (xMod r x) = mUnit r k s := by
  rw [res_eq h hr hk, mod_eq h, has_unit _ (mod_nz h r)]
  rfl
theorem ra_isUnit (h : Rel x s) (r k : Int32) : AR (xUnit r k x) (m_isUnit r k s) := by
  unfold xUnit m_isUnit
  refine AR_gd (n34 r k) h (fun hk => ?_)
  refine AR_val (rel_T h 0) rfl ?_
  rw [has_eq h hk.1 hk.2]
  show mUnit r k s = if mUnit r k s = 0 then 0 else 1
  unfold mUnit
  split
  · rw [if_neg n10]
  · rw [if_pos rfl]
theorem ra_inverse (h : Rel x s) (r k : Int32) : AR (xInverse r k x) (m_inverse r k s) := by
  unfold xInverse m_inverse
  refine AR_gd (n34 r k) h (fun hk => ?_)
  have he := has_eq h hk.1 hk.2
  have hm := mod_nz h r
  refine AR_ite (by rw [he]; exact Iff.rfl) (fun _ => AR_no (rel_T h 0) rfl) (fun q => ?_)
  have hi : rRes (rInverse (xRes r k x) (xMod r x)).toInt64 (xMod r x) = (mRest (mAgainst (mRes r k s).toInt64 (lAbs (mMod r s).toInt64)) (mMod r s).toInt64).toInt32 := by
    rw [res_eq h hk.1 hk.2, mod_eq h] at q ⊢
    unfold rInverse
    rw [rRes_2 _ hm, rRes_m _ hm, against (size_nn _) (size_pos hm)]
    unfold rHas at q
    rw [against (size_nn _) (size_pos hm)] at q
    by_cases q2 : Nat.gcd (mRes r k s).toInt64.toInt.natAbs (mMod r s).toInt.natAbs = 1
    · rw [if_pos q2]
      rfl
    · rw [if_neg q2, if_pos rfl] at q
      exact absurd rfl q
  rw [hi]
  exact ⟨rel_setR (rel_T h 0) hk.1 hk.2 _, rfl, rfl⟩
theorem ra_power (h : Rel x s) (r k e : Int32) : AR (xPower r k e x) (m_power r k e s) := by
  unfold xPower m_power
  refine AR_gd (n34 r k) h (fun hk => AR_rf (rel_T h 0) (fun he => ?_))
  have e0 : 0 ≤ e.toInt := by
    rw [Int32.lt_iff_toInt_lt, i0] at he
    omega
  have hm := mod_nz h r
  have hp : (rRaise (xRes r k x) e (xMod r x)).toInt64 = mPowL (mMod r (sT 0 s)).toInt64 31 (mRest 1 (mMod r (sT 0 s)).toInt64) (mRes r k (sT 0 s)).toInt64 e := by
    rw [res_eq h hk.1 hk.2, mod_eq h]
    unfold rRaise
    have := raise_pow e0 hm 31 0 (rRes 1 (mMod r s)) (mRes r k s) e rfl (by
      show _ = e.toInt / ((1 : Nat) : Int)
      omega)
    rw [rRes_64 _ hm] at this
    exact this.symm
  rw [hp]
  exact AR_keepM (rel_T h 0) rfl hk.1 hk.2 _
theorem AR_rfH {c c' : Prop} [Decidable c] [Decidable c'] {r : Out} {r' : MO} (hc : c ↔ c') (h : Rel x s) (hr : c → Rel r.2 r'.2 ∧ agI cdH r r') : Rel (nd c 1 x r).2 (gd c' s r').2 ∧ agI cdH (nd c 1 x r) (gd c' s r') := by
  unfold nd gd
  by_cases q : c
  · rw [if_pos q, if_pos (hc.mp q)]
    exact hr q
  · rw [if_neg q, if_neg (fun e => q (hc.mpr e))]
    exact ⟨rel_T h 1, rfl⟩
theorem zb (c : Int32) (v : Int64) : (if v = 0 then c + 1 else c) = c + b01 v := by
  unfold b01
  by_cases q : v = 0
  · rw [if_pos q, if_pos q]
  · rw [if_neg q, if_neg q]
    exact (Int32.add_zero c).symm
theorem z_eq (h : Rel x s) : zL (xI x) 4 0 0 + zL (xL x) 4 0 0 = mzL s 4 0 0 := by
  simp only [zL, mzL, zb]
  rw [h.1, h.2.1]
  ac_rfl
theorem u_c (h : Rel x s) {r i : Int32} (hr : ok3 r) (hi : ok4 i) (c : Int32) : (if rHas (xRes r i x) (xMod r x) = 0 then c else c + 1) = c + (if mUnit r i s = 0 then 0 else 1) := by
  rw [has_eq h hr hi]
  split
  · exact (Int32.add_zero c).symm
  · rfl
theorem u_in (h : Rel x s) {r : Int32} (hr : ok3 r) (c : Int32) : uI x r 4 0 c = muI s r 4 0 c := by
  have k1 : ok4 (0 + 1) := ⟨by decide, by decide⟩
  have k2 : ok4 (0 + 1 + 1) := ⟨by decide, by decide⟩
  have k3 : ok4 (0 + 1 + 1 + 1) := ⟨by decide, by decide⟩
  simp only [uI, muI]
  rw [u_c h hr k1, u_c h hr k2, u_c h hr k3, u_c h hr ⟨by decide, by decide⟩]
theorem u_eq (h : Rel x s) : uO x 3 0 0 = muO s 3 0 0 := by
  simp only [uO, muO]
  rw [u_in h (r := 0) ⟨by decide, by decide⟩, u_in h (r := 0 + 1) ⟨by decide, by decide⟩, u_in h (r := 0 + 1 + 1) ⟨by decide, by decide⟩]
theorem hs_eq (h : Rel x s) (w : Int32) : xHs w x = mHs w s := by
  unfold xHs mHs
  rw [z_eq h, u_eq h, h.2.2.2.2.2.2.1, h.2.2.2.2.2.2.2]
theorem ra_house (h : Rel x s) (w : Int32) : Rel (xHouse w x).2 (m_house w s).2 ∧ agI cdH (xHouse w x) (m_house w s) := by
  unfold xHouse m_house
  refine AR_rfH Iff.rfl h (fun hw => ⟨rel_T h 0, rfl, ?_⟩)
  exact hs_eq (rel_T h 0) w
end REL4
end
section
/-! meetings, digits, texts: the class and the model agree -/
theorem nn_inj {a b : Int64} {n : Nat} (h1 : nn a n) (h2 : nn b n) : a = b := Int64.toInt_inj.mp (Eq.trans h1 (Eq.symm h2))
theorem nn_div {a b : Int64} {n m : Nat} (h1 : nn a n) (h2 : nn b m) : nn (a / b) (n / m) := by
  have l := nn_lt h1
  have e := Nat.div_le_self n m
  unfold nn at *
  rw [Int64.toInt_div, h1, h2, Int.tdiv_eq_ediv_of_nonneg (by omega), ← Int.natCast_ediv]
  generalize n / m = z at *
  exact Int.bmod_eq_of_le (by omega) (by omega)
/-- the floor below a divisor that is not negative -/
theorem floor_nn {a b : Int64} {n : Nat} (hb : nn b n) (h0 : n ≠ 0) : (mFloor a b).toInt = a.toInt / n := by
  have e : b.toInt = n := hb
  have an := neg_iff a
  have bn : ¬ b < 0 := fun z => by
    have := (neg_iff b).mp z
    omega
  have a1 := a.toInt_lt
  have a2 := a.le_toInt
  have z : wRem a b = 0 ↔ a.toInt.tmod n = 0 := by rw [← Int64.toInt_inj, l0, wRem_i, e]
  have hd : (a / b).toInt = a.toInt.tdiv n := by
    have h3 : (a.toInt.tdiv (n : Int)).natAbs ≤ a.toInt.natAbs := by
      rw [Int.natAbs_tdiv]
      exact Nat.div_le_self _ _
    rw [Int64.toInt_div, e]
    by_cases q : n = 1
    · subst q
      rw [show ((1 : Nat) : Int) = 1 from rfl, Int.tdiv_one]
      exact Int.bmod_eq_of_le (by omega) (by omega)
    · have := tdiv_rng (b := (n : Int)) a2 (by omega) (by omega) (by omega)
      exact Int.bmod_eq_of_le (by omega) (by omega)
  have hs := Int.tdiv_mul_add_tmod a.toInt (n : Int)
  have hm : (a.toInt.tmod (n : Int)).natAbs < n := by
    rw [Int.natAbs_tmod]
    exact Nat.mod_lt _ (by omega)
  have hr := tmod_rng a.toInt (n : Int)
  have key : ∀ q r : Int, n * q + r = a.toInt → 0 ≤ r → r < n → q = a.toInt / n := fun q r h1 h2 h3 => ((Int.ediv_emod_unique (a := a.toInt) (b := (n : Int)) (by omega)).mpr ⟨by rw [← h1]; omega, h2, h3⟩).1.symm
  rw [Int.mul_comm] at hs
  unfold mFloor
  by_cases q1 : wRem a b = 0
  · rw [if_pos q1, hd]
    exact key _ _ hs (by
      have := z.mp q1
      omega) (by omega)
  · have q1i : ¬ a.toInt.tmod n = 0 := fun e => q1 (z.mpr e)
    rw [if_neg q1, if_neg bn, if_neg bn]
    by_cases q2 : a < 0
    · have q2i := an.mp q2
      have := hr.2 (by omega)
      have hd1 : (a / b - 1).toInt = a.toInt.tdiv n - 1 := by
        have h4 : (n : Int) * (a.toInt.tdiv n) ≤ 0 ∧ a.toInt ≤ (n : Int) * (a.toInt.tdiv n) := by omega
        have h5 : (a.toInt.tdiv (n : Int)).natAbs ≤ a.toInt.natAbs := by
          rw [Int.natAbs_tdiv]
          exact Nat.div_le_self _ _
        rw [Int64.toInt_sub, hd, show (1 : Int64).toInt = 1 by decide]
        refine Int.bmod_eq_of_le ?_ (by omega)
        by_cases q3 : n = 1
        · subst q3
          rw [show ((1 : Nat) : Int) = 1 from rfl, Int.tmod_one] at q1i
          exact absurd rfl q1i
        · have h6 := Int.natAbs_tdiv a.toInt (n : Int)
          have h7 : a.toInt.natAbs.div n ≤ a.toInt.natAbs / 2 := Nat.div_le_div_left (by omega) (by decide)
          rw [Int.natAbs_natCast] at h6
          rw [← h6] at h7
          omega
      rw [if_pos q2, hd1]
      refine key _ (a.toInt.tmod n + n) ?_ (by omega) (by omega)
      rw [Int.mul_sub, Int.mul_one]
      omega
    · have q2i : ¬ a.toInt < 0 := fun e => q2 (an.mpr e)
      have := hr.1 (by omega)
      rw [if_neg q2, hd]
      exact key _ _ hs (by omega) (by omega)
theorem wfloor_div {a b : Int64} {n m : Nat} (h1 : nn a n) (h2 : nn b m) (h0 : m ≠ 0) : wFloor a b = a / b := by
  have h3 := nn_div h1 h2
  refine nn_inj (n := n / m) ?_ h3
  have h1 : a.toInt = n := h1
  unfold nn
  rw [← mFloor_eq (nn_nz h2 h0), floor_nn h2 h0, h1, Int.natCast_ediv]
theorem i32_r (b : Int32) : -2147483648 ≤ b.toInt64.toInt ∧ b.toInt64.toInt < 2147483648 := by
  rw [Int32.toInt_toInt64]
  exact ⟨b.le_toInt, b.toInt_lt⟩
theorem sub_i {b : Int32} {home : Int64} {H : Nat} (hH : nn home H) (lH : H < 2147483648) : (b.toInt64 - home).toInt = b.toInt64.toInt - H := by
  have hH : home.toInt = H := hH
  have := i32_r b
  rw [Int64.toInt_sub, hH]
  exact Int.bmod_eq_of_le (by omega) (by omega)
theorem sub_n {c home : Int64} {H C : Nat} (hc : nn c C) (hH : nn home H) (lH : H < 2147483648) (lC : C < 2147483648) : (c - home).toInt = (C : Int) - H := by
  have hH : home.toInt = H := hH
  have hc : c.toInt = C := hc
  rw [Int64.toInt_sub, hH, hc]
  exact Int.bmod_eq_of_le (by omega) (by omega)
theorem ediv_rng {p : Int} {d : Nat} (h0 : d ≠ 0) {A B : Int} (h1 : A ≤ p) (h2 : p ≤ B) (hA : A ≤ 0) (hB : 0 ≤ B) : A ≤ p / (d : Int) ∧ p / (d : Int) ≤ B := by
  have hd : 0 < (d : Int) := by omega
  refine ⟨(Int.le_ediv_iff_mul_le hd).mpr ?_, ?_⟩
  · have : A * (d : Int) ≤ A * 1 := Int.mul_le_mul_of_nonpos_left hA (by omega)
    omega
  · have e : p / (d : Int) < B + 1 := (Int.ediv_lt_iff_lt_mul hd).mpr (by
      have : (B + 1) * 1 ≤ (B + 1) * (d : Int) := Int.mul_le_mul_of_nonneg_left (by omega) (by omega)
      omega)
    omega
/-- a meeting: the class's and the model's are one number -/
theorem meet_eq (a b : Int32) {m n : Int32} (hm : ¬ m = 0) (hn : ¬ n = 0) {home C M N G : Int64} (eM : M = lAbs m.toInt64) (eN : N = lAbs n.toInt64) (eh : home = mRest a.toInt64 M) (eC : C = mRest b.toInt64 N) (eG : G = mGcd M N) :
    (wRem (C - home) G = 0 → rMeet a m b n = home + M * mRest (mRest ((C - home) / G) (N / G) * mAgainst (M / G) (N / G)) (N / G) ∧ ¬ rMeet a m b n = -1) ∧ (¬ wRem (C - home) G = 0 → rMeet a m b n = -1) := by
  have hM : nn M m.toInt.natAbs := by
    rw [eM]
    exact abs32 m
  have hN : nn N n.toInt.natAbs := by
    rw [eN]
    exact abs32 n
  have m0 := size_pos hm
  have n0 := size_pos hn
  have lm := size_lt m
  have ln := size_lt n
  have sM : rSize m = M := eM.symm
  have sN : rSize n = N := eN.symm
  generalize m.toInt.natAbs = mm at *
  generalize n.toInt.natAbs = nm at *
  have hH := rest_nn a.toInt64 hM m0
  rw [← eh] at hH
  have lH : (a.toInt64.toInt % (mm : Int)).toNat < 2147483648 := by
    have := Int.emod_lt_of_pos a.toInt64.toInt (b := (mm : Int)) (by omega)
    omega
  have hC := rest_nn b.toInt64 hN n0
  rw [← eC] at hC
  have b0 := Int.emod_nonneg b.toInt64.toInt (b := (nm : Int)) (by omega)
  have b1 := Int.emod_lt_of_pos b.toInt64.toInt (b := (nm : Int)) (by omega)
  have bq := Int.mul_ediv_add_emod b.toInt64.toInt nm
  have lC : (b.toInt64.toInt % (nm : Int)).toNat < 2147483648 := by omega
  have br := i32_r b
  have hp := sub_i (b := b) hH lH
  have hp' := sub_n hC hH lH lC
  rw [Int.toNat_of_nonneg b0] at hp'
  generalize (a.toInt64.toInt % (mm : Int)).toNat = H at *
  generalize b.toInt64.toInt / (nm : Int) = qb at *
  generalize b.toInt64.toInt % (nm : Int) = c at *
  have hg : nn (rGcd M N) (Nat.gcd mm nm) := gcd_nn hM hN
  have hG : nn G (Nat.gcd mm nm) := by
    have h1 : M.toInt = mm := hM
    have h2 : N.toInt = nm := hN
    have := mgcd_nn (a := M) (b := N) (by omega) (by omega)
    rw [h1, h2, ← eG] at this
    exact this
  have gG : rGcd M N = G := nn_inj hg hG
  have d0 : Nat.gcd mm nm ≠ 0 := fun e => by
    have := Nat.gcd_pos_of_pos_left nm (show 0 < mm by omega)
    omega
  have cop := Nat.coprime_div_gcd_div_gcd (m := mm) (n := nm) (Nat.pos_of_ne_zero d0)
  have dn := Nat.div_mul_cancel (Nat.gcd_dvd_right mm nm)
  have hU := nn_div hM hG
  have hW := nn_div hN hG
  have w0 : nm / Nat.gcd mm nm ≠ 0 := fun e => by
    rw [e] at dn
    omega
  have lw : nm / Nat.gcd mm nm ≤ nm := Nat.div_le_self _ _
  have hFM := wfloor_div hM hG d0
  have hFN := wfloor_div hN hG d0
  generalize Nat.gcd mm nm = d at *
  generalize nm / d = w at *
  generalize mm / d = u at *
  have hGz := nn_nz hG d0
  have gi : G.toInt = d := hG
  have dn' : (w : Int) * d = nm := by
    rw [← dn, Int.natCast_mul]
  have eB : b.toInt64.toInt - H = (c - H) + (d : Int) * (w * qb) := by
    have : (d : Int) * (w * qb) = nm * qb := by rw [← dn', ← Int.mul_assoc, Int.mul_comm (d : Int) w]
    omega
  have e1 : wRem (C - home) G = 0 ↔ (c - H) % (d : Int) = 0 := by
    rw [← Int64.toInt_inj, l0, wRem_i, hp', gi, ← Int.dvd_iff_tmod_eq_zero, Int.dvd_iff_emod_eq_zero]
  have e2 : wRest (b.toInt64 - home) G = 0 ↔ (c - H) % (d : Int) = 0 := by
    have h1 := rest_nn (b.toInt64 - home) hG d0
    rw [hp, eB, Int.add_mul_emod_self_left] at h1
    have h2 := Int.emod_nonneg (c - H) (b := (d : Int)) (by omega)
    rw [← mRest_eq hGz, nn_0 h1]
    omega
  have eI : rInv (M / G) (N / G) = mAgainst (M / G) (N / G) := by
    have hU : (M / G).toInt = u := hU
    rw [against hW w0, hU, Int.natAbs_natCast, if_pos cop]
  have eR : rMeet a m b n = if wRest (b.toInt64 - home) G = 0 then home + M * wRest (wFloor (b.toInt64 - home) G * mAgainst (M / G) (N / G)) (N / G) else -1 := by
    unfold rMeet
    rw [sM, sN, gG, ← mRest_eq (a := a.toInt64) (nn_nz hM m0), ← eh, hFM, hFN, eI]
  obtain ⟨k, hk, lk⟩ := against_nn (M / G) hW w0
  have hk' : (mAgainst (M / G) (N / G)).toInt = k := hk
  refine ⟨fun h => ?_, fun h => ?_⟩
  · have hz := e1.mp h
    rw [eR, if_pos (e2.mpr hz)]
    have hq := Int.mul_ediv_add_emod (c - H) d
    rw [hz] at hq
    have hF : (wFloor (b.toInt64 - home) G).toInt = (c - H) / (d : Int) + w * qb := by
      rw [← mFloor_eq hGz, floor_nn hG d0, hp, eB, Int.add_mul_ediv_left _ _ (show (d : Int) ≠ 0 by omega)]
    have hFr := ediv_rng (p := b.toInt64.toInt - H) d0 (A := -4294967296) (B := 4294967296) (by omega) (by omega) (by decide) (by decide)
    rw [eB, Int.add_mul_ediv_left _ _ (show (d : Int) ≠ 0 by omega), ← hF] at hFr
    have hD : ((C - home) / G).toInt = (c - H) / (d : Int) := by
      have hr := ediv_rng (p := c - H) d0 (A := -2147483648) (B := 2147483648) (by omega) (by omega) (by decide) (by decide)
      have ht : (c - H).tdiv (d : Int) = (c - H) / (d : Int) := by
        generalize (c - H) / (d : Int) = t at *
        rw [show c - H = d * t by omega]
        exact Int.mul_tdiv_cancel_left _ (show (d : Int) ≠ 0 by omega)
      rw [Int64.toInt_div, hp', gi, ht]
      exact Int.bmod_eq_of_le (by omega) (by omega)
    generalize (c - H) / (d : Int) = t at *
    have hFI : (wFloor (b.toInt64 - home) G * mAgainst (M / G) (N / G)).toInt = (t + w * qb) * k := by
      have := mul_rng hFr.1 hFr.2 (y := (k : Int)) (Y := 2147483647) (by omega) (by omega) (by decide)
      rw [Int64.toInt_mul, hk', Int.bmod_eq_of_le (by omega) (by omega), hF]
    have hRD := rest_nn ((C - home) / G) hW w0
    rw [hD] at hRD
    have t0 := Int.emod_nonneg t (b := (w : Int)) (by omega)
    have t1 := Int.emod_lt_of_pos t (b := (w : Int)) (by omega)
    have hDI : (mRest ((C - home) / G) (N / G) * mAgainst (M / G) (N / G)).toInt = (t % (w : Int)) * k := by
      have hRD : (mRest ((C - home) / G) (N / G)).toInt = ((t % (w : Int)).toNat : Nat) := hRD
      rw [Int.toNat_of_nonneg t0] at hRD
      have := nonneg_mul (x := t % (w : Int)) (X := 2147483648) (y := (k : Int)) (Y := 2147483648) t0 (by omega) (by omega) (by omega)
      rw [Int64.toInt_mul, hk', hRD]
      exact Int.bmod_eq_of_le (by omega) (by omega)
    have hA := rest_nn (wFloor (b.toInt64 - home) G * mAgainst (M / G) (N / G)) hW w0
    have hB := rest_nn (mRest ((C - home) / G) (N / G) * mAgainst (M / G) (N / G)) hW w0
    have hE : (t + w * qb) * k % (w : Int) = (t % (w : Int)) * k % (w : Int) := by
      have h1 : (t + w * qb) * k = (t % (w : Int)) * k + w * ((t / w + qb) * k) := by
        have h2 := Int.mul_ediv_add_emod t w
        have h3 : t + w * qb = t % (w : Int) + w * (t / w + qb) := by
          rw [Int.mul_add]
          omega
        rw [h3, Int.add_mul, Int.mul_assoc]
      rw [h1, Int.add_mul_emod_self_left]
    rw [hFI, hE] at hA
    rw [hDI] at hB
    rw [← mRest_eq (nn_nz hW w0), nn_inj hA hB]
    refine ⟨rfl, nn_m1 (n := H + mm * ((t % (w : Int)) * k % (w : Int)).toNat) ?_⟩
    have z1 := Int.emod_lt_of_pos ((t % (w : Int)) * k) (b := (w : Int)) (by omega)
    have lz : ((t % (w : Int)) * k % (w : Int)).toNat ≤ 2147483648 := by
      have := Int.emod_nonneg ((t % (w : Int)) * k) (b := (w : Int)) (by omega)
      omega
    generalize ((t % (w : Int)) * k % (w : Int)).toNat = z at *
    have hB : (mRest (mRest ((C - home) / G) (N / G) * mAgainst (M / G) (N / G)) (N / G)).toInt = z := hB
    have hH : home.toInt = H := hH
    have hM : M.toInt = mm := hM
    have hr := nonneg_mul (x := (mm : Int)) (X := 2147483648) (y := (z : Int)) (Y := 2147483648) (by omega) (by omega) (by omega) (by omega)
    unfold nn
    rw [Int64.toInt_add, Int64.toInt_mul, hB, hH, hM, Int.bmod_eq_of_le (n := (mm : Int) * z) (by omega) (by omega), Int.bmod_eq_of_le (by omega) (by omega), Int.natCast_add, Int.natCast_mul]
  · rw [eR, if_neg (fun e => h (e1.mpr (e2.mp e)))]
end
section
/-! meetings and digits answered, texts: the class's state and the model's stay one -/
theorem i10_64 : (10 : Int64).toInt = 10 := by decide
theorem div10 (r : Int64) : (r / 10).toInt = r.toInt.tdiv 10 ∧ (r / 10).toInt.natAbs = r.toInt.natAbs / 10 := by
  have r1 := r.toInt_lt
  have r2 := r.le_toInt
  have h3 := Int.natAbs_tdiv r.toInt 10
  have h4 : r.toInt.natAbs.div (Int.natAbs 10) = r.toInt.natAbs / 10 := rfl
  rw [h4] at h3
  have e : (r / 10).toInt = r.toInt.tdiv 10 := by
    rw [Int64.toInt_div, i10_64]
    exact Int.bmod_eq_of_le (by omega) (by omega)
  rw [e]
  exact ⟨rfl, h3⟩
theorem cnt_i : ∀ (n c : Nat) (r : Int64), ndg r.toInt.natAbs ≤ n → c + ndg r.toInt.natAbs ≤ 20 → cntL n (Int32.ofNat c) r = Int32.ofNat (c + ndg r.toInt.natAbs)
  | 0, c, r, h, _ => by
    have := ndg_pos r.toInt.natAbs
    exact absurd h (by omega)
  | n + 1, c, r, h, h2 => by
    obtain ⟨e1, e2⟩ := div10 r
    rw [cntL]
    by_cases q : r / 10 = 0
    · have q' := congrArg Int64.toInt q
      rw [l0] at q'
      rw [q'] at e2
      have e2 : 0 = r.toInt.natAbs / 10 := e2
      rw [if_pos q, ndg_s (by omega), on_s]
    · have q' : ¬ (r / 10).toInt = 0 := fun e => q (Int64.toInt_inj.mp (e.trans l0.symm))
      have hg : ¬ r.toInt.natAbs < 10 := fun e => by omega
      rw [ndg_g hg] at h h2 ⊢
      have hp := ndg_pos (r.toInt.natAbs / 10)
      have hc : Int32.ofNat c + 1 < 20 := by
        rw [on_s, Int32.lt_iff_toInt_lt, oN (by omega), show (20 : Int32).toInt = 20 by decide]
        omega
      rw [if_neg q, if_pos hc, on_s]
      have := cnt_i n (c + 1) (r / 10) (by
        rw [e2]
        omega) (by
        rw [e2]
        omega)
      rw [this, e2]
      congr 1
      omega
theorem cnt_tl (v : Int64) : dCount v = Int32.ofNat (tl v.toInt) := by
  have v1 := v.toInt_lt
  have v2 := v.le_toInt
  have hu := ndg_up 18 v.toInt.natAbs (by
    have : (10 : Nat) ^ (18 + 1) = 10000000000000000000 := by decide
    rw [this]
    omega)
  have e := neg_iff v
  unfold dCount tl sgN
  by_cases q : v < 0
  · rw [if_pos q, if_pos (e.mp q)]
    have := cnt_i 20 1 v (by omega) (by omega)
    rw [Nat.add_comm]
    exact this
  · rw [if_neg q, if_neg (fun z => q (e.mpr z))]
    have := cnt_i 20 0 v (by omega) (by omega)
    rw [Nat.zero_add] at this
    exact this
theorem edge_eq (l : Int32) (v : Int64) : wEdge l v = if v = mLeast l then -1 else if v = -1 - mLeast l then 1 else 0 := by
  unfold wEdge mLeast
  by_cases q : l = 0
  · rw [if_pos q, if_pos q, show (-1 - -2147483648 : Int64) = 2147483647 by decide]
  · rw [if_neg q, if_neg q, show (-1 - -9223372036854775808 : Int64) = 9223372036854775807 by decide]
section REL5
variable {x : XS} {s : MS}
theorem of_eq (h : Rel x s) (l k w : Int32) : xOf l k w x = mOf l k w s := by
  unfold xOf mOf
  rw [num_now h, ord_sg, edge_eq, cnt_tl]
theorem ra_ofNumber (h : Rel x s) (l k w : Int32) : AR (xOfNumber l k w x) (m_ofNumber l k w s) := by
  unfold xOfNumber m_ofNumber
  refine AR_gd (n4_iff k) h (fun hk => AR_rf (rel_T h 0) (fun hw => ?_))
  exact AR_val (rel_T h 0) rfl (of_eq (rel_T h 0) l k w)
theorem ra_together (h : Rel x s) (k r f q g : Int32) : AR (xTogether k r f q g x) (m_together k r f q g s) := by
  unfold xTogether m_together
  rw [nd_nd, nd_nd]
  refine AR_gd ?_ h (fun hk => ?_)
  · rw [n4_iff, n4_iff, n4_iff, n3_iff, n3_iff]
    exact ⟨fun ⟨⟨a, b, c⟩, d, e⟩ => ⟨a, b, c, d, e⟩, fun ⟨a, b, c, d, e⟩ => ⟨⟨a, b, c⟩, d, e⟩⟩
  · rw [res_eq h hk.1.2.1 hk.1.2.2, res_eq h hk.2.1 hk.2.2, mod_eq h, mod_eq h]
    obtain ⟨h1, h2⟩ := meet_eq (mRes r f s) (mRes q g s) (mod_nz h r) (mod_nz h q) rfl rfl rfl rfl rfl
    by_cases z : wRem (mRest (mRes q g (sT 0 s)).toInt64 (lAbs (mMod q (sT 0 s)).toInt64) - (mRest (mRes r f (sT 0 s)).toInt64 (lAbs (mMod r (sT 0 s)).toInt64))) (mGcd (lAbs (mMod r (sT 0 s)).toInt64) (lAbs (mMod q (sT 0 s)).toInt64)) = 0
    · obtain ⟨g1, g2⟩ := h1 z
      rw [if_neg g2, if_pos z, g1]
      exact AR_keep (rel_T h 0) rfl 1 hk.1.1 (fun e => absurd e n10)
    · rw [if_pos (h2 z), if_neg z]
      exact AR_no (rel_T h 0) rfl
theorem ra_text (h : Rel x s) (l k : Int32) : Rel (xText l k x).2 (m_text k s) := by
  unfold xText m_text nd
  split <;> split <;> exact h
theorem ra_distance (h : Rel x s) (l a b : Int32) : Rel (xDistance l a b x).2 (m_distance a b s) := by
  unfold xDistance m_distance nd
  repeat' split
  all_goals exact h
theorem ra_quotient (h : Rel x s) (l k m : Int32) : Rel (xQuotient l k m x).2 (m_quotient k m s) := by
  unfold xQuotient m_quotient nd
  repeat' split
  all_goals exact h
theorem ra_common (h : Rel x s) (r q : Int32) : Rel (xCommon r q x).2 (m_common r q s) := by
  unfold xCommon m_common nd
  repeat' split
  all_goals exact h
theorem ra_ringText (h : Rel x s) (r : Int32) : Rel (xRingText r x).2 (m_ringText r s) := by
  unfold xRingText m_ringText nd
  repeat' split
  all_goals exact h
theorem ra_knock (h : Rel x s) : AR (xKnock x) (m_knock s) := by
  obtain ⟨h1, h2, h3, h4, h5, h6, h7, h8⟩ := h
  have e : xK x + 1 = mK s + 1 := by rw [h8]
  exact ⟨⟨h1, h2, h3, h4, h5, h6, h7, e⟩, rfl, e⟩
end REL5
end
section
/-! THE LAWS OF isSound: numbers -/
theorem sn_avg (w v : Int64) : aAvgs w v = 1 := by
  obtain ⟨h1, h2, h3⟩ := pair_i w v
  have e0 := avg0 w v
  have e1 := avg1 w v n10
  have w1 := w.toInt_lt
  have w2 := w.le_toInt
  have v1 := v.toInt_lt
  have v2 := v.le_toInt
  have c1 : wAvg w v 0 + wAvg w v 1 = w + v := by
    rw [← Int64.toInt_inj, Int64.toInt_add, Int64.toInt_add, e0, e1]
    congr 1
    omega
  have c2 : wAvg w v 1 - wAvg w v 0 = (w ^^^ v) &&& 1 := by
    rw [← Int64.toInt_inj, Int64.toInt_sub, and1, e0, e1]
    rw [Int.bmod_eq_of_le (by omega) (by omega)]
    omega
  have c3 : ¬ wAvg w v 0 < lMin w v := by
    rw [i64_lt, e0]
    unfold lMin
    by_cases q : v < w
    · rw [if_pos q]
      rw [i64_lt] at q
      omega
    · rw [if_neg q]
      rw [i64_lt] at q
      omega
  have c4 : ¬ lMax w v < wAvg w v 1 := by
    rw [i64_lt, e1]
    unfold lMax
    by_cases q : w < v
    · rw [if_pos q]
      rw [i64_lt] at q
      omega
    · rw [if_neg q]
      rw [i64_lt] at q
      omega
  unfold aAvgs
  rw [if_pos c1, if_pos c2, if_neg c3, if_neg c4]
theorem gone_0 (v : Int64) : wGone 0 v = v.toInt32.toInt64 := if_pos rfl
theorem gone_n {l : Int32} (h : ¬ l = 0) (v : Int64) : wGone l v = v := if_neg h
theorem sn_back {l : Int32} {q v r w : Int64} (hw : l = 0 → rt w) (h : q * v + r = w) : wGone l (wGone l q * v + r) = w := by
  by_cases z : l = 0
  · subst z
    have hw : w.toInt32.toInt64 = w := hw rfl
    rw [gone_0, gone_0, Int64.toInt32_add, Int64.toInt32_mul, i6432, ← Int64.toInt32_mul, ← Int64.toInt32_add, h, hw]
  · rw [gone_n z, gone_n z, h]
theorem rem_back (a b : Int64) : a / b * b + wRem a b = a := by
  unfold wRem
  rw [Int64.add_comm, Int64.sub_add_cancel]
theorem rem_back1 (a b : Int64) : (a / b - 1) * b + (wRem a b + b) = a := by
  rw [Int64.sub_mul, Int64.one_mul]
  have := rem_back a b
  generalize a / b * b = p at *
  generalize wRem a b = r at *
  rw [← Int64.toInt_inj] at this ⊢
  rw [Int64.toInt_add] at this
  rw [Int64.toInt_add, Int64.toInt_sub, Int64.toInt_add]
  simp only [Int.bmod_add_bmod, Int.add_bmod_bmod]
  rw [← this]
  congr 1
  omega
theorem floor_back (w : Int64) {v : Int64} (hv : ¬ v = 0) : wFloor w v * v + wRest w v = w := by
  rw [← mFloor_eq hv, ← mRest_eq hv]
  have hr := tmod_rng w.toInt v.toInt
  rw [← wRem_i] at hr
  have z : wRem w v = 0 ↔ (wRem w v).toInt = 0 := by rw [← Int64.toInt_inj, l0]
  have zn := neg_iff (wRem w v)
  have an := neg_iff w
  have h1 := rem_back w v
  have h2 := rem_back1 w v
  unfold mFloor mRest
  by_cases q : wRem w v = 0
  · rw [if_pos q, if_pos q]
    exact h1
  · rw [if_neg q, if_neg q]
    have z1 : ¬ (wRem w v).toInt = 0 := fun e => q (z.mpr e)
    by_cases qa : w < 0
    · have q2 : wRem w v < 0 := zn.mpr (by
        have := an.mp qa
        omega)
      rw [if_pos qa, if_pos q2]
      by_cases qb : v < 0
      · rw [if_pos qb, if_pos qb]
        exact h1
      · rw [if_neg qb, if_neg qb]
        exact h2
    · have q2 : ¬ wRem w v < 0 := fun e => qa (an.mpr (by
        have := zn.mp e
        omega))
      rw [if_neg qa, if_neg q2]
      by_cases qb : v < 0
      · rw [if_pos qb, if_pos qb]
        exact h2
      · rw [if_neg qb, if_neg qb]
        exact h1
theorem sn_side (w : Int64) {v : Int64} (hv : ¬ v = 0) : aSide w v = 1 := by
  obtain ⟨q, -, h1, h2⟩ := rest_spec w v hv
  have vn := neg_iff v
  have v0 : ¬ v.toInt = 0 := fun e => hv (Int64.toInt_inj.mp (e.trans l0.symm))
  unfold aSide
  rw [← mRest_eq hv]
  by_cases q : v < 0
  · have := h2 (vn.mp q)
    rw [if_pos q, if_neg, if_pos]
    · rw [i64_lt]
      omega
    · rw [i64_lt, l0]
      omega
  · have q' : ¬ v.toInt < 0 := fun e => q (vn.mpr e)
    have := h1 (by omega)
    rw [if_neg q, if_neg, if_pos]
    · rw [i64_lt]
      omega
    · rw [i64_lt, l0]
      omega
theorem sn_floor {l : Int32} {w v : Int64} (hw : l = 0 → rt w) (hv : ¬ v = 0) : aFloor l w v = 1 := by
  unfold aFloor
  rw [sn_side w hv, if_neg n10, if_pos (sn_back hw (floor_back w hv))]
theorem sn_tow {l : Int32} {w v : Int64} (hw : l = 0 → rt w) (hv : ¬ v = 0) : aTow l w v = 1 := by
  have h : wQuot w v * v + wRestT w v = w := by
    unfold wQuot wRestT
    rw [if_neg hv, if_neg hv]
    exact rem_back w v
  unfold aTow
  rw [if_pos (sn_back hw h)]
theorem bm32_c (x : Int) : (x.bmod (2 ^ 32) = x % 4294967296 ∧ x % 4294967296 < 2147483648) ∨ (x.bmod (2 ^ 32) = x % 4294967296 - 4294967296 ∧ 2147483648 ≤ x % 4294967296) := by
  rw [Int.bmod_def]
  split
  · exact Or.inl ⟨by omega, by omega⟩
  · exact Or.inr ⟨by omega, by omega⟩
theorem sn_prod {l : Int32} {w v : Int64} (hw : l = 0 → inI w ∧ inI v) : aProd l w v = 1 := by
  have key : (if wUpper l w v = (if wGone l (w * v) < 0 then -1 else 0) then 1 else 0 : Int32) = wExact l w v 2 := by
    by_cases z : l = 0
    · obtain ⟨⟨a1, a2⟩, b1, b2⟩ := hw z
      have ht := true_int (hw z).1 (hw z).2 2
      have hj : wJoin w v 2 = w * v := by
        unfold wJoin
        rw [if_neg n20, if_neg n21]
      subst z
      unfold wExact
      rw [ht, if_neg n10, hj]
      have hp : (w * v).toInt = w.toInt * v.toInt := by
        have := mul_rng (x := w.toInt) (y := v.toInt.natAbs) (X := 2147483648) (Y := 2147483648) (by omega) (by omega) (by omega) (by omega) (by decide)
        have e : w.toInt * v.toInt = w.toInt * (v.toInt.natAbs : Int) ∨ w.toInt * v.toInt = -(w.toInt * (v.toInt.natAbs : Int)) := by
          rcases Int.le_total 0 v.toInt with h | h
          · exact Or.inl (by rw [Int.natAbs_of_nonneg h])
          · refine Or.inr ?_
            rw [← Int.mul_neg]
            congr 1
            omega
        rw [Int64.toInt_mul]
        exact Int.bmod_eq_of_le (by omega) (by omega)
      have hu : (wUpper 0 w v).toInt = (w * v).toInt / 4294967296 := by
        unfold wUpper
        rw [if_pos rfl, shr32]
      have hg : (wGone 0 (w * v)).toInt = (w * v).toInt.bmod (2 ^ 32) := by
        rw [gone_0, Int32.toInt_toInt64, Int64.toInt_toInt32]
      have hc := bm32_c (w * v).toInt
      have hgn := neg_iff (wGone 0 (w * v))
      have hr := rt_iff (w * v)
      have e1 : wUpper 0 w v = (if wGone 0 (w * v) < 0 then -1 else 0) ↔ rt (w * v) := by
        rw [hr, ← Int64.toInt_inj, hu]
        unfold inI
        by_cases q : wGone 0 (w * v) < 0
        · rw [if_pos q, lm1]
          have := hgn.mp q
          omega
        · rw [if_neg q, l0]
          have : ¬ (wGone 0 (w * v)).toInt < 0 := fun e => q (hgn.mpr e)
          omega
      by_cases q : rt (w * v)
      · have hw1 : wWithin 0 (w * v) = 1 := by
          unfold wWithin
          rw [if_pos rfl, if_pos (show w * v = (w * v).toInt32.toInt64 from q.symm)]
        rw [hw1, if_pos (e1.mpr q), if_neg n10]
      · have hw1 : wWithin 0 (w * v) = 0 := by
          unfold wWithin
          rw [if_pos rfl, if_neg (fun e : w * v = (w * v).toInt32.toInt64 => q e.symm)]
        rw [hw1, if_neg (fun e => q (e1.mp e)), if_pos rfl]
    · rw [ex_pro w v z, gone_n z]
      have hu : wUpper l w v = mAbove w v := by
        unfold wUpper mAbove
        rw [if_neg z]
      have hj : wJoin w v 2 = w * v := by
        unfold wJoin
        rw [if_neg n20, if_neg n21]
      unfold mWithin
      rw [hu, hj, if_neg z, if_neg n20, if_neg n21]
      by_cases q : w * v < 0
      · rw [if_pos q, if_pos q]
        rfl
      · rw [if_neg q, if_neg q]
        rfl
  unfold aProd
  rw [if_pos key]
theorem nn_i (n : Nat) (h : n < 2147483648) : nn (Int32.ofNat n).toInt64 n := by
  unfold nn
  rw [Int32.toInt_toInt64]
  exact oN h
theorem sn_chain (w : Int64) : wChain w 2 3 5 = wFloor w 30 := by
  have h2 : nn (2 : Int32).toInt64 2 := rfl
  have h3 : nn (3 : Int32).toInt64 3 := rfl
  have h5 : nn (5 : Int32).toInt64 5 := rfl
  have h30 : nn 30 30 := rfl
  unfold wChain
  rw [← Int64.toInt_inj, ← mFloor_eq (nn_nz h5 (by decide)), floor_nn h5 (by decide), ← mFloor_eq (nn_nz h3 (by decide)), floor_nn h3 (by decide), ← mFloor_eq (nn_nz h2 (by decide)), floor_nn h2 (by decide), ← mFloor_eq (nn_nz h30 (by decide)), floor_nn h30 (by decide)]
  omega
theorem sn_tail {l : Int32} {w v : Int64} (hw : l = 0 → inI w ∧ inI v) : aTail l w v = 1 := by
  unfold aTail
  rw [sn_prod hw, if_neg n10]
  by_cases z : l = 0
  · rw [if_pos z]
  · rw [if_neg z, if_pos (sn_chain w)]
theorem sn_pair {l : Int32} {w v : Int64} (hw : l = 0 → inI w ∧ inI v) : aPair l w v = 1 := by
  have hr : l = 0 → rt w := fun q => (rt_iff _).mpr (hw q).1
  unfold aPair
  rw [sn_avg, if_neg n10]
  by_cases q : v = 0
  · rw [if_pos q]
    exact sn_tail hw
  · rw [if_neg q, sn_floor hr q, if_neg n10, sn_tow hr q, if_neg n10]
    exact sn_tail hw
end
section
/-! THE LAWS OF isSound: residues -/
theorem mul_inI {a b : Int64} (ha : inI a) (hb : inI b) : (a * b).toInt = a.toInt * b.toInt := by
  obtain ⟨a1, a2⟩ := ha
  obtain ⟨b1, b2⟩ := hb
  have := mul_rng (x := a.toInt) (y := b.toInt.natAbs) (X := 2147483648) (Y := 2147483648) (by omega) (by omega) (by omega) (by omega) (by decide)
  have e : a.toInt * b.toInt = a.toInt * (b.toInt.natAbs : Int) ∨ a.toInt * b.toInt = -(a.toInt * (b.toInt.natAbs : Int)) := by
    rcases Int.le_total 0 b.toInt with h | h
    · exact Or.inl (by rw [Int.natAbs_of_nonneg h])
    · refine Or.inr ?_
      rw [← Int.mul_neg]
      congr 1
      omega
  rw [Int64.toInt_mul]
  exact Int.bmod_eq_of_le (by omega) (by omega)
theorem add_inI {a b : Int64} (ha : inI a) (hb : inI b) : (a + b).toInt = a.toInt + b.toInt := by
  obtain ⟨a1, a2⟩ := ha
  obtain ⟨b1, b2⟩ := hb
  rw [Int64.toInt_add]
  exact Int.bmod_eq_of_le (by omega) (by omega)
theorem res_cg {v w : Int64} {m : Int32} (hm : ¬ m = 0) (h : ∃ q : Int, v.toInt = w.toInt + m.toInt * q) : rRes v m = rRes w m := by
  obtain ⟨q, hq⟩ := h
  obtain ⟨p, hp, h1, h2⟩ := rest_spec w m.toInt64 (m_nz hm)
  have e : mRest v m.toInt64 = mRest w m.toInt64 := by
    refine Int64.toInt_inj.mp (rest_uniq (m_nz hm) ⟨p + q, ?_⟩ h1 h2)
    rw [hq, Int32.toInt_toInt64, Int.mul_add]
    rw [Int32.toInt_toInt64] at hp
    omega
  rw [rRes_m _ hm, rRes_m _ hm, e]
theorem res_of (v : Int64) {m : Int32} (hm : ¬ m = 0) : ∃ q : Int, v.toInt = (rRes v m).toInt64.toInt + m.toInt * q := by
  obtain ⟨p, hp, -, -⟩ := rest_spec v m.toInt64 (m_nz hm)
  refine ⟨p, ?_⟩
  rw [rRes_64 v hm]
  rw [Int32.toInt_toInt64] at hp
  omega
theorem sn_keep {a b : Int64} (ha : inI a) (hb : inI b) {m : Int32} (hm : ¬ m = 0) : aKeep a b m = 1 := by
  obtain ⟨p, hp⟩ := res_of a hm
  obtain ⟨q, hq⟩ := res_of b hm
  have iA : inI (rRes a m).toInt64 := i32_r _
  have iB : inI (rRes b m).toInt64 := i32_r _
  have c1 : rRes (a + b) m = rRes ((rRes a m).toInt64 + (rRes b m).toInt64) m := by
    refine res_cg hm ⟨p + q, ?_⟩
    rw [add_inI ha hb, add_inI iA iB, Int.mul_add]
    omega
  have c2 : rRes (a * b) m = rRes ((rRes a m).toInt64 * (rRes b m).toInt64) m := by
    refine res_cg hm ⟨a.toInt * q + p * (rRes b m).toInt64.toInt, ?_⟩
    rw [mul_inI ha hb, mul_inI iA iB]
    generalize (rRes a m).toInt64.toInt = A at *
    generalize (rRes b m).toInt64.toInt = B at *
    generalize a.toInt = x at *
    generalize b.toInt = y at *
    generalize m.toInt = n at *
    have e1 : x * y = x * B + n * (x * q) := by
      rw [hq, Int.mul_add, ← Int.mul_assoc, ← Int.mul_assoc, Int.mul_comm x n]
    have e2 : x * B = A * B + n * (p * B) := by
      rw [hp, Int.add_mul, Int.mul_assoc]
    rw [Int.mul_add]
    omega
  unfold aKeep
  rw [if_pos c1, if_pos c2]
/-- the extended search: what it finds is the common divisor, up to whole sizes -/
theorem bez (v : Int) (sz : Nat) (hs : sz < 4611686018427387904) : ∀ (n : Nat) {g l : Int64} {a b : Nat} (f nf : Int64), nn g a → nn l b → fin n a b → (∃ q : Int, f.toInt * v = a + sz * q) → (∃ q : Int, nf.toInt * v = b + sz * q) → f.toInt.natAbs * b + nf.toInt.natAbs * a ≤ sz → ∃ q : Int, (rInvL n g l f nf).2.toInt * v = (Nat.gcd a b : Nat) + sz * q
  | 0, g, l, a, b, f, nf, h1, h2, h3, hf, hn, hb => by
    have h3 : b = 0 := h3
    subst h3
    rw [rInvL, Nat.gcd_zero_right]
    exact hf
  | n + 1, g, l, a, b, f, nf, h1, h2, h3, hf, hn, hb => by
    by_cases q : b = 0
    · subst q
      rw [rInvL, if_pos ((nn_0 h2).mpr rfl), Nat.gcd_zero_right]
      exact hf
    · have e : ¬ l = 0 := fun z => q ((nn_0 h2).mp z)
      have hd := nn_div h1 h2
      have hd : (g / l).toInt = ((a / b : Nat) : Int) := hd
      have h3 := h3.resolve_left q
      have hq1 : (a / b) * nf.toInt.natAbs ≤ nf.toInt.natAbs * a := by
        rw [Nat.mul_comm]
        exact Nat.mul_le_mul_left _ (Nat.div_le_self a b)
      have hq2 : f.toInt.natAbs ≤ f.toInt.natAbs * b := Nat.le_mul_of_pos_right _ (by omega)
      have hm : (((a / b : Nat) : Int) * nf.toInt).natAbs = (a / b) * nf.toInt.natAbs := by rw [Int.natAbs_mul, Int.natAbs_natCast]
      have e1 : (f - g / l * nf).toInt = f.toInt - ((a / b : Nat) : Int) * nf.toInt := by
        rw [Int64.toInt_sub, Int64.toInt_mul, hd]
        generalize ((a / b : Nat) : Int) * nf.toInt = P at *
        rw [Int.bmod_eq_of_le (n := P) (by omega) (by omega)]
        exact Int.bmod_eq_of_le (by omega) (by omega)
      have hdm := Nat.div_add_mod a b
      obtain ⟨q1, hf⟩ := hf
      obtain ⟨q2, hn2⟩ := hn
      have hn' : ∃ q : Int, (f - g / l * nf).toInt * v = (a % b : Nat) + sz * q := by
        refine ⟨q1 - ((a / b : Nat) : Int) * q2, ?_⟩
        have hdi : ((b : Int) * ((a / b : Nat) : Int)) + ((a % b : Nat) : Int) = a := by
          rw [← Int.natCast_mul, ← Int.natCast_add, hdm]
        rw [e1, Int.sub_mul, hf, Int.mul_assoc, hn2, Int.mul_add, Int.mul_sub, Int.mul_comm ((a / b : Nat) : Int) (b : Int)]
        have e3 : ((a / b : Nat) : Int) * (sz * q2) = sz * (((a / b : Nat) : Int) * q2) := by rw [← Int.mul_assoc, Int.mul_comm ((a / b : Nat) : Int) (sz : Int), Int.mul_assoc]
        omega
      have hb' : nf.toInt.natAbs * (a % b) + (f - g / l * nf).toInt.natAbs * b ≤ sz := by
        have t1 : (f - g / l * nf).toInt.natAbs ≤ f.toInt.natAbs + (a / b) * nf.toInt.natAbs := by
          rw [e1, ← hm]
          omega
        have t2 : (f - g / l * nf).toInt.natAbs * b ≤ (f.toInt.natAbs + (a / b) * nf.toInt.natAbs) * b := Nat.mul_le_mul_right _ t1
        have t3 : (f.toInt.natAbs + (a / b) * nf.toInt.natAbs) * b = f.toInt.natAbs * b + nf.toInt.natAbs * (b * (a / b)) := by
          rw [Nat.add_mul, Nat.mul_comm (a / b) nf.toInt.natAbs, Nat.mul_assoc, Nat.mul_comm (a / b) b]
        have t4 : nf.toInt.natAbs * a = nf.toInt.natAbs * (b * (a / b)) + nf.toInt.natAbs * (a % b) := by
          rw [← Nat.mul_add, hdm]
        omega
      have := bez v sz hs n nf (f - g / l * nf) h2 (nn_rem h1 h2) h3 ⟨q2, hn2⟩ hn' hb'
      rw [rInvL, if_neg e, Nat.gcd_comm a b, Nat.gcd_rec b a, Nat.gcd_comm (a % b) b]
      exact this
theorem inv_ok {v sz : Int64} {n : Nat} (hb : nn sz n) (h0 : n ≠ 0) (hn : n ≤ 2147483648) (hg : Nat.gcd v.toInt.natAbs n = 1) : ∃ q : Int, v.toInt * (mAgainst v sz).toInt = 1 + (n : Int) * q := by
  have hr := rest_nn v hb h0
  have b0 := Int.emod_nonneg v.toInt (b := (n : Int)) (by omega)
  have bq := Int.mul_ediv_add_emod v.toInt n
  have h1 := bez v.toInt n (by omega) 1000 0 1 hb hr (fin_k (nn_lt hr)) ⟨-1, by
    rw [l0, Int.zero_mul, Int.mul_neg, Int.mul_one]
    omega⟩ ⟨v.toInt / n, by
    rw [show (1 : Int64).toInt = 1 by decide, Int.one_mul]
    omega⟩ (by
    rw [l0, show (1 : Int64).toInt = 1 by decide]
    simp)
  rw [gcd_rest v.toInt n h0, hg] at h1
  have e := against (v := v) hb h0
  rw [if_pos hg] at e
  obtain ⟨q, hq⟩ := h1
  have g1 : (rInvL 1000 sz (wRest v sz) 0 1).1 = 1 := by
    have st := (inv_st 1000 1000 0 1 hb hr (fin_k (nn_lt hr)) (fin_k (nn_lt hr))).2.2.1
    rw [gcd_rest v.toInt n h0, hg] at st
    rw [← mRest_eq (nn_nz hb h0)]
    exact Int64.toInt_inj.mp (Eq.trans st (show ((1 : Nat) : Int) = (1 : Int64).toInt by decide))
  rw [← e]
  unfold rInv
  rw [if_pos g1, ← mRest_eq (nn_nz hb h0), ← mRest_eq (nn_nz hb h0)]
  obtain ⟨p, hp, -, -⟩ := rest_spec (rInvL 1000 sz (mRest v sz) 0 1).2 sz (nn_nz hb h0)
  have hb : sz.toInt = n := hb
  rw [hb] at hp
  generalize (rInvL 1000 sz (mRest v sz) 0 1).2 = F at *
  generalize (mRest F sz).toInt = R at *
  refine ⟨q - p * v.toInt, ?_⟩
  have e2 : F.toInt * v.toInt = n * (p * v.toInt) + R * v.toInt := by rw [hp, Int.add_mul, Int.mul_assoc]
  rw [Int.mul_comm v.toInt R, Int.mul_sub]
  have : ((1 : Nat) : Int) = 1 := rfl
  omega
theorem sz_dvd (m : Int32) (q : Int) : ∃ p : Int, (m.toInt.natAbs : Int) * q = m.toInt * p := by
  rcases Int.le_total 0 m.toInt with h | h
  · exact ⟨q, by rw [Int.natAbs_of_nonneg h]⟩
  · exact ⟨-q, by rw [Int.ofNat_natAbs_of_nonpos h, Int.neg_mul, Int.mul_neg]⟩
theorem sn_res {r m : Int32} (hm : ¬ m = 0) (hr : rRes r.toInt64 m = r) : aRes r m = 1 := by
  unfold aRes
  rw [if_pos hr]
  by_cases q : rHas r m = 0
  · rw [if_pos q]
  · rw [if_neg q, if_pos]
    have a0 := against (v := r.toInt64) (size_nn m) (size_pos hm)
    by_cases g : Nat.gcd r.toInt64.toInt.natAbs m.toInt.natAbs = 1
    · rw [if_pos g] at a0
      obtain ⟨k, hk, lk⟩ := against_nn r.toInt64 (size_nn m) (size_pos hm)
      obtain ⟨p, hp⟩ := inv_ok (v := r.toInt64) (size_nn m) (size_pos hm) (size_lt m) g
      obtain ⟨p', hp'⟩ := sz_dvd m p
      unfold rInverse
      rw [a0]
      obtain ⟨t, ht⟩ := res_of (mAgainst r.toInt64 (rSize m)) hm
      refine res_cg hm ⟨p' - r.toInt64.toInt * t, ?_⟩
      rw [mul_inI (i32_r r) (i32_r _), show (1 : Int64).toInt = 1 by decide]
      generalize (rRes (mAgainst r.toInt64 (rSize m)) m).toInt64.toInt = I at *
      rw [ht, Int.mul_add] at hp
      have e : r.toInt64.toInt * (m.toInt * t) = m.toInt * (r.toInt64.toInt * t) := by rw [← Int.mul_assoc, Int.mul_comm r.toInt64.toInt m.toInt, Int.mul_assoc]
      rw [Int.mul_sub]
      omega
    · rw [if_neg g] at a0
      unfold rHas at q
      rw [a0, if_pos rfl] at q
      exact absurd rfl q
end
section
/-! THE LAWS OF isSound: meetings; all of them together -/
theorem meet_ok (a b : Int32) {m n : Int32} (hm : ¬ m = 0) (hn : ¬ n = 0) (hz : ¬ rMeet a m b n = -1) : (∃ q : Int, (rMeet a m b n).toInt = a.toInt64.toInt + (m.toInt.natAbs : Int) * q) ∧ (∃ q : Int, (rMeet a m b n).toInt = b.toInt64.toInt + (n.toInt.natAbs : Int) * q) := by
  obtain ⟨k1, k2⟩ := meet_eq a b hm hn rfl rfl rfl rfl rfl
  by_cases h : wRem (mRest b.toInt64 (lAbs n.toInt64) - mRest a.toInt64 (lAbs m.toInt64)) (mGcd (lAbs m.toInt64) (lAbs n.toInt64)) = 0
  · have eR := (k1 h).1
    clear k1 k2 hz
    have hM := abs32 m
    have hN := abs32 n
    have m0 := size_pos hm
    have n0 := size_pos hn
    have lm := size_lt m
    have ln := size_lt n
    generalize lAbs m.toInt64 = M at *
    generalize lAbs n.toInt64 = N at *
    generalize m.toInt.natAbs = mm at *
    generalize n.toInt.natAbs = nm at *
    have hH := rest_nn a.toInt64 hM m0
    have a0 := Int.emod_nonneg a.toInt64.toInt (b := (mm : Int)) (by omega)
    have a1 := Int.emod_lt_of_pos a.toInt64.toInt (b := (mm : Int)) (by omega)
    have aq := Int.mul_ediv_add_emod a.toInt64.toInt mm
    have lH : (a.toInt64.toInt % (mm : Int)).toNat < 2147483648 := by omega
    have eH : ((a.toInt64.toInt % (mm : Int)).toNat : Int) = a.toInt64.toInt % (mm : Int) := Int.toNat_of_nonneg a0
    have hC := rest_nn b.toInt64 hN n0
    have b0 := Int.emod_nonneg b.toInt64.toInt (b := (nm : Int)) (by omega)
    have b1 := Int.emod_lt_of_pos b.toInt64.toInt (b := (nm : Int)) (by omega)
    have bq := Int.mul_ediv_add_emod b.toInt64.toInt nm
    have lC : (b.toInt64.toInt % (nm : Int)).toNat < 2147483648 := by omega
    have hp' := sub_n hC hH lH lC
    rw [Int.toNat_of_nonneg b0] at hp'
    generalize mRest a.toInt64 M = home at *
    generalize mRest b.toInt64 N = C at *
    generalize (a.toInt64.toInt % (mm : Int)).toNat = H at *
    generalize a.toInt64.toInt % (mm : Int) = H' at *
    generalize a.toInt64.toInt / (mm : Int) = qa at *
    generalize b.toInt64.toInt / (nm : Int) = qb at *
    generalize b.toInt64.toInt % (nm : Int) = c at *
    have hG : nn (mGcd M N) (Nat.gcd mm nm) := by
      have h1 : M.toInt = mm := hM
      have h2 : N.toInt = nm := hN
      have := mgcd_nn (a := M) (b := N) (by omega) (by omega)
      rw [h1, h2] at this
      exact this
    generalize mGcd M N = G at *
    have d0 : Nat.gcd mm nm ≠ 0 := fun e => by
      have := Nat.gcd_pos_of_pos_left nm (show 0 < mm by omega)
      omega
    have cop := Nat.coprime_div_gcd_div_gcd (m := mm) (n := nm) (Nat.pos_of_ne_zero d0)
    have dn := Nat.div_mul_cancel (Nat.gcd_dvd_right mm nm)
    have dm := Nat.div_mul_cancel (Nat.gcd_dvd_left mm nm)
    have hU := nn_div hM hG
    have hW := nn_div hN hG
    have w0 : nm / Nat.gcd mm nm ≠ 0 := fun e => by
      rw [e] at dn
      omega
    have lw : nm / Nat.gcd mm nm ≤ nm := Nat.div_le_self _ _
    generalize Nat.gcd mm nm = d at *
    generalize nm / d = w at *
    generalize mm / d = u at *
    have gi : G.toInt = d := hG
    have dn' : (w : Int) * d = nm := by rw [← dn, Int.natCast_mul]
    have dm' : (u : Int) * d = mm := by rw [← dm, Int.natCast_mul]
    have hUi : (M / G).toInt = u := hU
    obtain ⟨iv, hiv⟩ := inv_ok (v := M / G) hW w0 (by omega) (by rw [hUi, Int.natAbs_natCast]; exact cop)
    obtain ⟨k, hk, lk⟩ := against_nn (M / G) hW w0
    have hk' : (mAgainst (M / G) (N / G)).toInt = k := hk
    rw [hUi, hk'] at hiv
    have e1 : (c - H) % (d : Int) = 0 := by
      have := (Int64.toInt_inj.mpr h).trans l0
      rw [wRem_i, hp', gi, ← Int.dvd_iff_tmod_eq_zero, Int.dvd_iff_emod_eq_zero] at this
      exact this
    have hq := Int.mul_ediv_add_emod (c - H) d
    rw [e1] at hq
    have hD : ((C - home) / G).toInt = (c - H) / (d : Int) := by
      have hr := ediv_rng (p := c - H) d0 (A := -2147483648) (B := 2147483648) (by omega) (by omega) (by decide) (by decide)
      have ht : (c - H).tdiv (d : Int) = (c - H) / (d : Int) := by
        generalize (c - H) / (d : Int) = t at *
        rw [show c - H = d * t by omega]
        exact Int.mul_tdiv_cancel_left _ (show (d : Int) ≠ 0 by omega)
      rw [Int64.toInt_div, hp', gi, ht]
      exact Int.bmod_eq_of_le (by omega) (by omega)
    generalize (c - H) / (d : Int) = t at *
    have hRD := rest_nn ((C - home) / G) hW w0
    rw [hD] at hRD
    have t0 := Int.emod_nonneg t (b := (w : Int)) (by omega)
    have t1 := Int.emod_lt_of_pos t (b := (w : Int)) (by omega)
    have tq := Int.mul_ediv_add_emod t w
    have hDI : (mRest ((C - home) / G) (N / G) * mAgainst (M / G) (N / G)).toInt = (t % (w : Int)) * k := by
      have hRD : (mRest ((C - home) / G) (N / G)).toInt = ((t % (w : Int)).toNat : Nat) := hRD
      rw [Int.toNat_of_nonneg t0] at hRD
      have := nonneg_mul (x := t % (w : Int)) (X := 2147483648) (y := (k : Int)) (Y := 2147483648) t0 (by omega) (by omega) (by omega)
      rw [Int64.toInt_mul, hk', hRD]
      exact Int.bmod_eq_of_le (by omega) (by omega)
    have hB := rest_nn (mRest ((C - home) / G) (N / G) * mAgainst (M / G) (N / G)) hW w0
    rw [hDI] at hB
    have z0 := Int.emod_nonneg ((t % (w : Int)) * k) (b := (w : Int)) (by omega)
    have z1 := Int.emod_lt_of_pos ((t % (w : Int)) * k) (b := (w : Int)) (by omega)
    have zq := Int.mul_ediv_add_emod ((t % (w : Int)) * k) w
    have lz : ((t % (w : Int)) * k % (w : Int)).toNat ≤ 2147483648 := by omega
    have eZ : (((t % (w : Int)) * k % (w : Int)).toNat : Int) = (t % (w : Int)) * k % (w : Int) := Int.toNat_of_nonneg z0
    generalize ((t % (w : Int)) * k % (w : Int)).toNat = z at *
    have hB : (mRest (mRest ((C - home) / G) (N / G) * mAgainst (M / G) (N / G)) (N / G)).toInt = z := hB
    have hH : home.toInt = H := hH
    have hM : M.toInt = mm := hM
    have hr := nonneg_mul (x := (mm : Int)) (X := 2147483648) (y := (z : Int)) (Y := 2147483648) (by omega) (by omega) (by omega) (by omega)
    have eV : (rMeet a m b n).toInt = H + (mm : Int) * z := by
      rw [eR, Int64.toInt_add, Int64.toInt_mul, hB, hH, hM, Int.bmod_eq_of_le (n := (mm : Int) * z) (by omega) (by omega)]
      exact Int.bmod_eq_of_le (by omega) (by omega)
    rw [eV]
    refine ⟨⟨z - qa, by rw [Int.mul_sub]; omega⟩, ?_⟩
    rw [← eZ] at zq
    generalize t % (w : Int) = r at *
    generalize r * (k : Int) / (w : Int) = p at *
    generalize t / (w : Int) = s at *
    -- u k = 1 + w iv ; r k = w p + z ; t = w s + r ; c - H = d t
    have e2 : (u : Int) * z = t + w * (r * iv - u * p - s) := by
      have x1 : (u : Int) * (r * k) = r + r * (w * iv) := by
        have : (u : Int) * (r * k) = r * (u * k) := by rw [← Int.mul_assoc, Int.mul_comm (u : Int) r, Int.mul_assoc]
        rw [this, hiv, Int.mul_add, Int.mul_one]
      rw [← zq, Int.mul_add] at x1
      have x2 : (u : Int) * (w * p) = w * (u * p) := by rw [← Int.mul_assoc, Int.mul_comm (u : Int) w, Int.mul_assoc]
      have x3 : r * (w * iv) = w * (r * iv) := by rw [← Int.mul_assoc, Int.mul_comm r w, Int.mul_assoc]
      rw [Int.mul_sub, Int.mul_sub]
      omega
    have e3 : (mm : Int) * z = (c - H) + nm * (r * iv - u * p - s) := by
      generalize r * iv - u * p - s = y at *
      have x1 : (mm : Int) * z = d * (u * z) := by rw [← dm', Int.mul_comm (u : Int) d, Int.mul_assoc]
      have x2 : (nm : Int) * y = d * (w * y) := by rw [← dn', Int.mul_comm (w : Int) d, Int.mul_assoc]
      rw [x1, e2, x2, Int.mul_add]
      omega
    refine ⟨r * iv - u * p - s - qb, ?_⟩
    rw [Int.mul_sub]
    omega
  · exact absurd (k2 h) hz
theorem sn_meet {a b m n : Int32} (hm : ¬ m = 0) (hn : ¬ n = 0) (ha : rRes a.toInt64 m = a) (hb : rRes b.toInt64 n = b) : aMeet a m b n = 1 := by
  unfold aMeet
  by_cases q : rMeet a m b n = -1
  · rw [if_pos q]
  · obtain ⟨⟨p1, h1⟩, p2, h2⟩ := meet_ok a b hm hn q
    obtain ⟨s1, e1⟩ := sz_dvd m p1
    obtain ⟨s2, e2⟩ := sz_dvd n p2
    have c1 : rRes (rMeet a m b n) m = a := (res_cg hm ⟨s1, by rw [h1, e1]⟩).trans ha
    have c2 : rRes (rMeet a m b n) n = b := (res_cg hn ⟨s2, by rw [h2, e2]⟩).trans hb
    rw [if_neg q, if_pos c1, if_pos c2]
/-- every residue lies in its ring -/
def Red (s : MS) : Prop := ∀ i j : Nat, i < 3 → j < 4 → rRes (mR s i j).toInt64 (mM s i) = mR s i j
def Rel2 (x : XS) (s : MS) : Prop := Rel x s ∧ Red s
theorem rel2_T {x : XS} {s : MS} (h : Rel2 x s) (v : Int32) : Rel2 x (sT v s) := h
section SND
variable {x : XS} {s : MS}
theorem red_res (h : Rel2 x s) {r k : Int32} (hr : ok3 r) (hk : ok4 k) : rRes (xRes r k x).toInt64 (xMod r x) = xRes r k x := by
  rw [res_eq h.1 hr hk, mod_eq h.1]
  exact h.2 _ _ (cl3 hr) (cl4 hk)
theorem num_in (h : Rel x s) (l i j : Int32) : l = 0 → inI (xNum l i x) ∧ inI (xNum l j x) := fun q => by
  rw [num_now h, num_now h]
  exact in_now h i j q
theorem ns_1 (h : Rel x s) (l : Int32) : ∀ (n : Nat) (i : Int32), nsL l x n i = 1
  | 0, i => by rw [nsL]
  | n + 1, i => by
    rw [nsL, sn_pair (num_in h l i (nx4 i)), if_neg n10]
    exact ns_1 h l n (i + 1)
theorem xmod_nz (h : Rel x s) (r : Int32) : ¬ xMod r x = 0 := by
  rw [mod_eq h]
  exact mod_nz h r
theorem rs1_1 (h : Rel2 x s) {r : Int32} (hr : ok3 r) : rs1 x r 4 0 = 1 := by
  have k : ∀ {i : Int32}, ok4 i → aRes (xRes r i x) (xMod r x) = 1 := fun hi => sn_res (xmod_nz h.1 r) (red_res h hr hi)
  have k0 := k (i := 0) ⟨by decide, by decide⟩
  have k1 := k (i := 0 + 1) ⟨by decide, by decide⟩
  have k2 := k (i := 0 + 1 + 1) ⟨by decide, by decide⟩
  have k3 := k (i := 0 + 1 + 1 + 1) ⟨by decide, by decide⟩
  rw [rs1, k0, if_neg n10, rs1, k1, if_neg n10, rs1, k2, if_neg n10, rs1, k3, if_neg n10, rs1]
theorem rs2_1 (h : Rel x s) (r : Int32) : ∀ (n : Nat) (i : Int32), rs2 x r n i = 1
  | 0, i => by rw [rs2]
  | n + 1, i => by
    have k := num_in h 0 i (nx4 i) rfl
    rw [rs2, sn_keep k.1 k.2 (xmod_nz h r), if_neg n10]
    exact rs2_1 h r n (i + 1)
theorem rsO_1 (h : Rel2 x s) : rsO x 3 0 = 1 := by
  have k : ∀ {r : Int32}, ok3 r → rs1 x r 4 0 = 1 ∧ rs2 x r 4 0 = 1 := fun hr => ⟨rs1_1 h hr, rs2_1 h.1 _ 4 0⟩
  have k0 := k (r := 0) ⟨by decide, by decide⟩
  have k1 := k (r := 0 + 1) ⟨by decide, by decide⟩
  have k2 := k (r := 0 + 1 + 1) ⟨by decide, by decide⟩
  rw [rsO, k0.1, if_neg n10, k0.2, if_neg n10, rsO, k1.1, if_neg n10, k1.2, if_neg n10, rsO, k2.1, if_neg n10, k2.2, if_neg n10, rsO]
theorem am_1 (h : Rel2 x s) {i j : Int32} (hi : ok3 i) (hj : ok3 j) : aMeet (xRes i 0 x) (xMod i x) (xRes j 0 x) (xMod j x) = 1 :=
  sn_meet (xmod_nz h.1 i) (xmod_nz h.1 j) (red_res h hi ⟨by decide, by decide⟩) (red_res h hj ⟨by decide, by decide⟩)
theorem msO_1 (h : Rel2 x s) : msO x 3 0 = 1 := by
  have o0 : ok3 0 := ⟨by decide, by decide⟩
  have o1 : ok3 (0 + 1) := ⟨by decide, by decide⟩
  have o2 : ok3 (0 + 1 + 1) := ⟨by decide, by decide⟩
  rw [msO, msI, am_1 h o0 o1, if_neg n10, msI, am_1 h o0 o2, if_neg n10, msI, if_neg n10, msO, msI, am_1 h o1 o2, if_neg n10, msI, if_neg n10, msO, msI, if_neg n10, msO]
theorem snd_1 (h : Rel2 x s) : xSound x = 1 := by
  unfold xSound
  rw [ns_1 h.1 0, if_neg n10, ns_1 h.1 1, if_neg n10, rsO_1 h, if_neg n10, msO_1 h, if_neg n10]
end SND
end
section
/-! EVERY CALL KEEPS THE RESIDUES IN THEIR RINGS; the digest -/
def Red2 (o : MO) : Prop := Red o.2
theorem red_gd {c : Prop} [Decidable c] {s : MS} {r : MO} (h : Red s) (hr : Red2 r) : Red2 (gd c s r) := by
  unfold gd
  by_cases q : c
  · rw [if_pos q]
    exact hr
  · rw [if_neg q]
    exact h
theorem red_rf {c : Prop} [Decidable c] {s : MS} {r : MO} (h : Red s) (hr : Red2 r) : Red2 (rf c s r) := by
  unfold rf
  by_cases q : c
  · rw [if_pos q]
    exact hr
  · rw [if_neg q]
    exact h
theorem red_ite {c : Prop} [Decidable c] {a b : MO} (ha : Red2 a) (hb : Red2 b) : Red2 (if c then a else b) := by
  by_cases q : c
  · rw [if_pos q]
    exact ha
  · rw [if_neg q]
    exact hb
theorem red_set {s : MS} (h : Red s) (l k : Int32) (v : Int64) : Red (sSet l k v s) := by
  unfold sSet
  by_cases q : l = 0
  · rw [if_pos q]
    exact h
  · rw [if_neg q]
    exact h
theorem red_become {s : MS} (h : Red s) {l k : Int32} {v : Int64} : Red2 (mBecome l k v s) := red_set h l k v
theorem red_no {s : MS} (h : Red s) : Red2 (mNo s) := h
theorem red_pair {s : MS} (h : Red s) {v : Int32} : Red2 (v, s) := h
theorem red_ps {s : MS} (h : Red s) {a l k : Int32} {v : Int64} : Red2 (a, sSet l k v s) := red_set h l k v
def RedTo (p n : Nat) (s : MS) : Prop := ∀ i j : Nat, i < 3 → j < 4 → (i = p → j < n) → rRes (mR s i j).toInt64 (mM s i) = mR s i j
theorem redto_come {p n : Nat} {s : MS} (h : RedTo p n s) (hz : ∀ j, ¬ mM s j = 0) {r k : Int32} (hp : r.toNatClampNeg = p) (v : Int64) (hn : k.toNatClampNeg = n) : RedTo p (n + 1) (mCome r k v s).2 := fun i j hi hj hc => by
  show rRes ((if i = r.toNatClampNeg then upd (mR s i) k.toNatClampNeg (mRest v (mMod r s).toInt64).toInt32 else mR s i) j).toInt64 (mM s i) = (if i = r.toNatClampNeg then upd (mR s i) k.toNatClampNeg (mRest v (mMod r s).toInt64).toInt32 else mR s i) j
  by_cases q : i = r.toNatClampNeg
  · rw [if_pos q]
    have hm : mM s i = mMod r s := by
      rw [q]
      rfl
    unfold upd
    by_cases q2 : j = k.toNatClampNeg
    · rw [if_pos q2, hm, ← rRes_m v (show ¬ mMod r s = 0 from hz _)]
      exact rRes_2 v (show ¬ mMod r s = 0 from hz _)
    · rw [if_neg q2]
      refine h i j hi hj (fun e => ?_)
      have := hc e
      omega
  · rw [if_neg q]
    exact h i j hi hj (fun e => absurd (e.trans hp.symm) q)
theorem red_to {p : Nat} {s : MS} (h : Red s) (n : Nat) : RedTo p n s := fun i j hi hj _ => h i j hi hj
theorem to_red {p : Nat} {s : MS} (h : RedTo p 4 s) : Red s := fun i j hi hj => h i j hi hj (fun _ => hj)
theorem red_come {s : MS} (h : Red s) (hz : ∀ j, ¬ mM s j = 0) {r k : Int32} {v : Int64} : Red2 (mCome r k v s) := fun i j hi hj => by
  show rRes ((if i = r.toNatClampNeg then upd (mR s i) k.toNatClampNeg (mRest v (mMod r s).toInt64).toInt32 else mR s i) j).toInt64 (mM s i) = (if i = r.toNatClampNeg then upd (mR s i) k.toNatClampNeg (mRest v (mMod r s).toInt64).toInt32 else mR s i) j
  by_cases q : i = r.toNatClampNeg
  · rw [if_pos q]
    have hm : mM s i = mMod r s := by
      rw [q]
      rfl
    unfold upd
    by_cases q2 : j = k.toNatClampNeg
    · rw [if_pos q2, hm, ← rRes_m v (show ¬ mMod r s = 0 from hz _)]
      exact rRes_2 v (show ¬ mMod r s = 0 from hz _)
    · rw [if_neg q2]
      exact h i j hi hj
  · rw [if_neg q]
    exact h i j hi hj
theorem red_pc {s : MS} (h : Red s) (hz : ∀ j, ¬ mM s j = 0) {r k : Int32} {v : Int64} {a : Int32} : Red2 (a, (mCome r k v s).2) := red_come h hz

theorem nz_come {s : MS} (hz : ∀ j, ¬ mM s j = 0) (r k : Int32) (v : Int64) : ∀ j, ¬ mM (mCome r k v s).2 j = 0 := hz
theorem rd_modulus {s : MS} (h : Red s) (hz : ∀ j, ¬ mM s j = 0) (r m : Int32) : Red (m_modulus r m s).2 := by
  show Red2 (m_modulus r m s)
  unfold m_modulus
  refine red_gd h ?_
  unfold rf
  by_cases q : ¬ m = 0
  · rw [if_pos q]
    have z0 : ∀ j, ¬ mM (sSetM r m (sT 0 s)) j = 0 := fun j => by
      show ¬ upd (mM s) r.toNatClampNeg m j = 0
      unfold upd
      split
      · exact q
      · exact hz j
    have g0 : RedTo r.toNatClampNeg 0 (sSetM r m (sT 0 s)) := fun i j hi hj hc => by
      have hn : ¬ i = r.toNatClampNeg := fun e => absurd (hc e) (Nat.not_lt_zero j)
      show rRes (mR s i j).toInt64 (upd (mM s) r.toNatClampNeg m i) = mR s i j
      unfold upd
      rw [if_neg hn]
      exact h i j hi hj
    have g1 := redto_come g0 z0 (k := 0) rfl (mRes r 0 (sSetM r m (sT 0 s))).toInt64 (by decide)
    have g2 := redto_come g1 (nz_come z0 _ _ _) (k := 0 + 1) rfl (mRes r (0 + 1) (mCome r 0 (mRes r 0 (sSetM r m (sT 0 s))).toInt64 (sSetM r m (sT 0 s))).2).toInt64 (by decide)
    have g3 := fun v => redto_come g2 (nz_come (nz_come z0 _ _ _) _ _ _) (r := r) (k := 0 + 1 + 1) rfl v (by decide)
    show Red (mgL r 4 0 (sSetM r m (sT 0 s)))
    simp only [mgL]
    exact to_red (redto_come (g3 _) (nz_come (nz_come (nz_come z0 _ _ _) _ _ _) _ _ _) (k := 0 + 1 + 1 + 1) rfl _ (by decide))
  · rw [if_neg q]
    exact h
theorem rd_put {s : MS} (h : Red s) (hz : ∀ j, ¬ mM s j = 0) (l k hi lo : Int32) : Red (m_put l k hi lo s).2 := by
  have h0 : Red (sT 0 s) := h
  have z0 : ∀ j, ¬ mM (sT 0 s) j = 0 := hz
  show Red2 (m_put l k hi lo s)
  unfold m_put
  repeat' first | with_reducible refine red_gd h ?_ | with_reducible refine red_rf h0 ?_ | with_reducible exact red_become h0 | with_reducible exact red_no h0 | with_reducible exact red_come h0 z0 | with_reducible exact red_pc h0 z0 | with_reducible exact red_pair h0 | with_reducible exact red_ps h0 | with_reducible refine red_ite ?_ ?_
theorem rd_copy {s : MS} (h : Red s) (hz : ∀ j, ¬ mM s j = 0) (l k f : Int32) : Red (m_copy l k f s).2 := by
  have h0 : Red (sT 0 s) := h
  have z0 : ∀ j, ¬ mM (sT 0 s) j = 0 := hz
  show Red2 (m_copy l k f s)
  unfold m_copy
  repeat' first | with_reducible refine red_gd h ?_ | with_reducible refine red_rf h0 ?_ | with_reducible exact red_become h0 | with_reducible exact red_no h0 | with_reducible exact red_come h0 z0 | with_reducible exact red_pc h0 z0 | with_reducible exact red_pair h0 | with_reducible exact red_ps h0 | with_reducible refine red_ite ?_ ?_
theorem rd_widen {s : MS} (h : Red s) (hz : ∀ j, ¬ mM s j = 0) (k f : Int32) : Red (m_widen k f s).2 := by
  have h0 : Red (sT 0 s) := h
  have z0 : ∀ j, ¬ mM (sT 0 s) j = 0 := hz
  show Red2 (m_widen k f s)
  unfold m_widen
  repeat' first | with_reducible refine red_gd h ?_ | with_reducible refine red_rf h0 ?_ | with_reducible exact red_become h0 | with_reducible exact red_no h0 | with_reducible exact red_come h0 z0 | with_reducible exact red_pc h0 z0 | with_reducible exact red_pair h0 | with_reducible exact red_ps h0 | with_reducible refine red_ite ?_ ?_
theorem rd_narrow {s : MS} (h : Red s) (hz : ∀ j, ¬ mM s j = 0) (k f : Int32) : Red (m_narrow k f s).2 := by
  have h0 : Red (sT 0 s) := h
  have z0 : ∀ j, ¬ mM (sT 0 s) j = 0 := hz
  show Red2 (m_narrow k f s)
  unfold m_narrow
  repeat' first | with_reducible refine red_gd h ?_ | with_reducible refine red_rf h0 ?_ | with_reducible exact red_become h0 | with_reducible exact red_no h0 | with_reducible exact red_come h0 z0 | with_reducible exact red_pc h0 z0 | with_reducible exact red_pair h0 | with_reducible exact red_ps h0 | with_reducible refine red_ite ?_ ?_
theorem rd_exact {s : MS} (h : Red s) (hz : ∀ j, ¬ mM s j = 0) (l k f q : Int32) : Red (m_exact l k f q s).2 := by
  have h0 : Red (sT 0 s) := h
  have z0 : ∀ j, ¬ mM (sT 0 s) j = 0 := hz
  show Red2 (m_exact l k f q s)
  unfold m_exact
  repeat' first | with_reducible refine red_gd h ?_ | with_reducible refine red_rf h0 ?_ | with_reducible exact red_become h0 | with_reducible exact red_no h0 | with_reducible exact red_come h0 z0 | with_reducible exact red_pc h0 z0 | with_reducible exact red_pair h0 | with_reducible exact red_ps h0 | with_reducible refine red_ite ?_ ?_
theorem rd_fits {s : MS} (h : Red s) (hz : ∀ j, ¬ mM s j = 0) (l k f q : Int32) : Red (m_fits l k f q s).2 := by
  have h0 : Red (sT 0 s) := h
  have z0 : ∀ j, ¬ mM (sT 0 s) j = 0 := hz
  show Red2 (m_fits l k f q s)
  unfold m_fits
  repeat' first | with_reducible refine red_gd h ?_ | with_reducible refine red_rf h0 ?_ | with_reducible exact red_become h0 | with_reducible exact red_no h0 | with_reducible exact red_come h0 z0 | with_reducible exact red_pc h0 z0 | with_reducible exact red_pair h0 | with_reducible exact red_ps h0 | with_reducible refine red_ite ?_ ?_
theorem rd_alone {s : MS} (h : Red s) (hz : ∀ j, ¬ mM s j = 0) (l k q : Int32) : Red (m_alone l k q s).2 := by
  have h0 : Red (sT 0 s) := h
  have z0 : ∀ j, ¬ mM (sT 0 s) j = 0 := hz
  show Red2 (m_alone l k q s)
  unfold m_alone
  repeat' first | with_reducible refine red_gd h ?_ | with_reducible refine red_rf h0 ?_ | with_reducible exact red_become h0 | with_reducible exact red_no h0 | with_reducible exact red_come h0 z0 | with_reducible exact red_pc h0 z0 | with_reducible exact red_pair h0 | with_reducible exact red_ps h0 | with_reducible refine red_ite ?_ ?_
theorem rd_timesInt {s : MS} (h : Red s) (hz : ∀ j, ¬ mM s j = 0) (k f : Int32) : Red (m_timesInt k f s).2 := by
  have h0 : Red (sT 0 s) := h
  have z0 : ∀ j, ¬ mM (sT 0 s) j = 0 := hz
  show Red2 (m_timesInt k f s)
  unfold m_timesInt
  repeat' first | with_reducible refine red_gd h ?_ | with_reducible refine red_rf h0 ?_ | with_reducible exact red_become h0 | with_reducible exact red_no h0 | with_reducible exact red_come h0 z0 | with_reducible exact red_pc h0 z0 | with_reducible exact red_pair h0 | with_reducible exact red_ps h0 | with_reducible refine red_ite ?_ ?_
theorem rd_full {s : MS} (h : Red s) (hz : ∀ j, ¬ mM s j = 0) (k a b : Int32) : Red (m_full k a b s).2 := by
  have h0 : Red (sT 0 s) := h
  have z0 : ∀ j, ¬ mM (sT 0 s) j = 0 := hz
  show Red2 (m_full k a b s)
  unfold m_full
  repeat' first | with_reducible refine red_gd h ?_ | with_reducible refine red_rf h0 ?_ | with_reducible exact red_become h0 | with_reducible exact red_no h0 | with_reducible exact red_come h0 z0 | with_reducible exact red_pc h0 z0 | with_reducible exact red_pair h0 | with_reducible exact red_ps h0 | with_reducible refine red_ite ?_ ?_
theorem rd_high {s : MS} (h : Red s) (hz : ∀ j, ¬ mM s j = 0) (k a b : Int32) : Red (m_high k a b s).2 := by
  have h0 : Red (sT 0 s) := h
  have z0 : ∀ j, ¬ mM (sT 0 s) j = 0 := hz
  show Red2 (m_high k a b s)
  unfold m_high
  repeat' first | with_reducible refine red_gd h ?_ | with_reducible refine red_rf h0 ?_ | with_reducible exact red_become h0 | with_reducible exact red_no h0 | with_reducible exact red_come h0 z0 | with_reducible exact red_pc h0 z0 | with_reducible exact red_pair h0 | with_reducible exact red_ps h0 | with_reducible refine red_ite ?_ ?_
theorem rd_round {s : MS} (h : Red s) (hz : ∀ j, ¬ mM s j = 0) (l k f q : Int32) : Red (m_round l k f q s).2 := by
  have h0 : Red (sT 0 s) := h
  have z0 : ∀ j, ¬ mM (sT 0 s) j = 0 := hz
  show Red2 (m_round l k f q s)
  unfold m_round
  repeat' first | with_reducible refine red_gd h ?_ | with_reducible refine red_rf h0 ?_ | with_reducible exact red_become h0 | with_reducible exact red_no h0 | with_reducible exact red_come h0 z0 | with_reducible exact red_pc h0 z0 | with_reducible exact red_pair h0 | with_reducible exact red_ps h0 | with_reducible refine red_ite ?_ ?_
theorem rd_abs {s : MS} (h : Red s) (hz : ∀ j, ¬ mM s j = 0) (l k : Int32) : Red (m_abs l k s).2 := by
  have h0 : Red (sT 0 s) := h
  have z0 : ∀ j, ¬ mM (sT 0 s) j = 0 := hz
  show Red2 (m_abs l k s)
  unfold m_abs
  repeat' first | with_reducible refine red_gd h ?_ | with_reducible refine red_rf h0 ?_ | with_reducible exact red_become h0 | with_reducible exact red_no h0 | with_reducible exact red_come h0 z0 | with_reducible exact red_pc h0 z0 | with_reducible exact red_pair h0 | with_reducible exact red_ps h0 | with_reducible refine red_ite ?_ ?_
theorem rd_extreme {s : MS} (h : Red s) (hz : ∀ j, ¬ mM s j = 0) (l k f g : Int32) : Red (m_extreme l k f g s).2 := by
  have h0 : Red (sT 0 s) := h
  have z0 : ∀ j, ¬ mM (sT 0 s) j = 0 := hz
  show Red2 (m_extreme l k f g s)
  unfold m_extreme
  repeat' first | with_reducible refine red_gd h ?_ | with_reducible refine red_rf h0 ?_ | with_reducible exact red_become h0 | with_reducible exact red_no h0 | with_reducible exact red_come h0 z0 | with_reducible exact red_pc h0 z0 | with_reducible exact red_pair h0 | with_reducible exact red_ps h0 | with_reducible refine red_ite ?_ ?_
theorem rd_floor {s : MS} (h : Red s) (hz : ∀ j, ¬ mM s j = 0) (l k f r : Int32) : Red (m_floor l k f r s).2 := by
  have h0 : Red (sT 0 s) := h
  have z0 : ∀ j, ¬ mM (sT 0 s) j = 0 := hz
  show Red2 (m_floor l k f r s)
  unfold m_floor
  repeat' first | with_reducible refine red_gd h ?_ | with_reducible refine red_rf h0 ?_ | with_reducible exact red_become h0 | with_reducible exact red_no h0 | with_reducible exact red_come h0 z0 | with_reducible exact red_pc h0 z0 | with_reducible exact red_pair h0 | with_reducible exact red_ps h0 | with_reducible refine red_ite ?_ ?_
theorem rd_floorInt {s : MS} (h : Red s) (hz : ∀ j, ¬ mM s j = 0) (k f r : Int32) : Red (m_floorInt k f r s).2 := by
  have h0 : Red (sT 0 s) := h
  have z0 : ∀ j, ¬ mM (sT 0 s) j = 0 := hz
  show Red2 (m_floorInt k f r s)
  unfold m_floorInt
  repeat' first | with_reducible refine red_gd h ?_ | with_reducible refine red_rf h0 ?_ | with_reducible exact red_become h0 | with_reducible exact red_no h0 | with_reducible exact red_come h0 z0 | with_reducible exact red_pc h0 z0 | with_reducible exact red_pair h0 | with_reducible exact red_ps h0 | with_reducible refine red_ite ?_ ?_
theorem rd_towards {s : MS} (h : Red s) (hz : ∀ j, ¬ mM s j = 0) (l k f r : Int32) : Red (m_towards l k f r s).2 := by
  have h0 : Red (sT 0 s) := h
  have z0 : ∀ j, ¬ mM (sT 0 s) j = 0 := hz
  show Red2 (m_towards l k f r s)
  unfold m_towards
  repeat' first | with_reducible refine red_gd h ?_ | with_reducible refine red_rf h0 ?_ | with_reducible exact red_become h0 | with_reducible exact red_no h0 | with_reducible exact red_come h0 z0 | with_reducible exact red_pc h0 z0 | with_reducible exact red_pair h0 | with_reducible exact red_ps h0 | with_reducible refine red_ite ?_ ?_
theorem rd_average {s : MS} (h : Red s) (hz : ∀ j, ¬ mM s j = 0) (l k f u : Int32) : Red (m_average l k f u s).2 := by
  have h0 : Red (sT 0 s) := h
  have z0 : ∀ j, ¬ mM (sT 0 s) j = 0 := hz
  show Red2 (m_average l k f u s)
  unfold m_average
  repeat' first | with_reducible refine red_gd h ?_ | with_reducible refine red_rf h0 ?_ | with_reducible exact red_become h0 | with_reducible exact red_no h0 | with_reducible exact red_come h0 z0 | with_reducible exact red_pc h0 z0 | with_reducible exact red_pair h0 | with_reducible exact red_ps h0 | with_reducible refine red_ite ?_ ?_
theorem rd_chain {s : MS} (h : Red s) (hz : ∀ j, ¬ mM s j = 0) (k a b c : Int32) : Red (m_chain k a b c s).2 := by
  have h0 : Red (sT 0 s) := h
  have z0 : ∀ j, ¬ mM (sT 0 s) j = 0 := hz
  show Red2 (m_chain k a b c s)
  unfold m_chain
  repeat' first | with_reducible refine red_gd h ?_ | with_reducible refine red_rf h0 ?_ | with_reducible exact red_become h0 | with_reducible exact red_no h0 | with_reducible exact red_come h0 z0 | with_reducible exact red_pc h0 z0 | with_reducible exact red_pair h0 | with_reducible exact red_ps h0 | with_reducible refine red_ite ?_ ?_
theorem rd_atOnce {s : MS} (h : Red s) (hz : ∀ j, ¬ mM s j = 0) (k a b c : Int32) : Red (m_atOnce k a b c s).2 := by
  have h0 : Red (sT 0 s) := h
  have z0 : ∀ j, ¬ mM (sT 0 s) j = 0 := hz
  show Red2 (m_atOnce k a b c s)
  unfold m_atOnce
  repeat' first | with_reducible refine red_gd h ?_ | with_reducible refine red_rf h0 ?_ | with_reducible exact red_become h0 | with_reducible exact red_no h0 | with_reducible exact red_come h0 z0 | with_reducible exact red_pc h0 z0 | with_reducible exact red_pair h0 | with_reducible exact red_ps h0 | with_reducible refine red_ite ?_ ?_
theorem rd_distance {s : MS} (h : Red s) (hz : ∀ j, ¬ mM s j = 0) (a b : Int32) : Red (m_distance a b s) := by
  unfold m_distance
  repeat' first | exact h | split
theorem rd_compare {s : MS} (h : Red s) (hz : ∀ j, ¬ mM s j = 0) (l k f : Int32) : Red (m_compare l k f s).2 := by
  have h0 : Red (sT 0 s) := h
  have z0 : ∀ j, ¬ mM (sT 0 s) j = 0 := hz
  show Red2 (m_compare l k f s)
  unfold m_compare
  repeat' first | with_reducible refine red_gd h ?_ | with_reducible refine red_rf h0 ?_ | with_reducible exact red_become h0 | with_reducible exact red_no h0 | with_reducible exact red_come h0 z0 | with_reducible exact red_pc h0 z0 | with_reducible exact red_pair h0 | with_reducible exact red_ps h0 | with_reducible refine red_ite ?_ ?_
theorem rd_text {s : MS} (h : Red s) (hz : ∀ j, ¬ mM s j = 0) (k : Int32) : Red (m_text k s) := by
  unfold m_text
  repeat' first | exact h | split
theorem rd_ofNumber {s : MS} (h : Red s) (hz : ∀ j, ¬ mM s j = 0) (l k q : Int32) : Red (m_ofNumber l k q s).2 := by
  have h0 : Red (sT 0 s) := h
  have z0 : ∀ j, ¬ mM (sT 0 s) j = 0 := hz
  show Red2 (m_ofNumber l k q s)
  unfold m_ofNumber
  repeat' first | with_reducible refine red_gd h ?_ | with_reducible refine red_rf h0 ?_ | with_reducible exact red_become h0 | with_reducible exact red_no h0 | with_reducible exact red_come h0 z0 | with_reducible exact red_pc h0 z0 | with_reducible exact red_pair h0 | with_reducible exact red_ps h0 | with_reducible refine red_ite ?_ ?_
theorem rd_rest {s : MS} (h : Red s) (hz : ∀ j, ¬ mM s j = 0) (l k m : Int32) : Red (m_rest l k m s).2 := by
  have h0 : Red (sT 0 s) := h
  have z0 : ∀ j, ¬ mM (sT 0 s) j = 0 := hz
  show Red2 (m_rest l k m s)
  unfold m_rest
  repeat' first | with_reducible refine red_gd h ?_ | with_reducible refine red_rf h0 ?_ | with_reducible exact red_become h0 | with_reducible exact red_no h0 | with_reducible exact red_come h0 z0 | with_reducible exact red_pc h0 z0 | with_reducible exact red_pair h0 | with_reducible exact red_ps h0 | with_reducible refine red_ite ?_ ?_
theorem rd_quotient {s : MS} (h : Red s) (hz : ∀ j, ¬ mM s j = 0) (k m : Int32) : Red (m_quotient k m s) := by
  unfold m_quotient
  repeat' first | exact h | split
theorem rd_bring {s : MS} (h : Red s) (hz : ∀ j, ¬ mM s j = 0) (r k l f : Int32) : Red (m_bring r k l f s).2 := by
  have h0 : Red (sT 0 s) := h
  have z0 : ∀ j, ¬ mM (sT 0 s) j = 0 := hz
  show Red2 (m_bring r k l f s)
  unfold m_bring
  repeat' first | with_reducible refine red_gd h ?_ | with_reducible refine red_rf h0 ?_ | with_reducible exact red_become h0 | with_reducible exact red_no h0 | with_reducible exact red_come h0 z0 | with_reducible exact red_pc h0 z0 | with_reducible exact red_pair h0 | with_reducible exact red_ps h0 | with_reducible refine red_ite ?_ ?_
theorem rd_lift {s : MS} (h : Red s) (hz : ∀ j, ¬ mM s j = 0) (r i l k : Int32) : Red (m_lift r i l k s).2 := by
  have h0 : Red (sT 0 s) := h
  have z0 : ∀ j, ¬ mM (sT 0 s) j = 0 := hz
  show Red2 (m_lift r i l k s)
  unfold m_lift
  repeat' first | with_reducible refine red_gd h ?_ | with_reducible refine red_rf h0 ?_ | with_reducible exact red_become h0 | with_reducible exact red_no h0 | with_reducible exact red_come h0 z0 | with_reducible exact red_pc h0 z0 | with_reducible exact red_pair h0 | with_reducible exact red_ps h0 | with_reducible refine red_ite ?_ ?_
theorem rd_plus {s : MS} (h : Red s) (hz : ∀ j, ¬ mM s j = 0) (r k f m : Int32) : Red (m_plus r k f m s).2 := by
  have h0 : Red (sT 0 s) := h
  have z0 : ∀ j, ¬ mM (sT 0 s) j = 0 := hz
  show Red2 (m_plus r k f m s)
  unfold m_plus
  repeat' first | with_reducible refine red_gd h ?_ | with_reducible refine red_rf h0 ?_ | with_reducible exact red_become h0 | with_reducible exact red_no h0 | with_reducible exact red_come h0 z0 | with_reducible exact red_pc h0 z0 | with_reducible exact red_pair h0 | with_reducible exact red_ps h0 | with_reducible refine red_ite ?_ ?_
theorem rd_times {s : MS} (h : Red s) (hz : ∀ j, ¬ mM s j = 0) (r k f : Int32) : Red (m_times r k f s).2 := by
  have h0 : Red (sT 0 s) := h
  have z0 : ∀ j, ¬ mM (sT 0 s) j = 0 := hz
  show Red2 (m_times r k f s)
  unfold m_times
  repeat' first | with_reducible refine red_gd h ?_ | with_reducible refine red_rf h0 ?_ | with_reducible exact red_become h0 | with_reducible exact red_no h0 | with_reducible exact red_come h0 z0 | with_reducible exact red_pc h0 z0 | with_reducible exact red_pair h0 | with_reducible exact red_ps h0 | with_reducible refine red_ite ?_ ?_
theorem rd_power {s : MS} (h : Red s) (hz : ∀ j, ¬ mM s j = 0) (r k e : Int32) : Red (m_power r k e s).2 := by
  have h0 : Red (sT 0 s) := h
  have z0 : ∀ j, ¬ mM (sT 0 s) j = 0 := hz
  show Red2 (m_power r k e s)
  unfold m_power
  repeat' first | with_reducible refine red_gd h ?_ | with_reducible refine red_rf h0 ?_ | with_reducible exact red_become h0 | with_reducible exact red_no h0 | with_reducible exact red_come h0 z0 | with_reducible exact red_pc h0 z0 | with_reducible exact red_pair h0 | with_reducible exact red_ps h0 | with_reducible refine red_ite ?_ ?_
theorem rd_inverse {s : MS} (h : Red s) (hz : ∀ j, ¬ mM s j = 0) (r k : Int32) : Red (m_inverse r k s).2 := by
  have h0 : Red (sT 0 s) := h
  have z0 : ∀ j, ¬ mM (sT 0 s) j = 0 := hz
  show Red2 (m_inverse r k s)
  unfold m_inverse
  repeat' first | with_reducible refine red_gd h ?_ | with_reducible refine red_rf h0 ?_ | with_reducible exact red_become h0 | with_reducible exact red_no h0 | with_reducible exact red_come h0 z0 | with_reducible exact red_pc h0 z0 | with_reducible exact red_pair h0 | with_reducible exact red_ps h0 | with_reducible refine red_ite ?_ ?_
theorem rd_isUnit {s : MS} (h : Red s) (hz : ∀ j, ¬ mM s j = 0) (r k : Int32) : Red (m_isUnit r k s).2 := by
  have h0 : Red (sT 0 s) := h
  have z0 : ∀ j, ¬ mM (sT 0 s) j = 0 := hz
  show Red2 (m_isUnit r k s)
  unfold m_isUnit
  repeat' first | with_reducible refine red_gd h ?_ | with_reducible refine red_rf h0 ?_ | with_reducible exact red_become h0 | with_reducible exact red_no h0 | with_reducible exact red_come h0 z0 | with_reducible exact red_pc h0 z0 | with_reducible exact red_pair h0 | with_reducible exact red_ps h0 | with_reducible refine red_ite ?_ ?_
theorem rd_residue {s : MS} (h : Red s) (hz : ∀ j, ¬ mM s j = 0) (r k : Int32) : Red (m_residue r k s).2 := by
  have h0 : Red (sT 0 s) := h
  have z0 : ∀ j, ¬ mM (sT 0 s) j = 0 := hz
  show Red2 (m_residue r k s)
  unfold m_residue
  repeat' first | with_reducible refine red_gd h ?_ | with_reducible refine red_rf h0 ?_ | with_reducible exact red_become h0 | with_reducible exact red_no h0 | with_reducible exact red_come h0 z0 | with_reducible exact red_pc h0 z0 | with_reducible exact red_pair h0 | with_reducible exact red_ps h0 | with_reducible refine red_ite ?_ ?_
theorem rd_ringText {s : MS} (h : Red s) (hz : ∀ j, ¬ mM s j = 0) (r : Int32) : Red (m_ringText r s) := by
  unfold m_ringText
  repeat' first | exact h | split
theorem rd_areAlike {s : MS} (h : Red s) (hz : ∀ j, ¬ mM s j = 0) (r l a b : Int32) : Red (m_areAlike r l a b s).2 := by
  have h0 : Red (sT 0 s) := h
  have z0 : ∀ j, ¬ mM (sT 0 s) j = 0 := hz
  show Red2 (m_areAlike r l a b s)
  unfold m_areAlike
  repeat' first | with_reducible refine red_gd h ?_ | with_reducible refine red_rf h0 ?_ | with_reducible exact red_become h0 | with_reducible exact red_no h0 | with_reducible exact red_come h0 z0 | with_reducible exact red_pc h0 z0 | with_reducible exact red_pair h0 | with_reducible exact red_ps h0 | with_reducible refine red_ite ?_ ?_
theorem rd_together {s : MS} (h : Red s) (hz : ∀ j, ¬ mM s j = 0) (k r a q b : Int32) : Red (m_together k r a q b s).2 := by
  have h0 : Red (sT 0 s) := h
  have z0 : ∀ j, ¬ mM (sT 0 s) j = 0 := hz
  show Red2 (m_together k r a q b s)
  unfold m_together
  repeat' first | with_reducible refine red_gd h ?_ | with_reducible refine red_rf h0 ?_ | with_reducible exact red_become h0 | with_reducible exact red_no h0 | with_reducible exact red_come h0 z0 | with_reducible exact red_pc h0 z0 | with_reducible exact red_pair h0 | with_reducible exact red_ps h0 | with_reducible refine red_ite ?_ ?_
theorem rd_common {s : MS} (h : Red s) (hz : ∀ j, ¬ mM s j = 0) (r q : Int32) : Red (m_common r q s) := by
  unfold m_common
  repeat' first | exact h | split
theorem rd_house {s : MS} (h : Red s) (hz : ∀ j, ¬ mM s j = 0) (q : Int32) : Red (m_house q s).2 := by
  have h0 : Red (sT 0 s) := h
  have z0 : ∀ j, ¬ mM (sT 0 s) j = 0 := hz
  show Red2 (m_house q s)
  unfold m_house
  repeat' first | with_reducible refine red_gd h ?_ | with_reducible refine red_rf h0 ?_ | with_reducible exact red_become h0 | with_reducible exact red_no h0 | with_reducible exact red_come h0 z0 | with_reducible exact red_pc h0 z0 | with_reducible exact red_pair h0 | with_reducible exact red_ps h0 | with_reducible refine red_ite ?_ ?_
section RB
variable {x : XS} {s : MS}
theorem rb_put (h : Rel2 x s) (l k hi lo : Int32) : Rel2 (xPut l k hi lo x).2 (m_put l k hi lo s).2 := ⟨(ra_put h.1 l k hi lo).1, rd_put h.2 h.1.2.2.2.2.1 l k hi lo⟩
theorem rb_copy (h : Rel2 x s) (l k f : Int32) : Rel2 (xCopy l k f x).2 (m_copy l k f s).2 := ⟨(ra_copy h.1 l k f).1, rd_copy h.2 h.1.2.2.2.2.1 l k f⟩
theorem rb_widen (h : Rel2 x s) (k f : Int32) : Rel2 (xWiden k f x).2 (m_widen k f s).2 := ⟨(ra_widen h.1 k f).1, rd_widen h.2 h.1.2.2.2.2.1 k f⟩
theorem rb_narrow (h : Rel2 x s) (k f : Int32) : Rel2 (xNarrow k f x).2 (m_narrow k f s).2 := ⟨(ra_narrow h.1 k f).1, rd_narrow h.2 h.1.2.2.2.2.1 k f⟩
theorem rb_exact (h : Rel2 x s) (l k f q : Int32) : Rel2 (xExact l k f q x).2 (m_exact l k f q s).2 := ⟨(ra_exact h.1 l k f q).1, rd_exact h.2 h.1.2.2.2.2.1 l k f q⟩
theorem rb_fits (h : Rel2 x s) (l k f q : Int32) : Rel2 (xFits l k f q x).2 (m_fits l k f q s).2 := ⟨(ra_fits h.1 l k f q).1, rd_fits h.2 h.1.2.2.2.2.1 l k f q⟩
theorem rb_alone (h : Rel2 x s) (l k q : Int32) : Rel2 (xAlone l k q x).2 (m_alone l k q s).2 := ⟨(ra_alone h.1 l k q).1, rd_alone h.2 h.1.2.2.2.2.1 l k q⟩
theorem rb_timesInt (h : Rel2 x s) (k f : Int32) : Rel2 (xTimesInt k f x).2 (m_timesInt k f s).2 := ⟨(ra_timesInt h.1 k f).1, rd_timesInt h.2 h.1.2.2.2.2.1 k f⟩
theorem rb_full (h : Rel2 x s) (k a b : Int32) : Rel2 (xFull k a b x).2 (m_full k a b s).2 := ⟨(ra_full h.1 k a b).1, rd_full h.2 h.1.2.2.2.2.1 k a b⟩
theorem rb_high (h : Rel2 x s) (k a b : Int32) : Rel2 (xHigh k a b x).2 (m_high k a b s).2 := ⟨(ra_high h.1 k a b).1, rd_high h.2 h.1.2.2.2.2.1 k a b⟩
theorem rb_round (h : Rel2 x s) (l k f q : Int32) : Rel2 (xRound l k f q x).2 (m_round l k f q s).2 := ⟨(ra_round h.1 l k f q).1, rd_round h.2 h.1.2.2.2.2.1 l k f q⟩
theorem rb_abs (h : Rel2 x s) (l k : Int32) : Rel2 (xAbs l k x).2 (m_abs l k s).2 := ⟨(ra_abs h.1 l k).1, rd_abs h.2 h.1.2.2.2.2.1 l k⟩
theorem rb_extreme (h : Rel2 x s) (l k f g : Int32) : Rel2 (xExtreme l k f g x).2 (m_extreme l k f g s).2 := ⟨(ra_extreme h.1 l k f g).1, rd_extreme h.2 h.1.2.2.2.2.1 l k f g⟩
theorem rb_floor (h : Rel2 x s) (l k f r : Int32) : Rel2 (xFloor l k f r x).2 (m_floor l k f r s).2 := ⟨(ra_floor h.1 l k f r).1, rd_floor h.2 h.1.2.2.2.2.1 l k f r⟩
theorem rb_floorInt (h : Rel2 x s) (k f r : Int32) : Rel2 (xFloorInt k f r x).2 (m_floorInt k f r s).2 := ⟨(ra_floorInt h.1 k f r).1, rd_floorInt h.2 h.1.2.2.2.2.1 k f r⟩
theorem rb_towards (h : Rel2 x s) (l k f r : Int32) : Rel2 (xTowards l k f r x).2 (m_towards l k f r s).2 := ⟨(ra_towards h.1 l k f r).1, rd_towards h.2 h.1.2.2.2.2.1 l k f r⟩
theorem rb_average (h : Rel2 x s) (l k f u : Int32) : Rel2 (xAverage l k f u x).2 (m_average l k f u s).2 := ⟨(ra_average h.1 l k f u).1, rd_average h.2 h.1.2.2.2.2.1 l k f u⟩
theorem rb_chain (h : Rel2 x s) (k a b c : Int32) : Rel2 (xChain k a b c x).2 (m_chain k a b c s).2 := ⟨(ra_chain h.1 k a b c).1, rd_chain h.2 h.1.2.2.2.2.1 k a b c⟩
theorem rb_atOnce (h : Rel2 x s) (k a b c : Int32) : Rel2 (xAtOnce k a b c x).2 (m_atOnce k a b c s).2 := ⟨(ra_atOnce h.1 k a b c).1, rd_atOnce h.2 h.1.2.2.2.2.1 k a b c⟩
theorem rb_distance (h : Rel2 x s) (l a b : Int32) : Rel2 (xDistance l a b x).2 (m_distance a b s) := ⟨(ra_distance h.1 l a b), rd_distance h.2 h.1.2.2.2.2.1 a b⟩
theorem rb_compare (h : Rel2 x s) (l k f : Int32) : Rel2 (xCompare l k f x).2 (m_compare l k f s).2 := ⟨(ra_compare h.1 l k f).1, rd_compare h.2 h.1.2.2.2.2.1 l k f⟩
theorem rb_text (h : Rel2 x s) (l k : Int32) : Rel2 (xText l k x).2 (m_text k s) := ⟨(ra_text h.1 l k), rd_text h.2 h.1.2.2.2.2.1 k⟩
theorem rb_ofNumber (h : Rel2 x s) (l k q : Int32) : Rel2 (xOfNumber l k q x).2 (m_ofNumber l k q s).2 := ⟨(ra_ofNumber h.1 l k q).1, rd_ofNumber h.2 h.1.2.2.2.2.1 l k q⟩
theorem rb_rest (h : Rel2 x s) (l k m : Int32) : Rel2 (xRest l k m x).2 (m_rest l k m s).2 := ⟨(ra_rest h.1 l k m).1, rd_rest h.2 h.1.2.2.2.2.1 l k m⟩
theorem rb_quotient (h : Rel2 x s) (l k m : Int32) : Rel2 (xQuotient l k m x).2 (m_quotient k m s) := ⟨(ra_quotient h.1 l k m), rd_quotient h.2 h.1.2.2.2.2.1 k m⟩
theorem rb_modulus (h : Rel2 x s) (r m : Int32) : Rel2 (xModulus r m x).2 (m_modulus r m s).2 := ⟨(ra_modulus h.1 r m).1, rd_modulus h.2 h.1.2.2.2.2.1 r m⟩
theorem rb_bring (h : Rel2 x s) (r k l f : Int32) : Rel2 (xBring r k l f x).2 (m_bring r k l f s).2 := ⟨(ra_bring h.1 r k l f).1, rd_bring h.2 h.1.2.2.2.2.1 r k l f⟩
theorem rb_lift (h : Rel2 x s) (r i l k : Int32) : Rel2 (xLift r i l k x).2 (m_lift r i l k s).2 := ⟨(ra_lift h.1 r i l k).1, rd_lift h.2 h.1.2.2.2.2.1 r i l k⟩
theorem rb_plus (h : Rel2 x s) (r k f m : Int32) : Rel2 (xPlus r k f m x).2 (m_plus r k f m s).2 := ⟨(ra_plus h.1 r k f m).1, rd_plus h.2 h.1.2.2.2.2.1 r k f m⟩
theorem rb_times (h : Rel2 x s) (r k f : Int32) : Rel2 (xTimes r k f x).2 (m_times r k f s).2 := ⟨(ra_times h.1 r k f).1, rd_times h.2 h.1.2.2.2.2.1 r k f⟩
theorem rb_power (h : Rel2 x s) (r k e : Int32) : Rel2 (xPower r k e x).2 (m_power r k e s).2 := ⟨(ra_power h.1 r k e).1, rd_power h.2 h.1.2.2.2.2.1 r k e⟩
theorem rb_inverse (h : Rel2 x s) (r k : Int32) : Rel2 (xInverse r k x).2 (m_inverse r k s).2 := ⟨(ra_inverse h.1 r k).1, rd_inverse h.2 h.1.2.2.2.2.1 r k⟩
theorem rb_isUnit (h : Rel2 x s) (r k : Int32) : Rel2 (xUnit r k x).2 (m_isUnit r k s).2 := ⟨(ra_isUnit h.1 r k).1, rd_isUnit h.2 h.1.2.2.2.2.1 r k⟩
theorem rb_residue (h : Rel2 x s) (r k : Int32) : Rel2 (xResidue r k x).2 (m_residue r k s).2 := ⟨(ra_residue h.1 r k).1, rd_residue h.2 h.1.2.2.2.2.1 r k⟩
theorem rb_ringText (h : Rel2 x s) (r : Int32) : Rel2 (xRingText r x).2 (m_ringText r s) := ⟨(ra_ringText h.1 r), rd_ringText h.2 h.1.2.2.2.2.1 r⟩
theorem rb_areAlike (h : Rel2 x s) (r l a b : Int32) : Rel2 (xAlike r l a b x).2 (m_areAlike r l a b s).2 := ⟨(ra_areAlike h.1 r l a b).1, rd_areAlike h.2 h.1.2.2.2.2.1 r l a b⟩
theorem rb_together (h : Rel2 x s) (k r a q b : Int32) : Rel2 (xTogether k r a q b x).2 (m_together k r a q b s).2 := ⟨(ra_together h.1 k r a q b).1, rd_together h.2 h.1.2.2.2.2.1 k r a q b⟩
theorem rb_common (h : Rel2 x s) (r q : Int32) : Rel2 (xCommon r q x).2 (m_common r q s) := ⟨(ra_common h.1 r q), rd_common h.2 h.1.2.2.2.2.1 r q⟩
theorem rb_house (h : Rel2 x s) (q : Int32) : Rel2 (xHouse q x).2 (m_house q s).2 := ⟨(ra_house h.1 q).1, rd_house h.2 h.1.2.2.2.2.1 q⟩
theorem rb_knock (h : Rel2 x s) : Rel2 (xKnock x).2 (m_knock s).2 := ⟨(ra_knock h.1).1, h.2⟩
theorem dH_eq (h : Rel x s) : ∀ (n : Nat) (i : Int32) (a : Int64), dH x n i a = mdH s n i a
  | 0, i, a => by rw [dH, mdH]
  | n + 1, i, a => by
    rw [dH, mdH, hs_eq h]
    exact dH_eq h n (i + 1) _
theorem dI_eq (h : Rel x s) (l k : Int32) : ∀ (n : Nat) (w : Int32) (a : Int64), dI l k x n w a = mdW l k s n w a
  | 0, w, a => by rw [dI, mdW]
  | n + 1, w, a => by
    rw [dI, mdW, of_eq h]
    exact dI_eq h l k n (w + 1) _
theorem dN_eq (h : Rel x s) (l : Int32) : ∀ (n : Nat) (i : Int32) (a : Int64), dN l x n i a = mdK l s n i a
  | 0, i, a => by rw [dN, mdK]
  | n + 1, i, a => by
    rw [dN, mdK, dI_eq h]
    exact dN_eq h l n (i + 1) _
theorem dR_eq (h : Rel x s) {r : Int32} (hr : ok3 r) (a : Int64) : dR x r 4 0 a = mdS r s 4 0 a := by
  have k0 := res_eq h hr (k := 0) ⟨by decide, by decide⟩
  have k1 := res_eq h hr (k := 0 + 1) ⟨by decide, by decide⟩
  have k2 := res_eq h hr (k := 0 + 1 + 1) ⟨by decide, by decide⟩
  have k3 := res_eq h hr (k := 0 + 1 + 1 + 1) ⟨by decide, by decide⟩
  rw [dR, dR, dR, dR, dR, mdS, mdS, mdS, mdS, mdS, k0, k1, k2, k3]
theorem dO_eq (h : Rel x s) (a : Int64) : dO x 3 0 a = mdR s 3 0 a := by
  have k0 := fun a => dR_eq h (r := 0) ⟨by decide, by decide⟩ a
  have k1 := fun a => dR_eq h (r := 0 + 1) ⟨by decide, by decide⟩ a
  have k2 := fun a => dR_eq h (r := 0 + 1 + 1) ⟨by decide, by decide⟩ a
  rw [dO, dO, dO, dO, mdR, mdR, mdR, mdR, mod_eq h, mod_eq h, mod_eq h, k0, k1, k2]
theorem dig_eq (h : Rel2 x s) : xDigest x = m_digest s := by
  unfold xDigest m_digest
  rw [snd_1 h, if_neg n10, dO_eq h.1, dN_eq h.1, dN_eq h.1, dH_eq h.1, mdL, mdL, mdL, if_neg n01, if_pos (show (0 + 1 : Int32) = 1 by decide)]
  rfl
theorem res_0 {m : Int32} (hm : ¬ m = 0) : rRes (0 : Int32).toInt64 m = 0 := by
  have : mRest (0 : Int32).toInt64 m.toInt64 = 0 := Int64.toInt_inj.mp ((rest_uniq (m_nz hm) (r := 0) ⟨0, by
    rw [Int.mul_zero]
    rfl⟩ (fun h => ⟨Int.le_refl _, h⟩) (fun h => ⟨h, Int.le_refl _⟩)).trans l0.symm)
  rw [rRes_m _ hm, this]
  rfl
end RB
end
