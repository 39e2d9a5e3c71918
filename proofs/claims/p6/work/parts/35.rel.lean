section
/-! THE MODEL: its texts; what a text holds isn't told, but how long it is -/
theorem SB.rc {p b c m : Nat} {h : mH} (a : SB p b c m h) : ∃ fs, nth h b = some (.inr (1, fs)) := by
  obtain ⟨-, v, n, g, q, -, -, h2, -⟩ := a
  exact ⟨_, h2⟩
def anMT (K : Kt) (x : XS) (t : mH) (s : MS) : Prop := K (.inl (some (.retAddr 10))) (hm s x t) ∧ ∀ l r, K (.inl (some (.ref r))) (hm s x (t ++ l))
def m_text (k : Int32) (s : MS) : MS := if n4 k then sT 0 s else sT 1 s
def m_distance (k f : Int32) (s : MS) : MS := if n4 k ∧ n4 f then sT 0 s else sT 1 s
def m_quotient (k m : Int32) (s : MS) : MS := if n4 k then (if ¬ m = 0 then sT 0 s else sT 2 s) else sT 1 s
def m_common (r q : Int32) (s : MS) : MS := if n3 r ∧ n3 q then sT 0 s else sT 1 s
def m_ringText (r : Int32) (s : MS) : MS := if n3 r then sT 0 s else sT 1 s
def mLeast (l : Int32) : Int64 := if l = 0 then -2147483648 else -9223372036854775808
def mOf (l k w : Int32) (s : MS) : Int32 := if w = 0 then mSign (mNow l k s) else if w = 1 then (mNow l k s).toInt32 else if w = 2 then (mNow l k s >>> sh32).toInt32 else if w = 3 then (if mNow l k s = mLeast l then -1 else if mNow l k s = -1 - mLeast l then 1 else 0) else Int32.ofNat (tl (mNow l k s).toInt)
def m_ofNumber (l k w : Int32) (s : MS) : MO := gd (n4 k) s (rf (okC w 4) (sT 0 s) (mOf l k w (sT 0 s), sT 0 s))
theorem hm_len (s : MS) (x : XS) (t : mH) : 13 ≤ (hm s x t).length := by
  unfold hm hx
  simp only [List.length_cons]
  omega
section MDT
variable {P : GP} {K : Kt} {s : MS} {x : XS} {t : mH}
theorem hm_5 {h1 : mH} (hk : Kp (hm s x t).length (hm s x t) h1) : nth h1 5 = some (.inr (4, [.int (mTh s), .ref 6, .ref 7, .ref 8, .ref 9, .int (mF s), .int (mK s)])) := hk.2 5 (Nat.lt_of_lt_of_le (by decide) (hm_len s x t))
theorem hm_8 {h1 : mH} (hk : Kp (hm s x t).length (hm s x t) h1) : nth h1 8 = some (.inl (1, 3, .inl (mM s))) := hk.2 8 (Nat.lt_of_lt_of_le (by decide) (hm_len s x t))
theorem hm_10 {h1 : mH} (hk : Kp (hm s x t).length (hm s x t) h1) : nth h1 10 = some (.inl (1, 4, .inl (mR s 0))) := hk.2 10 (Nat.lt_of_lt_of_le (by decide) (hm_len s x t))
theorem hm_11 {h1 : mH} (hk : Kp (hm s x t).length (hm s x t) h1) : nth h1 11 = some (.inl (1, 4, .inl (mR s 1))) := hk.2 11 (Nat.lt_of_lt_of_le (by decide) (hm_len s x t))
theorem hm_12 {h1 : mH} (hk : Kp (hm s x t).length (hm s x t) h1) : nth h1 12 = some (.inl (1, 4, .inl (mR s 2))) := hk.2 12 (Nat.lt_of_lt_of_le (by decide) (hm_len s x t))
theorem L_nowK {h1 : mH} (hk : Kp (hm s x t).length (hm s x t) h1) (l k : Int32) (hk4 : ok4 k) (hK : K (.inl (some (.long (mNow l k s)))) h1) : M P n_M_now [.ref 5, .int l, .int k] h1 0 0 6 K := by
  obtain ⟨l9, rfl⟩ := Kp_all hk
  exact L_now (t := t ++ l9) l k hk4 hK
theorem L_coderS {h : mH} {p r c : Nat} (hT : ST p r c h) (hK : K (.inl (some (.int 0))) h) : M P n_STR_coder [.ref r] h 0 0 6 K := by
  obtain ⟨-, w, g, h1, h2⟩ := hT
  refine Mgo ok_STR_coder 60 rfl ?_
  refine ⟨fun e => absurd e (by decide), fun _ => ?_⟩
  conv => whnf
  rw [h1]
  exact ⟨rfl, hK⟩
theorem L_slenS {h : mH} {p r c : Nat} (hT : ST p r c h) (hK : K (.inl (some (.int (Int32.ofNat c)))) h) : M P n_STR_length [.ref r] h 0 0 7 K := by
  have hT0 := hT
  obtain ⟨-, w, g, h1, h2⟩ := hT0
  refine Mgo ok_STR_length 60 rfl ?_
  conv => whnf
  rw [h1]
  conv => whnf
  rw [h2]
  conv => whnf
  rw [h1]
  refine ⟨_, _, _, L_coderS hT ?_, by decide, by decide, by decide⟩
  have hK2 : K (.inl (some (.int (Int32.ofNat c >>> ((0 : Int32) &&& 31))))) h := by
    rw [sb_shr0]
    exact hK
  exact hK2
theorem L_plain {h : mH} (v : Int64) (hK : ∀ l r, K (.inl (some (.ref r))) (h ++ l)) : M P n_M_plain [.long v] h 30 2000 14 K := by
  refine Mgo ok_M_plain 80 rfl ?_
  refine ⟨fun e => ?_, fun e => ?_⟩
  · refine ⟨by decide, ?_⟩
    have e1 := tl64 (tTen v)
    have e2 := tl64 (v - 10 * tTen v)
    refine ⟨by decide, ?_⟩
    refine ⟨_, _, _, L_SBnew (p := h.length) (nth_ar (l := [])) (Nat.le_refl _) (fun h1 k1 s1 => ?_), by decide, by decide, by decide⟩
    have hk1 : Kp h.length _ h1 := (Kp.rf (Nat.le_refl h.length)).ap.tr k1
    obtain ⟨f1, r1⟩ := s1.rc
    conv => whnf
    rw [r1]
    refine ⟨_, _, _, L_appT0 s1 (by omega) (fun h2 k2 s2 => ?_), by decide, by decide, by decide⟩
    have hk2 := hk1.tr k2
    obtain ⟨f2, r2⟩ := s2.rc
    conv => whnf
    rw [r2]
    refine ⟨_, _, _, L_appJ (tTen v) s2 (by omega) (fun h3 k3 s3 => ?_), by decide, by decide, by decide⟩
    have hk3 := hk2.tr k3
    obtain ⟨f3, r3⟩ := s3.rc
    conv => whnf
    rw [r3]
    refine ⟨_, _, _, L_appJ (v - 10 * tTen v) s3 (by omega) (fun h4 k4 s4 => ?_), by decide, by decide, by decide⟩
    have hk4 := hk3.tr k4
    obtain ⟨f4, r4⟩ := s4.rc
    conv => whnf
    rw [r4]
    refine ⟨_, _, _, L_toString s4 (Nat.le_refl _) (by omega) (fun h5 q5 k5 s5 => ?_), by decide, by omega, by decide⟩
    have hk5 := hk4.tr k5
    obtain ⟨l9, rfl⟩ := Kp_all hk5
    exact hK l9 q5
  · have e1 := tl64 v
    refine ⟨by decide, ?_⟩
    refine ⟨_, _, _, L_SBnew (p := h.length) (nth_ar (l := [])) (Nat.le_refl _) (fun h1 k1 s1 => ?_), by decide, by decide, by decide⟩
    have hk1 : Kp h.length _ h1 := (Kp.rf (Nat.le_refl h.length)).ap.tr k1
    obtain ⟨f1, r1⟩ := s1.rc
    conv => whnf
    rw [r1]
    refine ⟨_, _, _, L_appT0 s1 (by omega) (fun h2 k2 s2 => ?_), by decide, by decide, by decide⟩
    have hk2 := hk1.tr k2
    obtain ⟨f2, r2⟩ := s2.rc
    conv => whnf
    rw [r2]
    refine ⟨_, _, _, L_appJ v s2 (by omega) (fun h3 k3 s3 => ?_), by decide, by decide, by decide⟩
    have hk3 := hk2.tr k3
    obtain ⟨f3, r3⟩ := s3.rc
    conv => whnf
    rw [r3]
    refine ⟨_, _, _, L_toString s3 (Nat.le_refl _) (by omega) (fun h4 q4 k4 s4 => ?_), by decide, by omega, by decide⟩
    have hk4 := hk3.tr k4
    obtain ⟨l9, rfl⟩ := Kp_all hk4
    exact hK l9 q4
theorem M_text (l k : Int32) (hK : anMT K x t (m_text k s)) : M P n_M_text [.ref 5, .int l, .int k] (hm s x t) 40 3000 16 K := by
  refine Mgo ok_M_text 80 rfl ?_
  unfold m_text at hK
  refine ⟨_, _, _, L_isNo _ (fun a1 => ?_) (fun a1 => ?_), by decide, by decide, by decide⟩
  · rw [if_pos a1] at hK
    refine ⟨_, _, _, L_start0 ?_, by decide, by decide, by decide⟩
    refine ⟨fun _ => ?_, fun e => absurd rfl e⟩
    have e1 := tl64 (mNow l k (sT 0 s))
    refine ⟨by decide, ?_⟩
    refine ⟨_, _, _, L_SBnew (p := (hm (sT 0 s) x t).length) (nth_ar (l := [])) (Nat.le_refl _) (fun h1 k1 s1 => ?_), by decide, by decide, by decide⟩
    have hk1 : Kp (hm (sT 0 s) x t).length _ h1 := (Kp.rf (Nat.le_refl (hm (sT 0 s) x t).length)).ap.tr k1
    obtain ⟨f1, r1⟩ := s1.rc
    conv => whnf
    rw [r1]
    refine ⟨_, _, _, L_appT0 s1 (by omega) (fun h2 k2 s2 => ?_), by decide, by decide, by decide⟩
    have hk2 := hk1.tr k2
    conv => whnf
    rw [hm_5 hk2]
    refine ⟨_, _, _, L_nowK hk2 _ _ (n4_ok a1) ?_, by decide, by decide, by decide⟩
    obtain ⟨f2, r2⟩ := s2.rc
    conv => whnf
    rw [r2]
    refine ⟨_, _, _, L_appJ _ s2 (by omega) (fun h3 k3 s3 => ?_), by decide, by decide, by decide⟩
    have hk3 := hk2.tr k3
    obtain ⟨f3, r3⟩ := s3.rc
    conv => whnf
    rw [r3]
    refine ⟨_, _, _, L_toString s3 (Nat.le_refl _) (by omega) (fun h4 q4 k4 s4 => ?_), by decide, by omega, by decide⟩
    have hk4 := hk3.tr k4
    obtain ⟨l9, rfl⟩ := Kp_all hk4
    exact hK.2 l9 q4
  · rw [if_neg a1] at hK
    refine ⟨_, _, _, L_start1 ?_, by decide, by decide, by decide⟩
    refine ⟨fun e => absurd e (by decide), fun _ => ?_⟩
    exact hK.1
theorem M_distance (l k f : Int32) (hK : anMT K x t (m_distance k f s)) : M P n_M_distance [.ref 5, .int l, .int k, .int f] (hm s x t) 40 3000 16 K := by
  refine Mgo ok_M_distance 80 rfl ?_
  unfold m_distance at hK
  refine ⟨_, _, _, L_isNo _ (fun a1 => ?_) (fun a1 => ?_), by decide, by decide, by decide⟩
  · refine ⟨fun _ => ?_, fun e => absurd rfl e⟩
    refine ⟨_, _, _, L_isNo _ (fun a2 => ?_) (fun a2 => ?_), by decide, by decide, by decide⟩
    · refine ⟨fun _ => ?_, fun e => absurd rfl e⟩
      rw [if_pos ⟨a1, a2⟩] at hK
      refine ⟨_, _, _, L_start0 ?_, by decide, by decide, by decide⟩
      refine ⟨fun _ => ?_, fun e => absurd rfl e⟩
      refine ⟨_, _, _, L_now _ _ (n4_ok a1) ?_, by decide, by decide, by decide⟩
      refine ⟨_, _, _, L_now _ _ (n4_ok a2) ?_, by decide, by decide, by decide⟩
      refine ⟨fun _ => ?_, fun _ => ?_⟩
      · exact ⟨_, _, _, L_plain _ (fun l9 r => hK.2 l9 r), by decide, by decide, by decide⟩
      · exact ⟨_, _, _, L_plain _ (fun l9 r => hK.2 l9 r), by decide, by decide, by decide⟩
    · refine ⟨fun e => absurd e (by decide), fun _ => ?_⟩
      rw [if_neg (fun e => a2 e.2)] at hK
      refine ⟨_, _, _, L_start1 ?_, by decide, by decide, by decide⟩
      refine ⟨fun e => absurd e (by decide), fun _ => ?_⟩
      exact hK.1
  · refine ⟨fun e => absurd e (by decide), fun _ => ?_⟩
    rw [if_neg (fun e => a1 e.1)] at hK
    refine ⟨_, _, _, L_start1 ?_, by decide, by decide, by decide⟩
    refine ⟨fun e => absurd e (by decide), fun _ => ?_⟩
    exact hK.1
theorem M_quotient (l k m : Int32) (hK : anMT K x t (m_quotient k m s)) : M P n_M_quotient [.ref 5, .int l, .int k, .int m] (hm s x t) 40 3000 16 K := by
  refine Mgo ok_M_quotient 80 rfl ?_
  unfold m_quotient at hK
  refine ⟨_, _, _, L_isNo _ (fun a1 => ?_) (fun a1 => ?_), by decide, by decide, by decide⟩
  · rw [if_pos a1] at hK
    refine ⟨_, _, _, L_start0 ?_, by decide, by decide, by decide⟩
    refine ⟨fun _ => ?_, fun e => absurd rfl e⟩
    refine ⟨fun w1 => ?_, fun w1 => ?_⟩
    · rw [if_neg (fun e => e w1)] at hK
      refine ⟨_, _, _, L_mrefuse1 2 rfl (by decide) ?_, by decide, by decide, by decide⟩
      refine ⟨fun e => absurd e (by decide), fun _ => ?_⟩
      exact hK.1
    · rw [if_pos w1] at hK
      refine ⟨_, _, _, L_mrefuse0 2 rfl ?_, by decide, by decide, by decide⟩
      refine ⟨fun _ => ?_, fun e => absurd rfl e⟩
      refine ⟨_, _, _, L_now _ _ (n4_ok a1) ?_, by decide, by decide, by decide⟩
      refine ⟨_, _, _, L_mfloor _ _ (nz64 w1) ?_, by decide, by decide, by decide⟩
      have e1 := tl64 (mFloor (mNow l k (sT 0 s)) m.toInt64)
      have e2 := tl64 (mFloor (mNow l k (sT 0 s)) m.toInt64).toInt32.toInt64
      refine ⟨by decide, ?_⟩
      refine ⟨_, _, _, L_SBnew (p := (hm (sT 0 s) x t).length) (nth_ar (l := [])) (Nat.le_refl _) (fun h1 k1 s1 => ?_), by decide, by decide, by decide⟩
      have hk1 : Kp (hm (sT 0 s) x t).length _ h1 := (Kp.rf (Nat.le_refl (hm (sT 0 s) x t).length)).ap.tr k1
      obtain ⟨f1, r1⟩ := s1.rc
      conv => whnf
      rw [r1]
      refine ⟨_, _, _, L_appT0 s1 (by omega) (fun h2 k2 s2 => ?_), by decide, by decide, by decide⟩
      have hk2 := hk1.tr k2
      refine ⟨fun _ => ?_, fun _ => ?_⟩
      · skip
        obtain ⟨f2, r2⟩ := s2.rc
        conv => whnf
        rw [r2]
        refine ⟨_, _, _, L_appJ _ s2 (by omega) (fun h3 k3 s3 => ?_), by decide, by decide, by decide⟩
        have hk3 := hk2.tr k3
        obtain ⟨f3, r3⟩ := s3.rc
        conv => whnf
        rw [r3]
        refine ⟨_, _, _, L_toString s3 (Nat.le_refl _) (by omega) (fun h4 q4 k4 s4 => ?_), by decide, by omega, by decide⟩
        have hk4 := hk3.tr k4
        obtain ⟨l9, rfl⟩ := Kp_all hk4
        exact hK.2 l9 q4
      · skip
        obtain ⟨f2, r2⟩ := s2.rc
        conv => whnf
        rw [r2]
        refine ⟨_, _, _, L_appJ _ s2 (by omega) (fun h3 k3 s3 => ?_), by decide, by decide, by decide⟩
        have hk3 := hk2.tr k3
        obtain ⟨f3, r3⟩ := s3.rc
        conv => whnf
        rw [r3]
        refine ⟨_, _, _, L_toString s3 (Nat.le_refl _) (by omega) (fun h4 q4 k4 s4 => ?_), by decide, by omega, by decide⟩
        have hk4 := hk3.tr k4
        obtain ⟨l9, rfl⟩ := Kp_all hk4
        exact hK.2 l9 q4
  · rw [if_neg a1] at hK
    refine ⟨_, _, _, L_start1 ?_, by decide, by decide, by decide⟩
    refine ⟨fun e => absurd e (by decide), fun _ => ?_⟩
    exact hK.1
theorem M_common (r q i : Int32) (hz : ¬ mMod r s = 0) (hz2 : ¬ mMod q s = 0) (hK : anMT K x t (m_common r q s)) : M P n_M_common [.ref 5, .int r, .int q, .int i] (hm s x t) 40 3000 16 K := by
  refine Mgo ok_M_common 80 rfl ?_
  unfold m_common at hK
  refine ⟨_, _, _, L_isNoRing _ (fun a1 => ?_) (fun a1 => ?_), by decide, by decide, by decide⟩
  · refine ⟨fun _ => ?_, fun e => absurd rfl e⟩
    refine ⟨_, _, _, L_isNoRing _ (fun a2 => ?_) (fun a2 => ?_), by decide, by decide, by decide⟩
    · refine ⟨fun _ => ?_, fun e => absurd rfl e⟩
      rw [if_pos ⟨a1, a2⟩] at hK
      refine ⟨_, _, _, L_start0 ?_, by decide, by decide, by decide⟩
      refine ⟨fun _ => ?_, fun e => absurd rfl e⟩
      refine ⟨vp3 (n3_ok a1), ?_⟩
      refine ⟨_, _, _, L_absJ _ _ ?_, by decide, by decide, by decide⟩
      refine ⟨vp3 (n3_ok a2), ?_⟩
      refine ⟨_, _, _, L_absJ _ _ ?_, by decide, by decide, by decide⟩
      refine ⟨_, _, _, L_mgcd _ _ ?_, by decide, by decide, by decide⟩
      have g1 := abs_m hz
      have g2 := abs_m hz2
      have g3 := (gcd_m g1.1 g2.1).1
      have e1 := tl64 (mGcd (lAbs (mM (sT 0 s) r.toNatClampNeg).toInt64) (lAbs (mM (sT 0 s) q.toNatClampNeg).toInt64))
      have e2 := tl64 (lAbs (mM (sT 0 s) r.toNatClampNeg).toInt64 / mGcd (lAbs (mM (sT 0 s) r.toNatClampNeg).toInt64) (lAbs (mM (sT 0 s) q.toNatClampNeg).toInt64) * lAbs (mM (sT 0 s) q.toNatClampNeg).toInt64)
      refine ⟨by decide, ?_⟩
      refine ⟨_, _, _, L_SBnew (p := (hm (sT 0 s) x t).length) (nth_ar (l := [])) (Nat.le_refl _) (fun h1 k1 s1 => ?_), by decide, by decide, by decide⟩
      have hk1 : Kp (hm (sT 0 s) x t).length _ h1 := (Kp.rf (Nat.le_refl (hm (sT 0 s) x t).length)).ap.tr k1
      obtain ⟨f1, r1⟩ := s1.rc
      conv => whnf
      rw [r1]
      refine ⟨_, _, _, L_appT0 s1 (by omega) (fun h2 k2 s2 => ?_), by decide, by decide, by decide⟩
      have hk2 := hk1.tr k2
      refine ⟨fun _ => ?_, fun _ => ?_⟩
      · skip
        obtain ⟨f2, r2⟩ := s2.rc
        conv => whnf
        rw [r2]
        refine ⟨_, _, _, L_appJ _ s2 (by omega) (fun h3 k3 s3 => ?_), by decide, by decide, by decide⟩
        have hk3 := hk2.tr k3
        obtain ⟨f3, r3⟩ := s3.rc
        conv => whnf
        rw [r3]
        refine ⟨_, _, _, L_toString s3 (Nat.le_refl _) (by omega) (fun h4 q4 k4 s4 => ?_), by decide, by omega, by decide⟩
        have hk4 := hk3.tr k4
        obtain ⟨l9, rfl⟩ := Kp_all hk4
        exact hK.2 l9 q4
      · refine ⟨nz_pos g3, ?_⟩
        obtain ⟨f2, r2⟩ := s2.rc
        conv => whnf
        rw [r2]
        refine ⟨_, _, _, L_appJ _ s2 (by omega) (fun h3 k3 s3 => ?_), by decide, by decide, by decide⟩
        have hk3 := hk2.tr k3
        obtain ⟨f3, r3⟩ := s3.rc
        conv => whnf
        rw [r3]
        refine ⟨_, _, _, L_toString s3 (Nat.le_refl _) (by omega) (fun h4 q4 k4 s4 => ?_), by decide, by omega, by decide⟩
        have hk4 := hk3.tr k4
        obtain ⟨l9, rfl⟩ := Kp_all hk4
        exact hK.2 l9 q4
    · refine ⟨fun e => absurd e (by decide), fun _ => ?_⟩
      rw [if_neg (fun e => a2 e.2)] at hK
      refine ⟨_, _, _, L_start1 ?_, by decide, by decide, by decide⟩
      refine ⟨fun e => absurd e (by decide), fun _ => ?_⟩
      exact hK.1
  · refine ⟨fun e => absurd e (by decide), fun _ => ?_⟩
    rw [if_neg (fun e => a1 e.1)] at hK
    refine ⟨_, _, _, L_start1 ?_, by decide, by decide, by decide⟩
    refine ⟨fun e => absurd e (by decide), fun _ => ?_⟩
    exact hK.1
theorem M_ringText (r : Int32) (hK : anMT K x t (m_ringText r s)) : M P n_M_ringText [.ref 5, .int r] (hm s x t) 40 3000 16 K := by
  refine Mgo ok_M_ringText 120 rfl ?_
  unfold m_ringText at hK
  refine ⟨_, _, _, L_isNoRing _ (fun a1 => ?_) (fun a1 => ?_), by decide, by decide, by decide⟩
  · rw [if_pos a1] at hK
    refine ⟨_, _, _, L_start0 ?_, by decide, by decide, by decide⟩
    refine ⟨fun _ => ?_, fun e => absurd rfl e⟩
    have hr := n3_ok a1
    rcases c3 hr with rfl | rfl | rfl
    · refine ⟨vp3 hr, fun q9 e9 => ?_, fun e9 => absurd e9 (Option.some_ne_none _)⟩
      obtain rfl := Option.some.inj e9
      have e0 := tl32 (mM s 0)
      have e1 := tl32 (mR s 0 0)
      have e2 := tl32 (mR s 0 1)
      have e3 := tl32 (mR s 0 2)
      have e4 := tl32 (mR s 0 3)
      refine ⟨by decide, ?_⟩
      refine ⟨_, _, _, L_SBnew (p := (hm (sT 0 s) x t).length) (nth_ar (l := [])) (Nat.le_refl _) (fun h1 k1 s1 => ?_), by decide, by decide, by decide⟩
      have hk1 : Kp (hm (sT 0 s) x t).length _ h1 := (Kp.rf (Nat.le_refl (hm (sT 0 s) x t).length)).ap.tr k1
      conv => whnf
      rw [hm_5 hk1]
      conv => whnf
      rw [hm_8 hk1]
      refine ⟨vp3 hr, ?_⟩
      obtain ⟨f1, r1⟩ := s1.rc
      conv => whnf
      rw [r1]
      refine ⟨_, _, _, L_appI (mM s 0) s1 (by omega) (fun h2 k2 s2 => ?_), by decide, by decide, by decide⟩
      have hk2 := hk1.tr k2
      obtain ⟨f2, r2⟩ := s2.rc
      conv => whnf
      rw [r2]
      refine ⟨_, _, _, L_appT1 s2 (by omega) (fun h3 k3 s3 => ?_), by decide, by decide, by decide⟩
      have hk3 := hk2.tr k3
      conv => whnf
      rw [show nth _ (10 + Int32.toNatClampNeg 0) = _ from hm_10 hk3]
      refine ⟨by rw [vp_in_iff]; decide, ?_⟩
      obtain ⟨f3, r3⟩ := s3.rc
      conv => whnf
      rw [r3]
      refine ⟨_, _, _, L_appI (mR s 0 0) s3 (by omega) (fun h4 k4 s4 => ?_), by decide, by decide, by decide⟩
      have hk4 := hk3.tr k4
      obtain ⟨f4, r4⟩ := s4.rc
      conv => whnf
      rw [r4]
      refine ⟨_, _, _, L_appT2 s4 (by omega) (fun h5 k5 s5 => ?_), by decide, by decide, by decide⟩
      have hk5 := hk4.tr k5
      conv => whnf
      rw [show nth _ (10 + Int32.toNatClampNeg 0) = _ from hm_10 hk5]
      refine ⟨by rw [vp_in_iff]; decide, ?_⟩
      obtain ⟨f5, r5⟩ := s5.rc
      conv => whnf
      rw [r5]
      refine ⟨_, _, _, L_appI (mR s 0 1) s5 (by omega) (fun h6 k6 s6 => ?_), by decide, by decide, by decide⟩
      have hk6 := hk5.tr k6
      obtain ⟨f6, r6⟩ := s6.rc
      conv => whnf
      rw [r6]
      refine ⟨_, _, _, L_appT2 s6 (by omega) (fun h7 k7 s7 => ?_), by decide, by decide, by decide⟩
      have hk7 := hk6.tr k7
      conv => whnf
      rw [show nth _ (10 + Int32.toNatClampNeg 0) = _ from hm_10 hk7]
      refine ⟨by rw [vp_in_iff]; decide, ?_⟩
      obtain ⟨f7, r7⟩ := s7.rc
      conv => whnf
      rw [r7]
      refine ⟨_, _, _, L_appI (mR s 0 2) s7 (by omega) (fun h8 k8 s8 => ?_), by decide, by decide, by decide⟩
      have hk8 := hk7.tr k8
      obtain ⟨f8, r8⟩ := s8.rc
      conv => whnf
      rw [r8]
      refine ⟨_, _, _, L_appT2 s8 (by omega) (fun h9 k9 s9 => ?_), by decide, by decide, by decide⟩
      have hk9 := hk8.tr k9
      conv => whnf
      rw [show nth _ (10 + Int32.toNatClampNeg 0) = _ from hm_10 hk9]
      refine ⟨by rw [vp_in_iff]; decide, ?_⟩
      obtain ⟨f9, r9⟩ := s9.rc
      conv => whnf
      rw [r9]
      refine ⟨_, _, _, L_appI (mR s 0 3) s9 (by omega) (fun h10 k10 s10 => ?_), by decide, by decide, by decide⟩
      have hk10 := hk9.tr k10
      obtain ⟨f10, r10⟩ := s10.rc
      conv => whnf
      rw [r10]
      refine ⟨_, _, _, L_toString s10 (Nat.le_refl _) (by omega) (fun h11 q11 k11 s11 => ?_), by decide, by omega, by decide⟩
      have hk11 := hk10.tr k11
      obtain ⟨l9, rfl⟩ := Kp_all hk11
      exact hK.2 l9 q11
    · refine ⟨vp3 hr, fun q9 e9 => ?_, fun e9 => absurd e9 (Option.some_ne_none _)⟩
      obtain rfl := Option.some.inj e9
      have e0 := tl32 (mM s 1)
      have e1 := tl32 (mR s 1 0)
      have e2 := tl32 (mR s 1 1)
      have e3 := tl32 (mR s 1 2)
      have e4 := tl32 (mR s 1 3)
      refine ⟨by decide, ?_⟩
      refine ⟨_, _, _, L_SBnew (p := (hm (sT 0 s) x t).length) (nth_ar (l := [])) (Nat.le_refl _) (fun h1 k1 s1 => ?_), by decide, by decide, by decide⟩
      have hk1 : Kp (hm (sT 0 s) x t).length _ h1 := (Kp.rf (Nat.le_refl (hm (sT 0 s) x t).length)).ap.tr k1
      conv => whnf
      rw [hm_5 hk1]
      conv => whnf
      rw [hm_8 hk1]
      refine ⟨vp3 hr, ?_⟩
      obtain ⟨f1, r1⟩ := s1.rc
      conv => whnf
      rw [r1]
      refine ⟨_, _, _, L_appI (mM s 1) s1 (by omega) (fun h2 k2 s2 => ?_), by decide, by decide, by decide⟩
      have hk2 := hk1.tr k2
      obtain ⟨f2, r2⟩ := s2.rc
      conv => whnf
      rw [r2]
      refine ⟨_, _, _, L_appT1 s2 (by omega) (fun h3 k3 s3 => ?_), by decide, by decide, by decide⟩
      have hk3 := hk2.tr k3
      conv => whnf
      rw [show nth _ (10 + Int32.toNatClampNeg 1) = _ from hm_11 hk3]
      refine ⟨by rw [vp_in_iff]; decide, ?_⟩
      obtain ⟨f3, r3⟩ := s3.rc
      conv => whnf
      rw [r3]
      refine ⟨_, _, _, L_appI (mR s 1 0) s3 (by omega) (fun h4 k4 s4 => ?_), by decide, by decide, by decide⟩
      have hk4 := hk3.tr k4
      obtain ⟨f4, r4⟩ := s4.rc
      conv => whnf
      rw [r4]
      refine ⟨_, _, _, L_appT2 s4 (by omega) (fun h5 k5 s5 => ?_), by decide, by decide, by decide⟩
      have hk5 := hk4.tr k5
      conv => whnf
      rw [show nth _ (10 + Int32.toNatClampNeg 1) = _ from hm_11 hk5]
      refine ⟨by rw [vp_in_iff]; decide, ?_⟩
      obtain ⟨f5, r5⟩ := s5.rc
      conv => whnf
      rw [r5]
      refine ⟨_, _, _, L_appI (mR s 1 1) s5 (by omega) (fun h6 k6 s6 => ?_), by decide, by decide, by decide⟩
      have hk6 := hk5.tr k6
      obtain ⟨f6, r6⟩ := s6.rc
      conv => whnf
      rw [r6]
      refine ⟨_, _, _, L_appT2 s6 (by omega) (fun h7 k7 s7 => ?_), by decide, by decide, by decide⟩
      have hk7 := hk6.tr k7
      conv => whnf
      rw [show nth _ (10 + Int32.toNatClampNeg 1) = _ from hm_11 hk7]
      refine ⟨by rw [vp_in_iff]; decide, ?_⟩
      obtain ⟨f7, r7⟩ := s7.rc
      conv => whnf
      rw [r7]
      refine ⟨_, _, _, L_appI (mR s 1 2) s7 (by omega) (fun h8 k8 s8 => ?_), by decide, by decide, by decide⟩
      have hk8 := hk7.tr k8
      obtain ⟨f8, r8⟩ := s8.rc
      conv => whnf
      rw [r8]
      refine ⟨_, _, _, L_appT2 s8 (by omega) (fun h9 k9 s9 => ?_), by decide, by decide, by decide⟩
      have hk9 := hk8.tr k9
      conv => whnf
      rw [show nth _ (10 + Int32.toNatClampNeg 1) = _ from hm_11 hk9]
      refine ⟨by rw [vp_in_iff]; decide, ?_⟩
      obtain ⟨f9, r9⟩ := s9.rc
      conv => whnf
      rw [r9]
      refine ⟨_, _, _, L_appI (mR s 1 3) s9 (by omega) (fun h10 k10 s10 => ?_), by decide, by decide, by decide⟩
      have hk10 := hk9.tr k10
      obtain ⟨f10, r10⟩ := s10.rc
      conv => whnf
      rw [r10]
      refine ⟨_, _, _, L_toString s10 (Nat.le_refl _) (by omega) (fun h11 q11 k11 s11 => ?_), by decide, by omega, by decide⟩
      have hk11 := hk10.tr k11
      obtain ⟨l9, rfl⟩ := Kp_all hk11
      exact hK.2 l9 q11
    · refine ⟨vp3 hr, fun q9 e9 => ?_, fun e9 => absurd e9 (Option.some_ne_none _)⟩
      obtain rfl := Option.some.inj e9
      have e0 := tl32 (mM s 2)
      have e1 := tl32 (mR s 2 0)
      have e2 := tl32 (mR s 2 1)
      have e3 := tl32 (mR s 2 2)
      have e4 := tl32 (mR s 2 3)
      refine ⟨by decide, ?_⟩
      refine ⟨_, _, _, L_SBnew (p := (hm (sT 0 s) x t).length) (nth_ar (l := [])) (Nat.le_refl _) (fun h1 k1 s1 => ?_), by decide, by decide, by decide⟩
      have hk1 : Kp (hm (sT 0 s) x t).length _ h1 := (Kp.rf (Nat.le_refl (hm (sT 0 s) x t).length)).ap.tr k1
      conv => whnf
      rw [hm_5 hk1]
      conv => whnf
      rw [hm_8 hk1]
      refine ⟨vp3 hr, ?_⟩
      obtain ⟨f1, r1⟩ := s1.rc
      conv => whnf
      rw [r1]
      refine ⟨_, _, _, L_appI (mM s 2) s1 (by omega) (fun h2 k2 s2 => ?_), by decide, by decide, by decide⟩
      have hk2 := hk1.tr k2
      obtain ⟨f2, r2⟩ := s2.rc
      conv => whnf
      rw [r2]
      refine ⟨_, _, _, L_appT1 s2 (by omega) (fun h3 k3 s3 => ?_), by decide, by decide, by decide⟩
      have hk3 := hk2.tr k3
      conv => whnf
      rw [show nth _ (10 + Int32.toNatClampNeg 2) = _ from hm_12 hk3]
      refine ⟨by rw [vp_in_iff]; decide, ?_⟩
      obtain ⟨f3, r3⟩ := s3.rc
      conv => whnf
      rw [r3]
      refine ⟨_, _, _, L_appI (mR s 2 0) s3 (by omega) (fun h4 k4 s4 => ?_), by decide, by decide, by decide⟩
      have hk4 := hk3.tr k4
      obtain ⟨f4, r4⟩ := s4.rc
      conv => whnf
      rw [r4]
      refine ⟨_, _, _, L_appT2 s4 (by omega) (fun h5 k5 s5 => ?_), by decide, by decide, by decide⟩
      have hk5 := hk4.tr k5
      conv => whnf
      rw [show nth _ (10 + Int32.toNatClampNeg 2) = _ from hm_12 hk5]
      refine ⟨by rw [vp_in_iff]; decide, ?_⟩
      obtain ⟨f5, r5⟩ := s5.rc
      conv => whnf
      rw [r5]
      refine ⟨_, _, _, L_appI (mR s 2 1) s5 (by omega) (fun h6 k6 s6 => ?_), by decide, by decide, by decide⟩
      have hk6 := hk5.tr k6
      obtain ⟨f6, r6⟩ := s6.rc
      conv => whnf
      rw [r6]
      refine ⟨_, _, _, L_appT2 s6 (by omega) (fun h7 k7 s7 => ?_), by decide, by decide, by decide⟩
      have hk7 := hk6.tr k7
      conv => whnf
      rw [show nth _ (10 + Int32.toNatClampNeg 2) = _ from hm_12 hk7]
      refine ⟨by rw [vp_in_iff]; decide, ?_⟩
      obtain ⟨f7, r7⟩ := s7.rc
      conv => whnf
      rw [r7]
      refine ⟨_, _, _, L_appI (mR s 2 2) s7 (by omega) (fun h8 k8 s8 => ?_), by decide, by decide, by decide⟩
      have hk8 := hk7.tr k8
      obtain ⟨f8, r8⟩ := s8.rc
      conv => whnf
      rw [r8]
      refine ⟨_, _, _, L_appT2 s8 (by omega) (fun h9 k9 s9 => ?_), by decide, by decide, by decide⟩
      have hk9 := hk8.tr k9
      conv => whnf
      rw [show nth _ (10 + Int32.toNatClampNeg 2) = _ from hm_12 hk9]
      refine ⟨by rw [vp_in_iff]; decide, ?_⟩
      obtain ⟨f9, r9⟩ := s9.rc
      conv => whnf
      rw [r9]
      refine ⟨_, _, _, L_appI (mR s 2 3) s9 (by omega) (fun h10 k10 s10 => ?_), by decide, by decide, by decide⟩
      have hk10 := hk9.tr k10
      obtain ⟨f10, r10⟩ := s10.rc
      conv => whnf
      rw [r10]
      refine ⟨_, _, _, L_toString s10 (Nat.le_refl _) (by omega) (fun h11 q11 k11 s11 => ?_), by decide, by omega, by decide⟩
      have hk11 := hk10.tr k11
      obtain ⟨l9, rfl⟩ := Kp_all hk11
      exact hK.2 l9 q11
  · rw [if_neg a1] at hK
    refine ⟨_, _, _, L_start1 ?_, by decide, by decide, by decide⟩
    refine ⟨fun e => absurd e (by decide), fun _ => ?_⟩
    exact hK.1
theorem M_ofNow0 (l k w : Int32) (hk : ok4 k) (hw : n4 w) (hK : K (.inl (some (.int (mOf l k w s)))) (hm s x t)) : M P n_M_ofNow [.ref 5, .int l, .int k, .int w] (hm s x t) 0 0 8 K := by
  refine Mgo ok_M_ofNow 80 rfl ?_
  unfold mOf mLeast at hK
  refine ⟨_, _, _, L_now _ _ hk ?_, by decide, by decide, by decide⟩
  refine ⟨fun ql => ?_, fun ql => ?_⟩
  · rw [if_pos (c := l = 0) ql] at hK
    refine ⟨fun q0 => ?_, fun q0 => ?_⟩
    · rw [if_pos q0] at hK
      refine ⟨_, _, _, L_sign _ ?_, by decide, by decide, by decide⟩
      exact hK
    · rw [if_neg q0] at hK
      refine ⟨fun q1 => ?_, fun q1 => ?_⟩
      · rw [if_pos q1] at hK
        exact hK
      · rw [if_neg q1] at hK
        refine ⟨fun q2 => ?_, fun q2 => ?_⟩
        · rw [if_pos q2] at hK
          exact hK
        · rw [if_neg q2] at hK
          refine ⟨fun q3 => ?_, fun q3 => ?_⟩
          · rw [if_pos q3] at hK
            refine ⟨fun q4 => ?_, fun q4 => ?_⟩
            · rw [if_pos q4] at hK
              exact hK
            · rw [if_neg q4] at hK
              refine ⟨fun q5 => ?_, fun q5 => ?_⟩
              · rw [if_pos q5] at hK
                exact hK
              · rw [if_neg q5] at hK
                exact hK
          · exact ((c4 (n4_ok hw)).elim q0 (fun e => e.elim q1 (fun e => e.elim q2 q3))).elim
  · rw [if_neg (c := l = 0) ql] at hK
    refine ⟨fun q0 => ?_, fun q0 => ?_⟩
    · rw [if_pos q0] at hK
      refine ⟨_, _, _, L_sign _ ?_, by decide, by decide, by decide⟩
      exact hK
    · rw [if_neg q0] at hK
      refine ⟨fun q1 => ?_, fun q1 => ?_⟩
      · rw [if_pos q1] at hK
        exact hK
      · rw [if_neg q1] at hK
        refine ⟨fun q2 => ?_, fun q2 => ?_⟩
        · rw [if_pos q2] at hK
          exact hK
        · rw [if_neg q2] at hK
          refine ⟨fun q3 => ?_, fun q3 => ?_⟩
          · rw [if_pos q3] at hK
            refine ⟨fun q4 => ?_, fun q4 => ?_⟩
            · rw [if_pos q4] at hK
              exact hK
            · rw [if_neg q4] at hK
              refine ⟨fun q5 => ?_, fun q5 => ?_⟩
              · rw [if_pos q5] at hK
                exact hK
              · rw [if_neg q5] at hK
                exact hK
          · exact ((c4 (n4_ok hw)).elim q0 (fun e => e.elim q1 (fun e => e.elim q2 q3))).elim
theorem M_ofNow4 (l k : Int32) (hk : ok4 k) (hK : ∀ t', K (.inl (some (.int (mOf l k 4 s)))) (hm s x (t ++ t'))) : M P n_M_ofNow [.ref 5, .int l, .int k, .int 4] (hm s x t) 6 500 16 K := by
  refine Mgo ok_M_ofNow 80 rfl ?_
  have e1 := tl64 (mNow l k s)
  have hO : mOf l k 4 s = Int32.ofNat (0 + 0 + tl (mNow l k s).toInt) := by
    unfold mOf
    rw [if_neg (by decide), if_neg (by decide), if_neg (by decide), if_neg (by decide), Nat.zero_add]
  rw [hO] at hK
  refine ⟨_, _, _, L_now _ _ hk ?_, by decide, by decide, by decide⟩
  refine ⟨fun ql => ?_, fun ql => ?_⟩
  · refine ⟨fun e => absurd e (by decide), fun _ => ?_⟩
    refine ⟨fun e => absurd e (by decide), fun _ => ?_⟩
    refine ⟨fun e => absurd e (by decide), fun _ => ?_⟩
    refine ⟨fun e => absurd e (by decide), fun _ => ?_⟩
    refine ⟨by decide, ?_⟩
    refine ⟨_, _, _, L_SBnew (p := (hm s x t).length) (nth_ar (l := [])) (Nat.le_refl _) (fun h1 k1 s1 => ?_), by decide, by decide, by decide⟩
    have hk1 : Kp (hm s x t).length _ h1 := (Kp.rf (Nat.le_refl (hm s x t).length)).ap.tr k1
    obtain ⟨f1, r1⟩ := s1.rc
    conv => whnf
    rw [r1]
    refine ⟨_, _, _, L_appT0 s1 (by omega) (fun h2 k2 s2 => ?_), by decide, by decide, by decide⟩
    have hk2 := hk1.tr k2
    obtain ⟨f2, r2⟩ := s2.rc
    conv => whnf
    rw [r2]
    refine ⟨_, _, _, L_appJ _ s2 (by omega) (fun h3 k3 s3 => ?_), by decide, by decide, by decide⟩
    have hk3 := hk2.tr k3
    obtain ⟨f3, r3⟩ := s3.rc
    conv => whnf
    rw [r3]
    refine ⟨_, _, _, L_toString s3 (Nat.le_refl _) (by omega) (fun h4 q4 k4 s4 => ?_), by decide, by omega, by decide⟩
    have hk4 := hk3.tr k4
    obtain ⟨-, w4, g4, r4, -⟩ := id s4
    conv => whnf
    rw [r4]
    refine ⟨_, _, _, L_slenS s4 ?_, Nat.zero_le _, Nat.zero_le _, by decide⟩
    obtain ⟨l9, rfl⟩ := Kp_all hk4
    exact hK l9
  · refine ⟨fun e => absurd e (by decide), fun _ => ?_⟩
    refine ⟨fun e => absurd e (by decide), fun _ => ?_⟩
    refine ⟨fun e => absurd e (by decide), fun _ => ?_⟩
    refine ⟨fun e => absurd e (by decide), fun _ => ?_⟩
    refine ⟨by decide, ?_⟩
    refine ⟨_, _, _, L_SBnew (p := (hm s x t).length) (nth_ar (l := [])) (Nat.le_refl _) (fun h1 k1 s1 => ?_), by decide, by decide, by decide⟩
    have hk1 : Kp (hm s x t).length _ h1 := (Kp.rf (Nat.le_refl (hm s x t).length)).ap.tr k1
    obtain ⟨f1, r1⟩ := s1.rc
    conv => whnf
    rw [r1]
    refine ⟨_, _, _, L_appT0 s1 (by omega) (fun h2 k2 s2 => ?_), by decide, by decide, by decide⟩
    have hk2 := hk1.tr k2
    obtain ⟨f2, r2⟩ := s2.rc
    conv => whnf
    rw [r2]
    refine ⟨_, _, _, L_appJ _ s2 (by omega) (fun h3 k3 s3 => ?_), by decide, by decide, by decide⟩
    have hk3 := hk2.tr k3
    obtain ⟨f3, r3⟩ := s3.rc
    conv => whnf
    rw [r3]
    refine ⟨_, _, _, L_toString s3 (Nat.le_refl _) (by omega) (fun h4 q4 k4 s4 => ?_), by decide, by omega, by decide⟩
    have hk4 := hk3.tr k4
    obtain ⟨-, w4, g4, r4, -⟩ := id s4
    conv => whnf
    rw [r4]
    refine ⟨_, _, _, L_slenS s4 ?_, Nat.zero_le _, Nat.zero_le _, by decide⟩
    obtain ⟨l9, rfl⟩ := Kp_all hk4
    exact hK l9
theorem M_ofNumber (l k w : Int32) (hK : ∀ t', anM K x (t ++ t') (m_ofNumber l k w s)) : M P n_M_ofNumber [.ref 5, .int l, .int k, .int w] (hm s x t) 40 3000 17 K := by
  refine Mgo ok_M_ofNumber 80 rfl ?_
  have hG := fun t' => an_gd (hK t')
  have h0 : ∀ o, anM K x (t ++ []) o → anM K x t o := fun o h => by
    rw [List.append_nil] at h
    exact h
  refine ⟨_, _, _, L_isNo _ (fun a1 => ?_) (fun a1 => ?_), by decide, by decide, by decide⟩
  · have hR := fun t' => an_rf ((hG t').1 a1)
    refine ⟨_, _, _, L_start0 ?_, by decide, by decide, by decide⟩
    refine ⟨fun _ => ?_, fun e => absurd rfl e⟩
    refine ⟨fun w1 => ?_, fun w1 => ?_⟩
    · have hK := h0 _ ((hR []).2 (fun e => e.1 w1))
      refine ⟨_, _, _, L_mrefuse1 2 rfl (by decide) ?_, by decide, by decide, by decide⟩
      refine ⟨fun e => absurd e (by decide), fun _ => ?_⟩
      exact hK
    · refine ⟨fun w2 => ?_, fun w2 => ?_⟩
      · have hK := h0 _ ((hR []).2 (fun e => e.2 w2))
        refine ⟨_, _, _, L_mrefuse1 2 rfl (by decide) ?_, by decide, by decide, by decide⟩
        refine ⟨fun e => absurd e (by decide), fun _ => ?_⟩
        exact hK
      · have hK := fun t' => (hR t').1 ⟨w1, w2⟩
        refine ⟨_, _, _, L_mrefuse0 2 rfl ?_, by decide, by decide, by decide⟩
        refine ⟨fun _ => ?_, fun e => absurd rfl e⟩
        by_cases h4 : w = 4
        · subst h4
          exact ⟨_, _, _, M_ofNow4 _ _ (n4_ok a1) (fun t' => hK t'), by decide, by decide, by decide⟩
        · have hw : n4 w := ⟨w1, fun e => h4 (by
            have i3 : (3 : Int32).toInt = 3 := by decide
            have i4 : (4 : Int32).toInt = 4 := by decide
            rw [Int32.lt_iff_toInt_lt] at e w2
            exact Int32.toInt_inj.mp (by omega))⟩
          exact ⟨_, _, _, M_ofNow0 _ _ _ (n4_ok a1) hw (h0 _ (hK [])), by decide, by decide, by decide⟩
  · have hK := h0 _ ((hG []).2 a1)
    refine ⟨_, _, _, L_start1 ?_, by decide, by decide, by decide⟩
    refine ⟨fun e => absurd e (by decide), fun _ => ?_⟩
    exact hK
end MDT
end
section
/-! THE MODEL: its digest -/
theorem G_mono {P : GP} {a : Nat} {K : Kt} {d pc : Nat} {L : mLs} {st : List Value} {h : mH} {cb sb cb' sb' : Nat} (q : G P a K d pc L st h cb sb) (h1 : cb ≤ cb') (h2 : sb ≤ sb') : G P a K d pc L st h cb' sb' := by
  intro p e R s m args below meth c H locs cells slots ls F Y V
  exact q p e R s m args below meth c H locs cells slots ls F ⟨Nat.le_trans (Nat.add_le_add_left h1 _) Y.1, Nat.le_trans (Nat.add_le_add_left h2 _) Y.2.1, Y.2.2⟩ V
theorem t4 {i : Int32} {n : Nat} (h : i.toInt + n = 4) (h0 : 0 ≤ i.toInt) (hn : 1 ≤ n) : ok4 i := by
  have e4 : (4 : Int32).toInt = 4 := by decide
  have e0 : (0 : Int32).toInt = 0 := by decide
  refine ⟨fun e => ?_, ?_⟩
  · rw [Int32.lt_iff_toInt_lt] at e
    omega
  · rw [Int32.lt_iff_toInt_lt]
    omega
theorem t3 {i : Int32} {n : Nat} (h : i.toInt + n = 3) (h0 : 0 ≤ i.toInt) (hn : 1 ≤ n) : ok3 i := by
  have e4 : (3 : Int32).toInt = 3 := by decide
  have e0 : (0 : Int32).toInt = 0 := by decide
  refine ⟨fun e => ?_, ?_⟩
  · rw [Int32.lt_iff_toInt_lt] at e
    omega
  · rw [Int32.lt_iff_toInt_lt]
    omega
theorem tw {w : Int32} {n : Nat} (h0 : 0 ≤ w.toInt) (h : w.toInt + ((n + 1 : Nat) : Int) = 4) : n4 w ∧ w < 5 ∧ 0 ≤ (w + 1).toInt ∧ (w + 1).toInt + (n : Int) = 4 := by
  have e0 : (0 : Int32).toInt = 0 := by decide
  have e3 : (3 : Int32).toInt = 3 := by decide
  have e5 : (5 : Int32).toInt = 5 := by decide
  have e1 : (w + 1).toInt = w.toInt + 1 := by
    rw [Int32.toInt_add, i1]
    exact Int.bmod_eq_of_le (by omega) (by omega)
  refine ⟨⟨fun e => ?_, fun e => ?_⟩, ?_, by omega, by omega⟩
  · rw [Int32.lt_iff_toInt_lt] at e
    omega
  · rw [Int32.lt_iff_toInt_lt] at e
    omega
  · rw [Int32.lt_iff_toInt_lt]
    omega
theorem tw4 {w : Int32} (h : w.toInt + ((0 : Nat) : Int) = 4) : w = 4 := by
  have e4 : (4 : Int32).toInt = 4 := by decide
  refine Int32.toInt_inj.mp ?_
  omega
theorem ts {i : Int32} {n m : Nat} (h0 : 0 ≤ i.toInt) (h : i.toInt + ((n + 1 : Nat) : Int) = m) (hm : m < 100) : 0 ≤ (i + 1).toInt ∧ (i + 1).toInt + (n : Int) = m := by
  have e1 : (i + 1).toInt = i.toInt + 1 := by
    rw [Int32.toInt_add, i1]
    exact Int.bmod_eq_of_le (by omega) (by omega)
  omega
theorem tl0 {i c : Int32} {m : Nat} (h : i.toInt + ((0 : Nat) : Int) = m) (hc : c.toInt = m) : ¬ i < c := by
  rw [Int32.lt_iff_toInt_lt]
  omega
theorem tl1 {i c : Int32} {n m : Nat} (h : i.toInt + ((n + 1 : Nat) : Int) = m) (hc : c.toInt = m) : i < c := by
  rw [Int32.lt_iff_toInt_lt]
  omega
theorem bg1 {c0 n cb a : Nat} (h : c0 + a * (n + 1) ≤ cb) : (c0 + a * n) + a ≤ cb ∧ c0 ≤ cb := by
  rw [Nat.mul_succ] at h
  omega
theorem bg0 {c0 cb a : Nat} (h : c0 + a * 0 ≤ cb) : c0 ≤ cb := by omega
def mdH (s : MS) : Nat → Int32 → Int64 → Int64
  | 0, _, d => d
  | n + 1, i, d => mdH s n (i + 1) (d * 31 + (mHs i s).toInt64)
termination_by n => n
def mdW (l k : Int32) (s : MS) : Nat → Int32 → Int64 → Int64
  | 0, _, d => d
  | n + 1, w, d => mdW l k s n (w + 1) (d * 31 + (mOf l k w s).toInt64)
termination_by n => n
def mdK (l : Int32) (s : MS) : Nat → Int32 → Int64 → Int64
  | 0, _, d => d
  | n + 1, k, d => mdK l s n (k + 1) (mdW l k s 5 0 d)
termination_by n => n
def mdL (s : MS) : Nat → Int32 → Int64 → Int64
  | 0, _, d => d
  | n + 1, q, d => mdL s n (q + 1) (mdK (if q = 1 then 1 else 0) s 4 0 d)
termination_by n => n
def mdS (r : Int32) (s : MS) : Nat → Int32 → Int64 → Int64
  | 0, _, d => d
  | n + 1, i, d => mdS r s n (i + 1) (d * 31 + (mRes r i s).toInt64)
termination_by n => n
def mdR (s : MS) : Nat → Int32 → Int64 → Int64
  | 0, _, d => d
  | n + 1, r, d => mdR s n (r + 1) (mdS r s 4 0 (d * 31 + (mMod r s).toInt64))
termination_by n => n
def m_digest (s : MS) : Int64 := mdR s 3 0 (mdL s 2 0 (mdH s 4 0 7837)) * 31 + 1
section MDG
variable {P : GP} {K : Kt} {s : MS} {x : XS}
theorem l_mdH {t : mH} {cb sb : Nat} : ∀ (n : Nat) (i : Int32) (d : Int64), 0 ≤ i.toInt → i.toInt + (n : Int) = (4 : Nat) → G P n_M_digest K 17 37 [some (.ref 5), some (.long (mdH s n i d)), none, some (.int 0), none, none] [] (hm s x t) cb sb →
    G P n_M_digest K 17 11 [some (.ref 5), some (.long d), none, some (.int i), none, none] [] (hm s x t) cb sb
  | 0, i, d, h0, h4, hK => by
    rw [mdH] at hK
    refine go ok_M_digest 80 ?_
    refine ⟨fun q => absurd q (tl0 h4 (by decide)), fun _ => ?_⟩
    exact hK
  | n + 1, i, d, h0, h4, hK => by
    rw [mdH] at hK
    have e := ts h0 h4 (by decide)
    refine go ok_M_digest 80 ?_
    refine ⟨fun _ => ?_, fun q => absurd (tl1 h4 (by decide)) q⟩
    refine ⟨_, _, _, M_houseNow i ?_, Nat.zero_le _, Nat.zero_le _, by decide⟩
    exact l_mdH n (i + 1) _ e.1 e.2 hK
theorem l_mdW {q k : Int32} (hk : ok4 k) {c0 s0 : Nat} : ∀ (n : Nat) (w : Int32) (d : Int64) (t : mH) (cb sb : Nat), 0 ≤ w.toInt → w.toInt + (n : Int) = 4 → c0 + 6 ≤ cb → s0 + 500 ≤ sb →
    (∀ t', G P n_M_digest K 17 45 [some (.ref 5), some (.long (mdW (if q = 1 then 1 else 0) k s (n + 1) w d)), none, some (.int q), some (.int (k + 1)), none] [] (hm s x (t ++ t')) c0 s0) →
    G P n_M_digest K 17 54 [some (.ref 5), some (.long d), none, some (.int q), some (.int k), some (.int w)] [] (hm s x t) cb sb
  | 0, w, d, t, cb, sb, h0, h4, hcb, hsb, hK => by
    have hw := tw4 h4
    subst hw
    have b1 : 6 ≤ cb := Nat.le_trans (Nat.le_add_left _ _) hcb
    have b2 : 500 ≤ sb := Nat.le_trans (Nat.le_add_left _ _) hsb
    have b3 : c0 ≤ cb - 6 := Nat.le_sub_of_add_le hcb
    have b4 : s0 ≤ sb - 500 := Nat.le_sub_of_add_le hsb
    rw [mdW, mdW] at hK
    refine go ok_M_digest 80 ?_
    refine ⟨fun _ => ?_, fun q9 => absurd (by decide) q9⟩
    refine ⟨fun q1 => ?_, fun q1 => ?_⟩
    · rw [if_pos q1] at hK
      refine ⟨_, _, _, M_ofNow4 _ _ hk (fun t' => ?_), b1, b2, by decide⟩
      refine go ok_M_digest 80 ?_
      refine ⟨fun q9 => absurd q9 (by decide), fun _ => ?_⟩
      refine G_wk ?_ (G_mono (hK t') b3 b4)
      exact ⟨rfl, rfl, rfl, rfl, trivial⟩
    · rw [if_neg q1] at hK
      refine ⟨_, _, _, M_ofNow4 _ _ hk (fun t' => ?_), b1, b2, by decide⟩
      refine go ok_M_digest 80 ?_
      refine ⟨fun q9 => absurd q9 (by decide), fun _ => ?_⟩
      refine G_wk ?_ (G_mono (hK t') b3 b4)
      exact ⟨rfl, rfl, rfl, rfl, trivial⟩
  | n + 1, w, d, t, cb, sb, h0, h4, hcb, hsb, hK => by
    have e := tw h0 h4
    rw [mdW] at hK
    refine go ok_M_digest 80 ?_
    refine ⟨fun _ => ?_, fun q9 => absurd e.2.1 q9⟩
    refine ⟨fun q1 => ?_, fun q1 => ?_⟩
    · refine ⟨_, _, _, M_ofNow0 _ _ _ hk e.1 ?_, Nat.zero_le _, Nat.zero_le _, by decide⟩
      refine l_mdW hk n (w + 1) _ t cb sb e.2.2.1 e.2.2.2 hcb hsb ?_
      rw [if_pos q1] at hK ⊢
      exact hK
    · refine ⟨_, _, _, M_ofNow0 _ _ _ hk e.1 ?_, Nat.zero_le _, Nat.zero_le _, by decide⟩
      refine l_mdW hk n (w + 1) _ t cb sb e.2.2.1 e.2.2.2 hcb hsb ?_
      rw [if_neg q1] at hK ⊢
      exact hK
theorem l_mdK {q : Int32} {c0 s0 : Nat} : ∀ (n : Nat) (k : Int32) (d : Int64) (t : mH) (cb sb : Nat), 0 ≤ k.toInt → k.toInt + (n : Int) = (4 : Nat) → c0 + 6 * n ≤ cb → s0 + 500 * n ≤ sb →
    (∀ t', G P n_M_digest K 17 37 [some (.ref 5), some (.long (mdK (if q = 1 then 1 else 0) s n k d)), none, some (.int (q + 1)), none, none] [] (hm s x (t ++ t')) c0 s0) →
    G P n_M_digest K 17 45 [some (.ref 5), some (.long d), none, some (.int q), some (.int k), none] [] (hm s x t) cb sb
  | 0, k, d, t, cb, sb, h0, h4, hcb, hsb, hK => by
    have hK := hK []
    rw [mdK, List.append_nil] at hK
    refine go ok_M_digest 80 ?_
    refine ⟨fun q => absurd q (tl0 h4 (by decide)), fun _ => ?_⟩
    refine G_wk ?_ (G_mono hK (bg0 hcb) (bg0 hsb))
    exact ⟨rfl, rfl, rfl, trivial⟩
  | n + 1, k, d, t, cb, sb, h0, h4, hcb, hsb, hK => by
    have e := ts h0 h4 (by decide)
    have hk := t4 h4 h0 (Nat.succ_pos _)
    have b1 := bg1 hcb
    have b2 := bg1 hsb
    refine go ok_M_digest 80 ?_
    refine ⟨fun _ => ?_, fun q => absurd (tl1 h4 (by decide)) q⟩
    refine l_mdW hk 4 0 d t cb sb (by decide) (by decide) b1.1 b2.1 (fun t' => ?_)
    refine l_mdK n (k + 1) _ (t ++ t') _ _ e.1 e.2 (Nat.le_refl _) (Nat.le_refl _) (fun t2 => ?_)
    have := hK (t' ++ t2)
    rw [mdK, ← List.append_assoc] at this
    exact this
theorem l_mdL {c0 s0 : Nat} : ∀ (n : Nat) (q : Int32) (d : Int64) (t : mH) (cb sb : Nat), 0 ≤ q.toInt → q.toInt + (n : Int) = (2 : Nat) → c0 + 24 * n ≤ cb → s0 + 2000 * n ≤ sb →
    (∀ t', G P n_M_digest K 17 106 [some (.ref 5), some (.long (mdL s n q d)), none, some (.int 0), none, none] [] (hm s x (t ++ t')) c0 s0) →
    G P n_M_digest K 17 37 [some (.ref 5), some (.long d), none, some (.int q), none, none] [] (hm s x t) cb sb
  | 0, q, d, t, cb, sb, h0, h4, hcb, hsb, hK => by
    have hK := hK []
    rw [mdL, List.append_nil] at hK
    refine go ok_M_digest 80 ?_
    refine ⟨fun q => absurd q (tl0 h4 (by decide)), fun _ => ?_⟩
    exact G_mono hK (bg0 hcb) (bg0 hsb)
  | n + 1, q, d, t, cb, sb, h0, h4, hcb, hsb, hK => by
    have e := ts h0 h4 (by decide)
    have b1 := bg1 hcb
    have b2 := bg1 hsb
    refine go ok_M_digest 80 ?_
    refine ⟨fun _ => ?_, fun q => absurd (tl1 h4 (by decide)) q⟩
    refine l_mdK 4 0 d t cb sb (by decide) (by decide) b1.1 b2.1 (fun t' => ?_)
    refine l_mdL n (q + 1) _ (t ++ t') _ _ e.1 e.2 (Nat.le_refl _) (Nat.le_refl _) (fun t2 => ?_)
    have := hK (t' ++ t2)
    rw [mdL, ← List.append_assoc] at this
    exact this
theorem l_mdS {r : Int32} (hr : ok3 r) {t : mH} {cb sb : Nat} : ∀ (n : Nat) (i : Int32) (d : Int64), 0 ≤ i.toInt → i.toInt + (n : Int) = (4 : Nat) → G P n_M_digest K 17 106 [some (.ref 5), some (.long (mdS r s n i d)), none, some (.int (r + 1)), none, none] [] (hm s x t) cb sb →
    G P n_M_digest K 17 128 [some (.ref 5), some (.long d), none, some (.int r), some (.int i), none] [] (hm s x t) cb sb
  | 0, i, d, h0, h4, hK => by
    rw [mdS] at hK
    refine go ok_M_digest 80 ?_
    refine ⟨fun q => absurd q (tl0 h4 (by decide)), fun _ => ?_⟩
    refine G_wk ?_ hK
    exact ⟨rfl, rfl, rfl, trivial⟩
  | n + 1, i, d, h0, h4, hK => by
    rw [mdS] at hK
    have e := ts h0 h4 (by decide)
    have hi := t4 h4 h0 (Nat.succ_pos _)
    refine go ok_M_digest 80 ?_
    refine ⟨fun _ => ?_, fun q => absurd (tl1 h4 (by decide)) q⟩
    rcases c3 hr with rfl | rfl | rfl
    · refine ⟨vp3 hr, fun q9 e9 => ?_, fun e9 => absurd e9 (Option.some_ne_none _)⟩
      obtain rfl := Option.some.inj e9
      refine ⟨vp4 hi, ?_⟩
      exact l_mdS hr n (i + 1) _ e.1 e.2 hK
    · refine ⟨vp3 hr, fun q9 e9 => ?_, fun e9 => absurd e9 (Option.some_ne_none _)⟩
      obtain rfl := Option.some.inj e9
      refine ⟨vp4 hi, ?_⟩
      exact l_mdS hr n (i + 1) _ e.1 e.2 hK
    · refine ⟨vp3 hr, fun q9 e9 => ?_, fun e9 => absurd e9 (Option.some_ne_none _)⟩
      obtain rfl := Option.some.inj e9
      refine ⟨vp4 hi, ?_⟩
      exact l_mdS hr n (i + 1) _ e.1 e.2 hK
theorem l_mdR {t : mH} {cb sb : Nat} : ∀ (n : Nat) (r : Int32) (d : Int64), 0 ≤ r.toInt → r.toInt + (n : Int) = (3 : Nat) → K (.inl (some (.long (mdR s n r d * 31 + 1)))) (hm s x t) →
    G P n_M_digest K 17 106 [some (.ref 5), some (.long d), none, some (.int r), none, none] [] (hm s x t) cb sb
  | 0, r, d, h0, h4, hK => by
    rw [mdR] at hK
    refine go ok_M_digest 80 ?_
    refine ⟨fun q => absurd q (tl0 h4 (by decide)), fun _ => ?_⟩
    exact hK
  | n + 1, r, d, h0, h4, hK => by
    rw [mdR] at hK
    have e := ts h0 h4 (by decide)
    have hr := t3 h4 h0 (Nat.succ_pos _)
    refine go ok_M_digest 80 ?_
    refine ⟨fun _ => ?_, fun q => absurd (tl1 h4 (by decide)) q⟩
    refine ⟨vp3 hr, ?_⟩
    exact l_mdS hr 4 0 _ (by decide) (by decide) (l_mdR n (r + 1) _ e.1 e.2 hK)
theorem M_digest {t : mH} (hK : ∀ t', K (.inl (some (.long (m_digest (sT 0 s))))) (hm (sT 0 s) x (t ++ t'))) : M P n_M_digest [.ref 5] (hm s x t) 50 5000 17 K := by
  refine Mgo ok_M_digest 80 rfl ?_
  refine l_mdH (s := sT 0 s) 4 0 7837 (by decide) (by decide) ?_
  refine l_mdL (c0 := 2) (s0 := 1000) 2 0 _ t 50 5000 (by decide) (by decide) (by decide) (by decide) (fun t' => ?_)
  exact l_mdR 3 0 _ (by decide) (by decide) (hK t')
end MDG
end
section
/-! THE LAW: its own methods, which call the class and catch what it throws -/
def OE (p : Nat → Prop) (o : Out) : Prop := ∀ e, o.1 = .inr e → p e
theorem OE_nd {p : Nat → Prop} {c : Prop} [Decidable c] {E : Nat} {s : XS} {r : Out} (h : p E) (hr : OE p r) : OE p (nd c E s r) := fun e he => by
  unfold nd at he
  by_cases q : c
  · rw [if_pos q] at he
    exact hr e he
  · rw [if_neg q] at he
    cases he
    exact h
theorem OE_inl {p : Nat → Prop} {v : Int32} {s : XS} : OE p (.inl v, s) := fun _ h => by cases h
theorem OE_ite {p : Nat → Prop} {c : Prop} [Decidable c] {a b : Out} (ha : OE p a) (hb : OE p b) : OE p (if c then a else b) := by
  by_cases q : c
  · rw [if_pos q]
    exact ha
  · rw [if_neg q]
    exact hb
theorem OE_refuse {p : Nat → Prop} {s : XS} : OE p (xRefuse s) := OE_inl
theorem OE_keep {p : Nat → Prop} (h : p 0) {l k : Int32} {v : Int64} {s : XS} : OE p (xKeep l k v s) := OE_nd h OE_inl
theorem OE_keepR {p : Nat → Prop} (h : p 0) {l k : Int32} {v : Int64} {s : XS} : OE p (xKeepR l k v s) := OE_keep h
theorem OE_keepE {p : Nat → Prop} (h : p 0) {l k w : Int32} {a b : Int64} {s : XS} : OE p (xKeepE l k a b w s) := OE_ite OE_refuse (OE_keep h)
theorem OE_keepF {p : Nat → Prop} (h : p 0) {l k r : Int32} {d : Int64} {s : XS} : OE p (xKeepF l k d r s) := OE_nd h (OE_ite OE_refuse (OE_keepR h))
theorem OE_keepM {p : Nat → Prop} (h : p 0) {r k : Int32} {v : Int64} {s : XS} : OE p (xKeepM r k v s) := OE_nd h (OE_nd h OE_inl)
def p0 (e : Nat) : Prop := e = 0
def p1 (e : Nat) : Prop := e = 1
def p2 (e : Nat) : Prop := e = 0 ∨ e = 1
theorem p0_0 : p0 0 := rfl
theorem p1_1 : p1 1 := rfl
theorem p2_0 : p2 0 := Or.inl rfl
theorem p2_1 : p2 1 := Or.inr rfl
def oc (n : Int64) (w : Value) : va_E := .inr (3, [.long n, w])
def cd2 (E : Nat) : Int32 := match E with | 0 => 1 | _ => 2
def cdH (_ : Nat) : Int32 := 1
def bz (v : Int32) : Int64 := if v = 0 then 0 else 1
def ansK (K : Kt) (s : MS) (n : Int64) (w : Value) (t : mH) (cd : Nat → Int32) (o : Out) : Prop := match o.1 with
  | .inl v => K (.inl (some (.int 0))) (hm s o.2 (oc v.toInt64 w :: t))
  | .inr E => ∀ j, K (.inl (some (.int (cd E)))) (hm s o.2 (oc n w :: (t ++ jk j)))
def ansB (K : Kt) (s : MS) (n : Int64) (w : Value) (t : mH) (cd : Nat → Int32) (o : Out) : Prop := match o.1 with
  | .inl v => K (.inl (some (.int 0))) (hm s o.2 (oc (bz v) w :: t))
  | .inr E => ∀ j, K (.inl (some (.int (cd E)))) (hm s o.2 (oc n w :: (t ++ jk j)))
def ansS (K : Kt) (s : MS) (n : Int64) (w : Value) (t : mH) (cd : Nat → Int32) (o : Out) : Prop := match o.1 with
  | .inl _ => ∀ l r, K (.inl (some (.int 0))) (hm s o.2 (oc n (.ref r) :: (t ++ l)))
  | .inr E => ∀ l, K (.inl (some (.int (cd E)))) (hm s o.2 (oc n w :: (t ++ l)))
section LAWK
variable {P : GP} {K : Kt} {s : MS} {x : XS} {n : Int64} {w : Value} {t : mH}
theorem e_put (l k hi lo : Int32) (x : XS) : OE p0 (xPut l k hi lo x) := by
  unfold xPut
  repeat' first | with_reducible exact OE_inl | with_reducible exact OE_refuse | with_reducible refine OE_ite ?_ ?_ | with_reducible exact OE_keep p0_0 | with_reducible exact OE_keepR p0_0 | with_reducible exact OE_keepE p0_0 | with_reducible exact OE_keepF p0_0 | with_reducible exact OE_keepM p0_0 | with_reducible refine OE_nd p0_0 ?_
theorem K_put (l k hi lo : Int32) (hK : ansK K s n w t cd2 (xPut l k hi lo x)) : M P n_K_put [.ref 0, .int l, .int k, .int hi, .int lo, .ref 13] (hm s x (oc n w :: t)) 12 70 20 K := by
  refine Mgo ok_K_put 60 rfl ?_
  refine ⟨_, _, _, L_put _ _ _ _ ?_, by decide, by decide, by decide⟩
  have hE := e_put l k hi lo x
  revert hK hE
  generalize xPut l k hi lo x = o
  intro hK hE
  obtain ⟨o, y⟩ := o
  cases o with
  | inl v =>
    have hK : K (.inl (some (.int 0))) (hm s y (oc v.toInt64 w :: t)) := hK
    exact hK
  | inr E =>
    obtain rfl : E = 0 := hE E rfl
    intro j
    have hK : K (.inl (some (.int 1))) (hm s y (oc n w :: (t ++ jk j))) := hK j
    exact hK
theorem e_copy (l k f : Int32) (x : XS) : OE p0 (xCopy l k f x) := by
  unfold xCopy
  repeat' first | with_reducible exact OE_inl | with_reducible exact OE_refuse | with_reducible refine OE_ite ?_ ?_ | with_reducible exact OE_keep p0_0 | with_reducible exact OE_keepR p0_0 | with_reducible exact OE_keepE p0_0 | with_reducible exact OE_keepF p0_0 | with_reducible exact OE_keepM p0_0 | with_reducible refine OE_nd p0_0 ?_
theorem K_copy (l k f : Int32) (hK : ansK K s n w t cd2 (xCopy l k f x)) : M P n_K_copy [.ref 0, .int l, .int k, .int f, .ref 13] (hm s x (oc n w :: t)) 12 70 20 K := by
  refine Mgo ok_K_copy 60 rfl ?_
  refine ⟨_, _, _, L_copy _ _ _ ?_, by decide, by decide, by decide⟩
  have hE := e_copy l k f x
  revert hK hE
  generalize xCopy l k f x = o
  intro hK hE
  obtain ⟨o, y⟩ := o
  cases o with
  | inl v =>
    have hK : K (.inl (some (.int 0))) (hm s y (oc v.toInt64 w :: t)) := hK
    exact hK
  | inr E =>
    obtain rfl : E = 0 := hE E rfl
    intro j
    have hK : K (.inl (some (.int 1))) (hm s y (oc n w :: (t ++ jk j))) := hK j
    exact hK
theorem e_widen (k f : Int32) (x : XS) : OE p0 (xWiden k f x) := by
  unfold xWiden
  repeat' first | with_reducible exact OE_inl | with_reducible exact OE_refuse | with_reducible refine OE_ite ?_ ?_ | with_reducible exact OE_keep p0_0 | with_reducible exact OE_keepR p0_0 | with_reducible exact OE_keepE p0_0 | with_reducible exact OE_keepF p0_0 | with_reducible exact OE_keepM p0_0 | with_reducible refine OE_nd p0_0 ?_
theorem K_widen (k f : Int32) (hK : ansK K s n w t cd2 (xWiden k f x)) : M P n_K_widen [.ref 0, .int k, .int f, .ref 13] (hm s x (oc n w :: t)) 12 70 20 K := by
  refine Mgo ok_K_widen 60 rfl ?_
  refine ⟨_, _, _, L_widen _ _ ?_, by decide, by decide, by decide⟩
  have hE := e_widen k f x
  revert hK hE
  generalize xWiden k f x = o
  intro hK hE
  obtain ⟨o, y⟩ := o
  cases o with
  | inl v =>
    have hK : K (.inl (some (.int 0))) (hm s y (oc v.toInt64 w :: t)) := hK
    exact hK
  | inr E =>
    obtain rfl : E = 0 := hE E rfl
    intro j
    have hK : K (.inl (some (.int 1))) (hm s y (oc n w :: (t ++ jk j))) := hK j
    exact hK
theorem e_narrow (k f : Int32) (x : XS) : OE p0 (xNarrow k f x) := by
  unfold xNarrow
  repeat' first | with_reducible exact OE_inl | with_reducible exact OE_refuse | with_reducible refine OE_ite ?_ ?_ | with_reducible exact OE_keep p0_0 | with_reducible exact OE_keepR p0_0 | with_reducible exact OE_keepE p0_0 | with_reducible exact OE_keepF p0_0 | with_reducible exact OE_keepM p0_0 | with_reducible refine OE_nd p0_0 ?_
theorem K_narrow (k f : Int32) (hK : ansK K s n w t cd2 (xNarrow k f x)) : M P n_K_narrow [.ref 0, .int k, .int f, .ref 13] (hm s x (oc n w :: t)) 12 70 20 K := by
  refine Mgo ok_K_narrow 60 rfl ?_
  refine ⟨_, _, _, L_narrow _ _ ?_, by decide, by decide, by decide⟩
  have hE := e_narrow k f x
  revert hK hE
  generalize xNarrow k f x = o
  intro hK hE
  obtain ⟨o, y⟩ := o
  cases o with
  | inl v =>
    have hK : K (.inl (some (.int 0))) (hm s y (oc v.toInt64 w :: t)) := hK
    exact hK
  | inr E =>
    obtain rfl : E = 0 := hE E rfl
    intro j
    have hK : K (.inl (some (.int 1))) (hm s y (oc n w :: (t ++ jk j))) := hK j
    exact hK
theorem e_exact (l k f q : Int32) (x : XS) : OE p2 (xExact l k f q x) := by
  unfold xExact
  repeat' first | with_reducible exact OE_inl | with_reducible exact OE_refuse | with_reducible refine OE_ite ?_ ?_ | with_reducible exact OE_keep p2_0 | with_reducible exact OE_keepR p2_0 | with_reducible exact OE_keepE p2_0 | with_reducible exact OE_keepF p2_0 | with_reducible exact OE_keepM p2_0 | with_reducible refine OE_nd p2_0 ?_ | with_reducible refine OE_nd p2_1 ?_
theorem K_exact (l k f q : Int32) (hK : ansK K s n w t cd2 (xExact l k f q x)) : M P n_K_exact [.ref 0, .int l, .int k, .int f, .int q, .ref 13] (hm s x (oc n w :: t)) 12 70 20 K := by
  refine Mgo ok_K_exact 60 rfl ?_
  refine ⟨_, _, _, L_exact _ _ _ _ ?_, by decide, by decide, by decide⟩
  have hE := e_exact l k f q x
  revert hK hE
  generalize xExact l k f q x = o
  intro hK hE
  obtain ⟨o, y⟩ := o
  cases o with
  | inl v =>
    have hK : K (.inl (some (.int 0))) (hm s y (oc v.toInt64 w :: t)) := hK
    exact hK
  | inr E =>
    rcases hE E rfl with rfl | rfl
    · intro j
      have hK : K (.inl (some (.int 1))) (hm s y (oc n w :: (t ++ jk j))) := hK j
      exact hK
    · intro j
      have hK : K (.inl (some (.int 2))) (hm s y (oc n w :: (t ++ jk j))) := hK j
      exact hK
theorem e_fits (l k f q : Int32) (x : XS) : OE p2 (xFits l k f q x) := by
  unfold xFits
  repeat' first | with_reducible exact OE_inl | with_reducible exact OE_refuse | with_reducible refine OE_ite ?_ ?_ | with_reducible exact OE_keep p2_0 | with_reducible exact OE_keepR p2_0 | with_reducible exact OE_keepE p2_0 | with_reducible exact OE_keepF p2_0 | with_reducible exact OE_keepM p2_0 | with_reducible refine OE_nd p2_0 ?_ | with_reducible refine OE_nd p2_1 ?_
theorem K_fits (l k f q : Int32) (hK : ansB K s n w t cd2 (xFits l k f q x)) : M P n_K_fits [.ref 0, .int l, .int k, .int f, .int q, .ref 13] (hm s x (oc n w :: t)) 12 70 20 K := by
  refine Mgo ok_K_fits 60 rfl ?_
  refine ⟨_, _, _, L_fits _ _ _ _ ?_, by decide, by decide, by decide⟩
  have hE := e_fits l k f q x
  revert hK hE
  generalize xFits l k f q x = o
  intro hK hE
  obtain ⟨o, y⟩ := o
  cases o with
  | inl v =>
    have hK : K (.inl (some (.int 0))) (hm s y (oc (bz v) w :: t)) := hK
    unfold bz at hK
    refine ⟨fun e => ?_, fun e => ?_⟩
    · rw [if_pos e] at hK
      exact hK
    · rw [if_neg e] at hK
      exact hK
  | inr E =>
    rcases hE E rfl with rfl | rfl
    · intro j
      have hK : K (.inl (some (.int 1))) (hm s y (oc n w :: (t ++ jk j))) := hK j
      exact hK
    · intro j
      have hK : K (.inl (some (.int 2))) (hm s y (oc n w :: (t ++ jk j))) := hK j
      exact hK
theorem e_alone (l k q : Int32) (x : XS) : OE p2 (xAlone l k q x) := by
  unfold xAlone
  repeat' first | with_reducible exact OE_inl | with_reducible exact OE_refuse | with_reducible refine OE_ite ?_ ?_ | with_reducible exact OE_keep p2_0 | with_reducible exact OE_keepR p2_0 | with_reducible exact OE_keepE p2_0 | with_reducible exact OE_keepF p2_0 | with_reducible exact OE_keepM p2_0 | with_reducible refine OE_nd p2_0 ?_ | with_reducible refine OE_nd p2_1 ?_
theorem K_alone (l k q : Int32) (hK : ansK K s n w t cd2 (xAlone l k q x)) : M P n_K_alone [.ref 0, .int l, .int k, .int q, .ref 13] (hm s x (oc n w :: t)) 12 70 20 K := by
  refine Mgo ok_K_alone 60 rfl ?_
  refine ⟨_, _, _, L_alone _ _ _ ?_, by decide, by decide, by decide⟩
  have hE := e_alone l k q x
  revert hK hE
  generalize xAlone l k q x = o
  intro hK hE
  obtain ⟨o, y⟩ := o
  cases o with
  | inl v =>
    have hK : K (.inl (some (.int 0))) (hm s y (oc v.toInt64 w :: t)) := hK
    exact hK
  | inr E =>
    rcases hE E rfl with rfl | rfl
    · intro j
      have hK : K (.inl (some (.int 1))) (hm s y (oc n w :: (t ++ jk j))) := hK j
      exact hK
    · intro j
      have hK : K (.inl (some (.int 2))) (hm s y (oc n w :: (t ++ jk j))) := hK j
      exact hK
theorem e_timesInt (k f : Int32) (x : XS) : OE p0 (xTimesInt k f x) := by
  unfold xTimesInt
  repeat' first | with_reducible exact OE_inl | with_reducible exact OE_refuse | with_reducible refine OE_ite ?_ ?_ | with_reducible exact OE_keep p0_0 | with_reducible exact OE_keepR p0_0 | with_reducible exact OE_keepE p0_0 | with_reducible exact OE_keepF p0_0 | with_reducible exact OE_keepM p0_0 | with_reducible refine OE_nd p0_0 ?_
theorem K_timesInt (k f : Int32) (hK : ansK K s n w t cd2 (xTimesInt k f x)) : M P n_K_timesInt [.ref 0, .int k, .int f, .ref 13] (hm s x (oc n w :: t)) 12 70 20 K := by
  refine Mgo ok_K_timesInt 60 rfl ?_
  refine ⟨_, _, _, L_timesInt _ _ ?_, by decide, by decide, by decide⟩
  have hE := e_timesInt k f x
  revert hK hE
  generalize xTimesInt k f x = o
  intro hK hE
  obtain ⟨o, y⟩ := o
  cases o with
  | inl v =>
    have hK : K (.inl (some (.int 0))) (hm s y (oc v.toInt64 w :: t)) := hK
    exact hK
  | inr E =>
    obtain rfl : E = 0 := hE E rfl
    intro j
    have hK : K (.inl (some (.int 1))) (hm s y (oc n w :: (t ++ jk j))) := hK j
    exact hK
theorem e_full (k a b : Int32) (x : XS) : OE p0 (xFull k a b x) := by
  unfold xFull
  repeat' first | with_reducible exact OE_inl | with_reducible exact OE_refuse | with_reducible refine OE_ite ?_ ?_ | with_reducible exact OE_keep p0_0 | with_reducible exact OE_keepR p0_0 | with_reducible exact OE_keepE p0_0 | with_reducible exact OE_keepF p0_0 | with_reducible exact OE_keepM p0_0 | with_reducible refine OE_nd p0_0 ?_
theorem K_full (k a b : Int32) (hK : ansK K s n w t cd2 (xFull k a b x)) : M P n_K_full [.ref 0, .int k, .int a, .int b, .ref 13] (hm s x (oc n w :: t)) 12 70 20 K := by
  refine Mgo ok_K_full 60 rfl ?_
  refine ⟨_, _, _, L_full _ _ _ ?_, by decide, by decide, by decide⟩
  have hE := e_full k a b x
  revert hK hE
  generalize xFull k a b x = o
  intro hK hE
  obtain ⟨o, y⟩ := o
  cases o with
  | inl v =>
    have hK : K (.inl (some (.int 0))) (hm s y (oc v.toInt64 w :: t)) := hK
    exact hK
  | inr E =>
    obtain rfl : E = 0 := hE E rfl
    intro j
    have hK : K (.inl (some (.int 1))) (hm s y (oc n w :: (t ++ jk j))) := hK j
    exact hK
theorem e_high (k a b : Int32) (x : XS) : OE p0 (xHigh k a b x) := by
  unfold xHigh
  repeat' first | with_reducible exact OE_inl | with_reducible exact OE_refuse | with_reducible refine OE_ite ?_ ?_ | with_reducible exact OE_keep p0_0 | with_reducible exact OE_keepR p0_0 | with_reducible exact OE_keepE p0_0 | with_reducible exact OE_keepF p0_0 | with_reducible exact OE_keepM p0_0 | with_reducible refine OE_nd p0_0 ?_
theorem K_high (k a b : Int32) (hK : ansK K s n w t cd2 (xHigh k a b x)) : M P n_K_high [.ref 0, .int k, .int a, .int b, .ref 13] (hm s x (oc n w :: t)) 12 70 20 K := by
  refine Mgo ok_K_high 60 rfl ?_
  refine ⟨_, _, _, L_high _ _ _ ?_, by decide, by decide, by decide⟩
  have hE := e_high k a b x
  revert hK hE
  generalize xHigh k a b x = o
  intro hK hE
  obtain ⟨o, y⟩ := o
  cases o with
  | inl v =>
    have hK : K (.inl (some (.int 0))) (hm s y (oc v.toInt64 w :: t)) := hK
    exact hK
  | inr E =>
    obtain rfl : E = 0 := hE E rfl
    intro j
    have hK : K (.inl (some (.int 1))) (hm s y (oc n w :: (t ++ jk j))) := hK j
    exact hK
theorem e_round (l k f q : Int32) (x : XS) : OE p2 (xRound l k f q x) := by
  unfold xRound
  repeat' first | with_reducible exact OE_inl | with_reducible exact OE_refuse | with_reducible refine OE_ite ?_ ?_ | with_reducible exact OE_keep p2_0 | with_reducible exact OE_keepR p2_0 | with_reducible exact OE_keepE p2_0 | with_reducible exact OE_keepF p2_0 | with_reducible exact OE_keepM p2_0 | with_reducible refine OE_nd p2_0 ?_ | with_reducible refine OE_nd p2_1 ?_
theorem K_round (l k f q : Int32) (hK : ansK K s n w t cd2 (xRound l k f q x)) : M P n_K_round [.ref 0, .int l, .int k, .int f, .int q, .ref 13] (hm s x (oc n w :: t)) 12 70 20 K := by
  refine Mgo ok_K_round 60 rfl ?_
  refine ⟨_, _, _, L_round _ _ _ _ ?_, by decide, by decide, by decide⟩
  have hE := e_round l k f q x
  revert hK hE
  generalize xRound l k f q x = o
  intro hK hE
  obtain ⟨o, y⟩ := o
  cases o with
  | inl v =>
    have hK : K (.inl (some (.int 0))) (hm s y (oc v.toInt64 w :: t)) := hK
    exact hK
  | inr E =>
    rcases hE E rfl with rfl | rfl
    · intro j
      have hK : K (.inl (some (.int 1))) (hm s y (oc n w :: (t ++ jk j))) := hK j
      exact hK
    · intro j
      have hK : K (.inl (some (.int 2))) (hm s y (oc n w :: (t ++ jk j))) := hK j
      exact hK
theorem e_abs (l k : Int32) (x : XS) : OE p0 (xAbs l k x) := by
  unfold xAbs
  repeat' first | with_reducible exact OE_inl | with_reducible exact OE_refuse | with_reducible refine OE_ite ?_ ?_ | with_reducible exact OE_keep p0_0 | with_reducible exact OE_keepR p0_0 | with_reducible exact OE_keepE p0_0 | with_reducible exact OE_keepF p0_0 | with_reducible exact OE_keepM p0_0 | with_reducible refine OE_nd p0_0 ?_
theorem K_abs (l k : Int32) (hK : ansK K s n w t cd2 (xAbs l k x)) : M P n_K_abs [.ref 0, .int l, .int k, .ref 13] (hm s x (oc n w :: t)) 12 70 20 K := by
  refine Mgo ok_K_abs 60 rfl ?_
  refine ⟨_, _, _, L_abs _ _ ?_, by decide, by decide, by decide⟩
  have hE := e_abs l k x
  revert hK hE
  generalize xAbs l k x = o
  intro hK hE
  obtain ⟨o, y⟩ := o
  cases o with
  | inl v =>
    have hK : K (.inl (some (.int 0))) (hm s y (oc v.toInt64 w :: t)) := hK
    exact hK
  | inr E =>
    obtain rfl : E = 0 := hE E rfl
    intro j
    have hK : K (.inl (some (.int 1))) (hm s y (oc n w :: (t ++ jk j))) := hK j
    exact hK
theorem e_extreme (l k f g : Int32) (x : XS) : OE p0 (xExtreme l k f g x) := by
  unfold xExtreme
  repeat' first | with_reducible exact OE_inl | with_reducible exact OE_refuse | with_reducible refine OE_ite ?_ ?_ | with_reducible exact OE_keep p0_0 | with_reducible exact OE_keepR p0_0 | with_reducible exact OE_keepE p0_0 | with_reducible exact OE_keepF p0_0 | with_reducible exact OE_keepM p0_0 | with_reducible refine OE_nd p0_0 ?_
theorem K_extreme (l k f g : Int32) (hK : ansK K s n w t cd2 (xExtreme l k f g x)) : M P n_K_extreme [.ref 0, .int l, .int k, .int f, .int g, .ref 13] (hm s x (oc n w :: t)) 12 70 20 K := by
  refine Mgo ok_K_extreme 60 rfl ?_
  refine ⟨_, _, _, L_extreme _ _ _ _ ?_, by decide, by decide, by decide⟩
  have hE := e_extreme l k f g x
  revert hK hE
  generalize xExtreme l k f g x = o
  intro hK hE
  obtain ⟨o, y⟩ := o
  cases o with
  | inl v =>
    have hK : K (.inl (some (.int 0))) (hm s y (oc v.toInt64 w :: t)) := hK
    exact hK
  | inr E =>
    obtain rfl : E = 0 := hE E rfl
    intro j
    have hK : K (.inl (some (.int 1))) (hm s y (oc n w :: (t ++ jk j))) := hK j
    exact hK
theorem e_floor (l k f r : Int32) (x : XS) : OE p0 (xFloor l k f r x) := by
  unfold xFloor
  repeat' first | with_reducible exact OE_inl | with_reducible exact OE_refuse | with_reducible refine OE_ite ?_ ?_ | with_reducible exact OE_keep p0_0 | with_reducible exact OE_keepR p0_0 | with_reducible exact OE_keepE p0_0 | with_reducible exact OE_keepF p0_0 | with_reducible exact OE_keepM p0_0 | with_reducible refine OE_nd p0_0 ?_
theorem K_floor (l k f r : Int32) (hK : ansK K s n w t cd2 (xFloor l k f r x)) : M P n_K_floor [.ref 0, .int l, .int k, .int f, .int r, .ref 13] (hm s x (oc n w :: t)) 12 70 20 K := by
  refine Mgo ok_K_floor 60 rfl ?_
  refine ⟨_, _, _, L_floor _ _ _ _ ?_, by decide, by decide, by decide⟩
  have hE := e_floor l k f r x
  revert hK hE
  generalize xFloor l k f r x = o
  intro hK hE
  obtain ⟨o, y⟩ := o
  cases o with
  | inl v =>
    have hK : K (.inl (some (.int 0))) (hm s y (oc v.toInt64 w :: t)) := hK
    exact hK
  | inr E =>
    obtain rfl : E = 0 := hE E rfl
    intro j
    have hK : K (.inl (some (.int 1))) (hm s y (oc n w :: (t ++ jk j))) := hK j
    exact hK
theorem e_floorInt (k f r : Int32) (x : XS) : OE p0 (xFloorInt k f r x) := by
  unfold xFloorInt
  repeat' first | with_reducible exact OE_inl | with_reducible exact OE_refuse | with_reducible refine OE_ite ?_ ?_ | with_reducible exact OE_keep p0_0 | with_reducible exact OE_keepR p0_0 | with_reducible exact OE_keepE p0_0 | with_reducible exact OE_keepF p0_0 | with_reducible exact OE_keepM p0_0 | with_reducible refine OE_nd p0_0 ?_
theorem K_floorInt (k f r : Int32) (hK : ansK K s n w t cd2 (xFloorInt k f r x)) : M P n_K_floorInt [.ref 0, .int k, .int f, .int r, .ref 13] (hm s x (oc n w :: t)) 12 70 20 K := by
  refine Mgo ok_K_floorInt 60 rfl ?_
  refine ⟨_, _, _, L_floorInt _ _ _ ?_, by decide, by decide, by decide⟩
  have hE := e_floorInt k f r x
  revert hK hE
  generalize xFloorInt k f r x = o
  intro hK hE
  obtain ⟨o, y⟩ := o
  cases o with
  | inl v =>
    have hK : K (.inl (some (.int 0))) (hm s y (oc v.toInt64 w :: t)) := hK
    exact hK
  | inr E =>
    obtain rfl : E = 0 := hE E rfl
    intro j
    have hK : K (.inl (some (.int 1))) (hm s y (oc n w :: (t ++ jk j))) := hK j
    exact hK
theorem e_towards (l k f r : Int32) (x : XS) : OE p0 (xTowards l k f r x) := by
  unfold xTowards
  repeat' first | with_reducible exact OE_inl | with_reducible exact OE_refuse | with_reducible refine OE_ite ?_ ?_ | with_reducible exact OE_keep p0_0 | with_reducible exact OE_keepR p0_0 | with_reducible exact OE_keepE p0_0 | with_reducible exact OE_keepF p0_0 | with_reducible exact OE_keepM p0_0 | with_reducible refine OE_nd p0_0 ?_
theorem K_towards (l k f r : Int32) (hK : ansK K s n w t cd2 (xTowards l k f r x)) : M P n_K_towards [.ref 0, .int l, .int k, .int f, .int r, .ref 13] (hm s x (oc n w :: t)) 12 70 20 K := by
  refine Mgo ok_K_towards 60 rfl ?_
  refine ⟨_, _, _, L_towards _ _ _ _ ?_, by decide, by decide, by decide⟩
  have hE := e_towards l k f r x
  revert hK hE
  generalize xTowards l k f r x = o
  intro hK hE
  obtain ⟨o, y⟩ := o
  cases o with
  | inl v =>
    have hK : K (.inl (some (.int 0))) (hm s y (oc v.toInt64 w :: t)) := hK
    exact hK
  | inr E =>
    obtain rfl : E = 0 := hE E rfl
    intro j
    have hK : K (.inl (some (.int 1))) (hm s y (oc n w :: (t ++ jk j))) := hK j
    exact hK
theorem e_average (l k f u : Int32) (x : XS) : OE p0 (xAverage l k f u x) := by
  unfold xAverage
  repeat' first | with_reducible exact OE_inl | with_reducible exact OE_refuse | with_reducible refine OE_ite ?_ ?_ | with_reducible exact OE_keep p0_0 | with_reducible exact OE_keepR p0_0 | with_reducible exact OE_keepE p0_0 | with_reducible exact OE_keepF p0_0 | with_reducible exact OE_keepM p0_0 | with_reducible refine OE_nd p0_0 ?_
theorem K_average (l k f u : Int32) (hK : ansK K s n w t cd2 (xAverage l k f u x)) : M P n_K_average [.ref 0, .int l, .int k, .int f, .int u, .ref 13] (hm s x (oc n w :: t)) 12 70 20 K := by
  refine Mgo ok_K_average 60 rfl ?_
  refine ⟨_, _, _, L_average _ _ _ _ ?_, by decide, by decide, by decide⟩
  have hE := e_average l k f u x
  revert hK hE
  generalize xAverage l k f u x = o
  intro hK hE
  obtain ⟨o, y⟩ := o
  cases o with
  | inl v =>
    have hK : K (.inl (some (.int 0))) (hm s y (oc v.toInt64 w :: t)) := hK
    exact hK
  | inr E =>
    obtain rfl : E = 0 := hE E rfl
    intro j
    have hK : K (.inl (some (.int 1))) (hm s y (oc n w :: (t ++ jk j))) := hK j
    exact hK
theorem e_chain (k a b c : Int32) (x : XS) : OE p2 (xChain k a b c x) := by
  unfold xChain
  repeat' first | with_reducible exact OE_inl | with_reducible exact OE_refuse | with_reducible refine OE_ite ?_ ?_ | with_reducible exact OE_keep p2_0 | with_reducible exact OE_keepR p2_0 | with_reducible exact OE_keepE p2_0 | with_reducible exact OE_keepF p2_0 | with_reducible exact OE_keepM p2_0 | with_reducible refine OE_nd p2_0 ?_ | with_reducible refine OE_nd p2_1 ?_
theorem K_chain (k a b c : Int32) (hK : ansK K s n w t cd2 (xChain k a b c x)) : M P n_K_chain [.ref 0, .int k, .int a, .int b, .int c, .ref 13] (hm s x (oc n w :: t)) 12 70 20 K := by
  refine Mgo ok_K_chain 60 rfl ?_
  refine ⟨_, _, _, L_chain _ _ _ _ ?_, by decide, by decide, by decide⟩
  have hE := e_chain k a b c x
  revert hK hE
  generalize xChain k a b c x = o
  intro hK hE
  obtain ⟨o, y⟩ := o
  cases o with
  | inl v =>
    have hK : K (.inl (some (.int 0))) (hm s y (oc v.toInt64 w :: t)) := hK
    exact hK
  | inr E =>
    rcases hE E rfl with rfl | rfl
    · intro j
      have hK : K (.inl (some (.int 1))) (hm s y (oc n w :: (t ++ jk j))) := hK j
      exact hK
    · intro j
      have hK : K (.inl (some (.int 2))) (hm s y (oc n w :: (t ++ jk j))) := hK j
      exact hK
theorem e_atOnce (k a b c : Int32) (x : XS) : OE p2 (xAtOnce k a b c x) := by
  unfold xAtOnce
  repeat' first | with_reducible exact OE_inl | with_reducible exact OE_refuse | with_reducible refine OE_ite ?_ ?_ | with_reducible exact OE_keep p2_0 | with_reducible exact OE_keepR p2_0 | with_reducible exact OE_keepE p2_0 | with_reducible exact OE_keepF p2_0 | with_reducible exact OE_keepM p2_0 | with_reducible refine OE_nd p2_0 ?_ | with_reducible refine OE_nd p2_1 ?_
theorem K_atOnce (k a b c : Int32) (hK : ansK K s n w t cd2 (xAtOnce k a b c x)) : M P n_K_atOnce [.ref 0, .int k, .int a, .int b, .int c, .ref 13] (hm s x (oc n w :: t)) 12 70 20 K := by
  refine Mgo ok_K_atOnce 60 rfl ?_
  refine ⟨_, _, _, L_atOnce _ _ _ _ ?_, by decide, by decide, by decide⟩
  have hE := e_atOnce k a b c x
  revert hK hE
  generalize xAtOnce k a b c x = o
  intro hK hE
  obtain ⟨o, y⟩ := o
  cases o with
  | inl v =>
    have hK : K (.inl (some (.int 0))) (hm s y (oc v.toInt64 w :: t)) := hK
    exact hK
  | inr E =>
    rcases hE E rfl with rfl | rfl
    · intro j
      have hK : K (.inl (some (.int 1))) (hm s y (oc n w :: (t ++ jk j))) := hK j
      exact hK
    · intro j
      have hK : K (.inl (some (.int 2))) (hm s y (oc n w :: (t ++ jk j))) := hK j
      exact hK
theorem e_distance (l a b : Int32) (x : XS) : OE p0 (xDistance l a b x) := by
  unfold xDistance
  repeat' first | with_reducible exact OE_inl | with_reducible exact OE_refuse | with_reducible refine OE_ite ?_ ?_ | with_reducible exact OE_keep p0_0 | with_reducible exact OE_keepR p0_0 | with_reducible exact OE_keepE p0_0 | with_reducible exact OE_keepF p0_0 | with_reducible exact OE_keepM p0_0 | with_reducible refine OE_nd p0_0 ?_
theorem K_distance (l a b : Int32) (hK : ansS K s n w t cd2 (xDistance l a b x)) : M P n_K_distance [.ref 0, .int l, .int a, .int b, .ref 13] (hm s x (oc n w :: t)) 50 9000 20 K := by
  refine Mgo ok_K_distance 60 rfl ?_
  refine ⟨_, _, _, L_distance _ _ _ ?_, by decide, by decide, by decide⟩
  have hE := e_distance l a b x
  revert hK hE
  generalize xDistance l a b x = o
  intro hK hE
  obtain ⟨o, y⟩ := o
  cases o with
  | inl v =>
    intro l r
    have hK : K (.inl (some (.int 0))) (hm s y (oc n (.ref r) :: (t ++ l))) := hK l r
    exact hK
  | inr E =>
    obtain rfl : E = 0 := hE E rfl
    intro j
    have hK : K (.inl (some (.int 1))) (hm s y (oc n w :: (t ++ j))) := hK j
    exact hK
theorem e_compare (l k f : Int32) (x : XS) : OE p0 (xCompare l k f x) := by
  unfold xCompare
  repeat' first | with_reducible exact OE_inl | with_reducible exact OE_refuse | with_reducible refine OE_ite ?_ ?_ | with_reducible exact OE_keep p0_0 | with_reducible exact OE_keepR p0_0 | with_reducible exact OE_keepE p0_0 | with_reducible exact OE_keepF p0_0 | with_reducible exact OE_keepM p0_0 | with_reducible refine OE_nd p0_0 ?_
theorem K_compare (l k f : Int32) (hK : ansK K s n w t cd2 (xCompare l k f x)) : M P n_K_compare [.ref 0, .int l, .int k, .int f, .ref 13] (hm s x (oc n w :: t)) 12 70 20 K := by
  refine Mgo ok_K_compare 60 rfl ?_
  refine ⟨_, _, _, L_compare _ _ _ ?_, by decide, by decide, by decide⟩
  have hE := e_compare l k f x
  revert hK hE
  generalize xCompare l k f x = o
  intro hK hE
  obtain ⟨o, y⟩ := o
  cases o with
  | inl v =>
    have hK : K (.inl (some (.int 0))) (hm s y (oc v.toInt64 w :: t)) := hK
    exact hK
  | inr E =>
    obtain rfl : E = 0 := hE E rfl
    intro j
    have hK : K (.inl (some (.int 1))) (hm s y (oc n w :: (t ++ jk j))) := hK j
    exact hK
theorem e_text (l k : Int32) (x : XS) : OE p0 (xText l k x) := by
  unfold xText
  repeat' first | with_reducible exact OE_inl | with_reducible exact OE_refuse | with_reducible refine OE_ite ?_ ?_ | with_reducible exact OE_keep p0_0 | with_reducible exact OE_keepR p0_0 | with_reducible exact OE_keepE p0_0 | with_reducible exact OE_keepF p0_0 | with_reducible exact OE_keepM p0_0 | with_reducible refine OE_nd p0_0 ?_
theorem K_text (l k : Int32) (hK : ansS K s n w t cd2 (xText l k x)) : M P n_K_text [.ref 0, .int l, .int k, .ref 13] (hm s x (oc n w :: t)) 50 9000 20 K := by
  refine Mgo ok_K_text 60 rfl ?_
  refine ⟨_, _, _, L_text _ _ ?_, by decide, by decide, by decide⟩
  have hE := e_text l k x
  revert hK hE
  generalize xText l k x = o
  intro hK hE
  obtain ⟨o, y⟩ := o
  cases o with
  | inl v =>
    intro l r
    have hK : K (.inl (some (.int 0))) (hm s y (oc n (.ref r) :: (t ++ l))) := hK l r
    exact hK
  | inr E =>
    obtain rfl : E = 0 := hE E rfl
    intro j
    have hK : K (.inl (some (.int 1))) (hm s y (oc n w :: (t ++ j))) := hK j
    exact hK
theorem e_ofNumber (l k q : Int32) (x : XS) : OE p2 (xOfNumber l k q x) := by
  unfold xOfNumber
  repeat' first | with_reducible exact OE_inl | with_reducible exact OE_refuse | with_reducible refine OE_ite ?_ ?_ | with_reducible exact OE_keep p2_0 | with_reducible exact OE_keepR p2_0 | with_reducible exact OE_keepE p2_0 | with_reducible exact OE_keepF p2_0 | with_reducible exact OE_keepM p2_0 | with_reducible refine OE_nd p2_0 ?_ | with_reducible refine OE_nd p2_1 ?_
theorem K_ofNumber (l k q : Int32) (hK : ansK K s n w t cd2 (xOfNumber l k q x)) : M P n_K_ofNumber [.ref 0, .int l, .int k, .int q, .ref 13] (hm s x (oc n w :: t)) 12 70 20 K := by
  refine Mgo ok_K_ofNumber 60 rfl ?_
  refine ⟨_, _, _, L_ofNumber _ _ _ ?_, by decide, by decide, by decide⟩
  have hE := e_ofNumber l k q x
  revert hK hE
  generalize xOfNumber l k q x = o
  intro hK hE
  obtain ⟨o, y⟩ := o
  cases o with
  | inl v =>
    have hK : K (.inl (some (.int 0))) (hm s y (oc v.toInt64 w :: t)) := hK
    exact hK
  | inr E =>
    rcases hE E rfl with rfl | rfl
    · intro j
      have hK : K (.inl (some (.int 1))) (hm s y (oc n w :: (t ++ jk j))) := hK j
      exact hK
    · intro j
      have hK : K (.inl (some (.int 2))) (hm s y (oc n w :: (t ++ jk j))) := hK j
      exact hK
theorem e_rest (l k m : Int32) (x : XS) : OE p2 (xRest l k m x) := by
  unfold xRest
  repeat' first | with_reducible exact OE_inl | with_reducible exact OE_refuse | with_reducible refine OE_ite ?_ ?_ | with_reducible exact OE_keep p2_0 | with_reducible exact OE_keepR p2_0 | with_reducible exact OE_keepE p2_0 | with_reducible exact OE_keepF p2_0 | with_reducible exact OE_keepM p2_0 | with_reducible refine OE_nd p2_0 ?_ | with_reducible refine OE_nd p2_1 ?_
theorem K_rest (l k m : Int32) (hK : ansK K s n w t cd2 (xRest l k m x)) : M P n_K_rest [.ref 0, .int l, .int k, .int m, .ref 13] (hm s x (oc n w :: t)) 12 70 20 K := by
  refine Mgo ok_K_rest 60 rfl ?_
  refine ⟨_, _, _, L_rest _ _ _ ?_, by decide, by decide, by decide⟩
  have hE := e_rest l k m x
  revert hK hE
  generalize xRest l k m x = o
  intro hK hE
  obtain ⟨o, y⟩ := o
  cases o with
  | inl v =>
    have hK : K (.inl (some (.int 0))) (hm s y (oc v.toInt64 w :: t)) := hK
    exact hK
  | inr E =>
    rcases hE E rfl with rfl | rfl
    · intro j
      have hK : K (.inl (some (.int 1))) (hm s y (oc n w :: (t ++ jk j))) := hK j
      exact hK
    · intro j
      have hK : K (.inl (some (.int 2))) (hm s y (oc n w :: (t ++ jk j))) := hK j
      exact hK
theorem e_quotient (l k m : Int32) (x : XS) : OE p2 (xQuotient l k m x) := by
  unfold xQuotient
  repeat' first | with_reducible exact OE_inl | with_reducible exact OE_refuse | with_reducible refine OE_ite ?_ ?_ | with_reducible exact OE_keep p2_0 | with_reducible exact OE_keepR p2_0 | with_reducible exact OE_keepE p2_0 | with_reducible exact OE_keepF p2_0 | with_reducible exact OE_keepM p2_0 | with_reducible refine OE_nd p2_0 ?_ | with_reducible refine OE_nd p2_1 ?_
theorem K_quotient (l k m : Int32) (hK : ansS K s n w t cd2 (xQuotient l k m x)) : M P n_K_quotient [.ref 0, .int l, .int k, .int m, .ref 13] (hm s x (oc n w :: t)) 50 9000 20 K := by
  refine Mgo ok_K_quotient 60 rfl ?_
  refine ⟨_, _, _, L_quotient _ _ _ ?_, by decide, by decide, by decide⟩
  have hE := e_quotient l k m x
  revert hK hE
  generalize xQuotient l k m x = o
  intro hK hE
  obtain ⟨o, y⟩ := o
  cases o with
  | inl v =>
    intro l r
    have hK : K (.inl (some (.int 0))) (hm s y (oc n (.ref r) :: (t ++ l))) := hK l r
    exact hK
  | inr E =>
    rcases hE E rfl with rfl | rfl
    · intro j
      have hK : K (.inl (some (.int 1))) (hm s y (oc n w :: (t ++ j))) := hK j
      exact hK
    · intro j
      have hK : K (.inl (some (.int 2))) (hm s y (oc n w :: (t ++ j))) := hK j
      exact hK
theorem e_modulus (r m : Int32) (x : XS) : OE p2 (xModulus r m x) := by
  unfold xModulus
  repeat' first | with_reducible exact OE_inl | with_reducible exact OE_refuse | with_reducible refine OE_ite ?_ ?_ | with_reducible exact OE_keep p2_0 | with_reducible exact OE_keepR p2_0 | with_reducible exact OE_keepE p2_0 | with_reducible exact OE_keepF p2_0 | with_reducible exact OE_keepM p2_0 | with_reducible refine OE_nd p2_0 ?_ | with_reducible refine OE_nd p2_1 ?_
theorem K_modulus (r m : Int32) (hK : ansK K s n w t cd2 (xModulus r m x)) : M P n_K_modulus [.ref 0, .int r, .int m, .ref 13] (hm s x (oc n w :: t)) 12 70 20 K := by
  refine Mgo ok_K_modulus 60 rfl ?_
  refine ⟨_, _, _, L_modulus _ _ ?_, by decide, by decide, by decide⟩
  have hE := e_modulus r m x
  revert hK hE
  generalize xModulus r m x = o
  intro hK hE
  obtain ⟨o, y⟩ := o
  cases o with
  | inl v =>
    have hK : K (.inl (some (.int 0))) (hm s y (oc v.toInt64 w :: t)) := hK
    exact hK
  | inr E =>
    rcases hE E rfl with rfl | rfl
    · intro j
      have hK : K (.inl (some (.int 1))) (hm s y (oc n w :: (t ++ jk j))) := hK j
      exact hK
    · intro j
      have hK : K (.inl (some (.int 2))) (hm s y (oc n w :: (t ++ jk j))) := hK j
      exact hK
theorem e_bring (r k l f : Int32) (x : XS) : OE p0 (xBring r k l f x) := by
  unfold xBring
  repeat' first | with_reducible exact OE_inl | with_reducible exact OE_refuse | with_reducible refine OE_ite ?_ ?_ | with_reducible exact OE_keep p0_0 | with_reducible exact OE_keepR p0_0 | with_reducible exact OE_keepE p0_0 | with_reducible exact OE_keepF p0_0 | with_reducible exact OE_keepM p0_0 | with_reducible refine OE_nd p0_0 ?_
theorem K_bring (r k l f : Int32) (hK : ansK K s n w t cd2 (xBring r k l f x)) : M P n_K_bring [.ref 0, .int r, .int k, .int l, .int f, .ref 13] (hm s x (oc n w :: t)) 12 70 20 K := by
  refine Mgo ok_K_bring 60 rfl ?_
  refine ⟨_, _, _, L_bring _ _ _ _ ?_, by decide, by decide, by decide⟩
  have hE := e_bring r k l f x
  revert hK hE
  generalize xBring r k l f x = o
  intro hK hE
  obtain ⟨o, y⟩ := o
  cases o with
  | inl v =>
    have hK : K (.inl (some (.int 0))) (hm s y (oc v.toInt64 w :: t)) := hK
    exact hK
  | inr E =>
    obtain rfl : E = 0 := hE E rfl
    intro j
    have hK : K (.inl (some (.int 1))) (hm s y (oc n w :: (t ++ jk j))) := hK j
    exact hK
theorem e_lift (r i l k : Int32) (x : XS) : OE p0 (xLift r i l k x) := by
  unfold xLift
  repeat' first | with_reducible exact OE_inl | with_reducible exact OE_refuse | with_reducible refine OE_ite ?_ ?_ | with_reducible exact OE_keep p0_0 | with_reducible exact OE_keepR p0_0 | with_reducible exact OE_keepE p0_0 | with_reducible exact OE_keepF p0_0 | with_reducible exact OE_keepM p0_0 | with_reducible refine OE_nd p0_0 ?_
theorem K_lift (r i l k : Int32) (hK : ansK K s n w t cd2 (xLift r i l k x)) : M P n_K_lift [.ref 0, .int r, .int i, .int l, .int k, .ref 13] (hm s x (oc n w :: t)) 12 70 20 K := by
  refine Mgo ok_K_lift 60 rfl ?_
  refine ⟨_, _, _, L_lift _ _ _ _ ?_, by decide, by decide, by decide⟩
  have hE := e_lift r i l k x
  revert hK hE
  generalize xLift r i l k x = o
  intro hK hE
  obtain ⟨o, y⟩ := o
  cases o with
  | inl v =>
    have hK : K (.inl (some (.int 0))) (hm s y (oc v.toInt64 w :: t)) := hK
    exact hK
  | inr E =>
    obtain rfl : E = 0 := hE E rfl
    intro j
    have hK : K (.inl (some (.int 1))) (hm s y (oc n w :: (t ++ jk j))) := hK j
    exact hK
theorem e_plus (r k f m : Int32) (x : XS) : OE p0 (xPlus r k f m x) := by
  unfold xPlus
  repeat' first | with_reducible exact OE_inl | with_reducible exact OE_refuse | with_reducible refine OE_ite ?_ ?_ | with_reducible exact OE_keep p0_0 | with_reducible exact OE_keepR p0_0 | with_reducible exact OE_keepE p0_0 | with_reducible exact OE_keepF p0_0 | with_reducible exact OE_keepM p0_0 | with_reducible refine OE_nd p0_0 ?_
theorem K_plus (r k f m : Int32) (hK : ansK K s n w t cd2 (xPlus r k f m x)) : M P n_K_plus [.ref 0, .int r, .int k, .int f, .int m, .ref 13] (hm s x (oc n w :: t)) 12 70 20 K := by
  refine Mgo ok_K_plus 60 rfl ?_
  refine ⟨_, _, _, L_plus _ _ _ _ ?_, by decide, by decide, by decide⟩
  have hE := e_plus r k f m x
  revert hK hE
  generalize xPlus r k f m x = o
  intro hK hE
  obtain ⟨o, y⟩ := o
  cases o with
  | inl v =>
    have hK : K (.inl (some (.int 0))) (hm s y (oc v.toInt64 w :: t)) := hK
    exact hK
  | inr E =>
    obtain rfl : E = 0 := hE E rfl
    intro j
    have hK : K (.inl (some (.int 1))) (hm s y (oc n w :: (t ++ jk j))) := hK j
    exact hK
theorem e_times (r k f : Int32) (x : XS) : OE p0 (xTimes r k f x) := by
  unfold xTimes
  repeat' first | with_reducible exact OE_inl | with_reducible exact OE_refuse | with_reducible refine OE_ite ?_ ?_ | with_reducible exact OE_keep p0_0 | with_reducible exact OE_keepR p0_0 | with_reducible exact OE_keepE p0_0 | with_reducible exact OE_keepF p0_0 | with_reducible exact OE_keepM p0_0 | with_reducible refine OE_nd p0_0 ?_
theorem K_times (r k f : Int32) (hK : ansK K s n w t cd2 (xTimes r k f x)) : M P n_K_times [.ref 0, .int r, .int k, .int f, .ref 13] (hm s x (oc n w :: t)) 12 70 20 K := by
  refine Mgo ok_K_times 60 rfl ?_
  refine ⟨_, _, _, L_times _ _ _ ?_, by decide, by decide, by decide⟩
  have hE := e_times r k f x
  revert hK hE
  generalize xTimes r k f x = o
  intro hK hE
  obtain ⟨o, y⟩ := o
  cases o with
  | inl v =>
    have hK : K (.inl (some (.int 0))) (hm s y (oc v.toInt64 w :: t)) := hK
    exact hK
  | inr E =>
    obtain rfl : E = 0 := hE E rfl
    intro j
    have hK : K (.inl (some (.int 1))) (hm s y (oc n w :: (t ++ jk j))) := hK j
    exact hK
theorem e_power (r k e : Int32) (x : XS) : OE p2 (xPower r k e x) := by
  unfold xPower
  repeat' first | with_reducible exact OE_inl | with_reducible exact OE_refuse | with_reducible refine OE_ite ?_ ?_ | with_reducible exact OE_keep p2_0 | with_reducible exact OE_keepR p2_0 | with_reducible exact OE_keepE p2_0 | with_reducible exact OE_keepF p2_0 | with_reducible exact OE_keepM p2_0 | with_reducible refine OE_nd p2_0 ?_ | with_reducible refine OE_nd p2_1 ?_
theorem K_power (r k e : Int32) (hK : ansK K s n w t cd2 (xPower r k e x)) : M P n_K_power [.ref 0, .int r, .int k, .int e, .ref 13] (hm s x (oc n w :: t)) 12 70 20 K := by
  refine Mgo ok_K_power 60 rfl ?_
  refine ⟨_, _, _, L_power _ _ _ ?_, by decide, by decide, by decide⟩
  have hE := e_power r k e x
  revert hK hE
  generalize xPower r k e x = o
  intro hK hE
  obtain ⟨o, y⟩ := o
  cases o with
  | inl v =>
    have hK : K (.inl (some (.int 0))) (hm s y (oc v.toInt64 w :: t)) := hK
    exact hK
  | inr E =>
    rcases hE E rfl with rfl | rfl
    · intro j
      have hK : K (.inl (some (.int 1))) (hm s y (oc n w :: (t ++ jk j))) := hK j
      exact hK
    · intro j
      have hK : K (.inl (some (.int 2))) (hm s y (oc n w :: (t ++ jk j))) := hK j
      exact hK
theorem e_inverse (r k : Int32) (x : XS) : OE p0 (xInverse r k x) := by
  unfold xInverse
  repeat' first | with_reducible exact OE_inl | with_reducible exact OE_refuse | with_reducible refine OE_ite ?_ ?_ | with_reducible exact OE_keep p0_0 | with_reducible exact OE_keepR p0_0 | with_reducible exact OE_keepE p0_0 | with_reducible exact OE_keepF p0_0 | with_reducible exact OE_keepM p0_0 | with_reducible refine OE_nd p0_0 ?_
theorem K_inverse (r k : Int32) (hK : ansK K s n w t cd2 (xInverse r k x)) : M P n_K_inverse [.ref 0, .int r, .int k, .ref 13] (hm s x (oc n w :: t)) 12 70 20 K := by
  refine Mgo ok_K_inverse 60 rfl ?_
  refine ⟨_, _, _, L_inverse _ _ ?_, by decide, by decide, by decide⟩
  have hE := e_inverse r k x
  revert hK hE
  generalize xInverse r k x = o
  intro hK hE
  obtain ⟨o, y⟩ := o
  cases o with
  | inl v =>
    have hK : K (.inl (some (.int 0))) (hm s y (oc v.toInt64 w :: t)) := hK
    exact hK
  | inr E =>
    obtain rfl : E = 0 := hE E rfl
    intro j
    have hK : K (.inl (some (.int 1))) (hm s y (oc n w :: (t ++ jk j))) := hK j
    exact hK
theorem e_isUnit (r k : Int32) (x : XS) : OE p0 (xUnit r k x) := by
  unfold xUnit
  repeat' first | with_reducible exact OE_inl | with_reducible exact OE_refuse | with_reducible refine OE_ite ?_ ?_ | with_reducible exact OE_keep p0_0 | with_reducible exact OE_keepR p0_0 | with_reducible exact OE_keepE p0_0 | with_reducible exact OE_keepF p0_0 | with_reducible exact OE_keepM p0_0 | with_reducible refine OE_nd p0_0 ?_
theorem K_isUnit (r k : Int32) (hK : ansB K s n w t cd2 (xUnit r k x)) : M P n_K_isUnit [.ref 0, .int r, .int k, .ref 13] (hm s x (oc n w :: t)) 12 70 20 K := by
  refine Mgo ok_K_isUnit 60 rfl ?_
  refine ⟨_, _, _, L_isUnit _ _ ?_, by decide, by decide, by decide⟩
  have hE := e_isUnit r k x
  revert hK hE
  generalize xUnit r k x = o
  intro hK hE
  obtain ⟨o, y⟩ := o
  cases o with
  | inl v =>
    have hK : K (.inl (some (.int 0))) (hm s y (oc (bz v) w :: t)) := hK
    unfold bz at hK
    refine ⟨fun e => ?_, fun e => ?_⟩
    · rw [if_pos e] at hK
      exact hK
    · rw [if_neg e] at hK
      exact hK
  | inr E =>
    obtain rfl : E = 0 := hE E rfl
    intro j
    have hK : K (.inl (some (.int 1))) (hm s y (oc n w :: (t ++ jk j))) := hK j
    exact hK
theorem e_residue (r k : Int32) (x : XS) : OE p0 (xResidue r k x) := by
  unfold xResidue
  repeat' first | with_reducible exact OE_inl | with_reducible exact OE_refuse | with_reducible refine OE_ite ?_ ?_ | with_reducible exact OE_keep p0_0 | with_reducible exact OE_keepR p0_0 | with_reducible exact OE_keepE p0_0 | with_reducible exact OE_keepF p0_0 | with_reducible exact OE_keepM p0_0 | with_reducible refine OE_nd p0_0 ?_
theorem K_residue (r k : Int32) (hK : ansK K s n w t cd2 (xResidue r k x)) : M P n_K_residue [.ref 0, .int r, .int k, .ref 13] (hm s x (oc n w :: t)) 12 70 20 K := by
  refine Mgo ok_K_residue 60 rfl ?_
  refine ⟨_, _, _, L_residue _ _ ?_, by decide, by decide, by decide⟩
  have hE := e_residue r k x
  revert hK hE
  generalize xResidue r k x = o
  intro hK hE
  obtain ⟨o, y⟩ := o
  cases o with
  | inl v =>
    have hK : K (.inl (some (.int 0))) (hm s y (oc v.toInt64 w :: t)) := hK
    exact hK
  | inr E =>
    obtain rfl : E = 0 := hE E rfl
    intro j
    have hK : K (.inl (some (.int 1))) (hm s y (oc n w :: (t ++ jk j))) := hK j
    exact hK
theorem e_ringText (r : Int32) (x : XS) : OE p0 (xRingText r x) := by
  unfold xRingText
  repeat' first | with_reducible exact OE_inl | with_reducible exact OE_refuse | with_reducible refine OE_ite ?_ ?_ | with_reducible exact OE_keep p0_0 | with_reducible exact OE_keepR p0_0 | with_reducible exact OE_keepE p0_0 | with_reducible exact OE_keepF p0_0 | with_reducible exact OE_keepM p0_0 | with_reducible refine OE_nd p0_0 ?_
theorem K_ringText (r : Int32) (hK : ansS K s n w t cd2 (xRingText r x)) : M P n_K_ringText [.ref 0, .int r, .ref 13] (hm s x (oc n w :: t)) 50 9000 20 K := by
  refine Mgo ok_K_ringText 60 rfl ?_
  refine ⟨_, _, _, L_ringText _ ?_, by decide, by decide, by decide⟩
  have hE := e_ringText r x
  revert hK hE
  generalize xRingText r x = o
  intro hK hE
  obtain ⟨o, y⟩ := o
  cases o with
  | inl v =>
    intro l r
    have hK : K (.inl (some (.int 0))) (hm s y (oc n (.ref r) :: (t ++ l))) := hK l r
    exact hK
  | inr E =>
    obtain rfl : E = 0 := hE E rfl
    intro j
    have hK : K (.inl (some (.int 1))) (hm s y (oc n w :: (t ++ j))) := hK j
    exact hK
theorem e_areAlike (r l a b : Int32) (x : XS) : OE p0 (xAlike r l a b x) := by
  unfold xAlike
  repeat' first | with_reducible exact OE_inl | with_reducible exact OE_refuse | with_reducible refine OE_ite ?_ ?_ | with_reducible exact OE_keep p0_0 | with_reducible exact OE_keepR p0_0 | with_reducible exact OE_keepE p0_0 | with_reducible exact OE_keepF p0_0 | with_reducible exact OE_keepM p0_0 | with_reducible refine OE_nd p0_0 ?_
theorem K_areAlike (r l a b : Int32) (hK : ansB K s n w t cd2 (xAlike r l a b x)) : M P n_K_areAlike [.ref 0, .int r, .int l, .int a, .int b, .ref 13] (hm s x (oc n w :: t)) 12 70 20 K := by
  refine Mgo ok_K_areAlike 60 rfl ?_
  refine ⟨_, _, _, L_alike _ _ _ _ ?_, by decide, by decide, by decide⟩
  have hE := e_areAlike r l a b x
  revert hK hE
  generalize xAlike r l a b x = o
  intro hK hE
  obtain ⟨o, y⟩ := o
  cases o with
  | inl v =>
    have hK : K (.inl (some (.int 0))) (hm s y (oc (bz v) w :: t)) := hK
    unfold bz at hK
    refine ⟨fun e => ?_, fun e => ?_⟩
    · rw [if_pos e] at hK
      exact hK
    · rw [if_neg e] at hK
      exact hK
  | inr E =>
    obtain rfl : E = 0 := hE E rfl
    intro j
    have hK : K (.inl (some (.int 1))) (hm s y (oc n w :: (t ++ jk j))) := hK j
    exact hK
theorem e_together (k r a q b : Int32) (x : XS) : OE p0 (xTogether k r a q b x) := by
  unfold xTogether
  repeat' first | with_reducible exact OE_inl | with_reducible exact OE_refuse | with_reducible refine OE_ite ?_ ?_ | with_reducible exact OE_keep p0_0 | with_reducible exact OE_keepR p0_0 | with_reducible exact OE_keepE p0_0 | with_reducible exact OE_keepF p0_0 | with_reducible exact OE_keepM p0_0 | with_reducible refine OE_nd p0_0 ?_
theorem K_together (k r a q b : Int32) (hK : ansK K s n w t cd2 (xTogether k r a q b x)) : M P n_K_together [.ref 0, .int k, .int r, .int a, .int q, .int b, .ref 13] (hm s x (oc n w :: t)) 12 70 20 K := by
  refine Mgo ok_K_together 60 rfl ?_
  refine ⟨_, _, _, L_together _ _ _ _ _ ?_, by decide, by decide, by decide⟩
  have hE := e_together k r a q b x
  revert hK hE
  generalize xTogether k r a q b x = o
  intro hK hE
  obtain ⟨o, y⟩ := o
  cases o with
  | inl v =>
    have hK : K (.inl (some (.int 0))) (hm s y (oc v.toInt64 w :: t)) := hK
    exact hK
  | inr E =>
    obtain rfl : E = 0 := hE E rfl
    intro j
    have hK : K (.inl (some (.int 1))) (hm s y (oc n w :: (t ++ jk j))) := hK j
    exact hK
theorem e_common (r q : Int32) (x : XS) : OE p0 (xCommon r q x) := by
  unfold xCommon
  repeat' first | with_reducible exact OE_inl | with_reducible exact OE_refuse | with_reducible refine OE_ite ?_ ?_ | with_reducible exact OE_keep p0_0 | with_reducible exact OE_keepR p0_0 | with_reducible exact OE_keepE p0_0 | with_reducible exact OE_keepF p0_0 | with_reducible exact OE_keepM p0_0 | with_reducible refine OE_nd p0_0 ?_
theorem K_common (r q i : Int32) (hK : ansS K s n w t cd2 (xCommon r q x)) : M P n_K_common [.ref 0, .int r, .int q, .int i, .ref 13] (hm s x (oc n w :: t)) 50 9000 20 K := by
  refine Mgo ok_K_common 60 rfl ?_
  refine ⟨_, _, _, L_common _ _ _ ?_, by decide, by decide, by decide⟩
  have hE := e_common r q x
  revert hK hE
  generalize xCommon r q x = o
  intro hK hE
  obtain ⟨o, y⟩ := o
  cases o with
  | inl v =>
    intro l r
    have hK : K (.inl (some (.int 0))) (hm s y (oc n (.ref r) :: (t ++ l))) := hK l r
    exact hK
  | inr E =>
    obtain rfl : E = 0 := hE E rfl
    intro j
    have hK : K (.inl (some (.int 1))) (hm s y (oc n w :: (t ++ j))) := hK j
    exact hK
theorem e_house (q : Int32) (x : XS) : OE p1 (xHouse q x) := by
  unfold xHouse
  repeat' first | with_reducible exact OE_inl | with_reducible exact OE_refuse | with_reducible refine OE_ite ?_ ?_ | with_reducible refine OE_nd p1_1 ?_
theorem K_house (q : Int32) (hK : ansK K s n w t cdH (xHouse q x)) : M P n_K_house [.ref 0, .int q, .ref 13] (hm s x (oc n w :: t)) 12 70 20 K := by
  refine Mgo ok_K_house 60 rfl ?_
  refine ⟨_, _, _, L_house _ ?_, by decide, by decide, by decide⟩
  have hE := e_house q x
  revert hK hE
  generalize xHouse q x = o
  intro hK hE
  obtain ⟨o, y⟩ := o
  cases o with
  | inl v =>
    have hK : K (.inl (some (.int 0))) (hm s y (oc v.toInt64 w :: t)) := hK
    exact hK
  | inr E =>
    obtain rfl : E = 1 := hE E rfl
    intro j
    have hK : K (.inl (some (.int 1))) (hm s y (oc n w :: (t ++ jk j))) := hK j
    exact hK
end LAWK
end
