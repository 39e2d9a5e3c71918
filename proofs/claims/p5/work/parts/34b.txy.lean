/-! THE CLASS: its texts, asked of it from outside; what a text holds isn't told -/
def ansT (K : Kt) (t : mH) (o : Out) : Prop := match o.1 with
  | .inl _ => ∀ l r, K (.inl (some (.ref r))) (hx o.2 (t ++ l))
  | .inr E => ∀ l, K (.inr E) (hx o.2 (t ++ l))
theorem ansT_nd {K : Kt} {t : mH} {c : Prop} [Decidable c] {E : Nat} {s : XS} {r : Out} (hK : ansT K t (nd c E s r)) : (c → ansT K t r) ∧ (¬ c → ∀ l, K (.inr E) (hx s (t ++ l))) := by
  unfold nd at hK
  by_cases q : c
  · rw [if_pos q] at hK
    exact ⟨fun _ => hK, fun e => absurd q e⟩
  · rw [if_neg q] at hK
    exact ⟨fun e => absurd e q, fun _ => hK⟩
def xText (l k : Int32) (s : XS) : Out := nd (ok4 k) 0 s (.inl 0, s)
def xDistance (l a b : Int32) (s : XS) : Out := nd (ok4 a) 0 s (nd (ok4 b) 0 s (.inl 0, s))
def xQuotient (l k m : Int32) (s : XS) : Out := nd (ok4 k) 0 s (nd (¬ m = 0) 1 s (.inl 0, s))
def xCommon (r q : Int32) (s : XS) : Out := nd (ok3 r) 0 s (nd (ok3 q) 0 s (.inl 0, s))
def xRingText (r : Int32) (s : XS) : Out := nd (ok3 r) 0 s (.inl 0, s)
section CLT
variable {P : GP} {K : Kt} {s : XS} {t : mH}
theorem L_text (l k : Int32) (hK : ansT K t (xText l k s)) : M P n_X_text [.ref 0, .int l, .int k] (hx s t) 50 9000 16 K := by
  refine Mgo ok_X_text 60 rfl ?_
  have hK := ansT_nd hK
  refine ⟨_, _, _, L_num _ _ (fun h1 => ?_) (fun q j => hK.2 q _), by decide, by decide, by decide⟩
  have hK := hK.1 h1
  refine ⟨_, _, _, L_ofSigned _ (fun l r => ?_), by decide, by decide, by decide⟩
  exact hK l r
theorem L_distance (l a b : Int32) (hK : ansT K t (xDistance l a b s)) : M P n_X_distance [.ref 0, .int l, .int a, .int b] (hx s t) 50 9000 16 K := by
  refine Mgo ok_X_distance 60 rfl ?_
  have hK := ansT_nd hK
  refine ⟨_, _, _, L_num _ _ (fun h1 => ?_) (fun q j => hK.2 q _), by decide, by decide, by decide⟩
  have hK := hK.1 h1
  have hK := ansT_nd hK
  refine ⟨_, _, _, L_num _ _ (fun h2 => ?_) (fun q j => hK.2 q _), by decide, by decide, by decide⟩
  have hK := hK.1 h2
  refine ⟨_, _, _, L_maxJ _ _ _ ?_, by decide, by decide, by decide⟩
  refine ⟨_, _, _, L_minJ _ _ _ ?_, by decide, by decide, by decide⟩
  refine ⟨_, _, _, L_ofUnsigned _ (fun l r => ?_), by decide, by decide, by decide⟩
  exact hK l r
theorem L_quotient (l k m : Int32) (hK : ansT K t (xQuotient l k m s)) : M P n_X_quotient [.ref 0, .int l, .int k, .int m] (hx s t) 50 9000 16 K := by
  refine Mgo ok_X_quotient 60 rfl ?_
  have hK := ansT_nd hK
  refine ⟨_, _, _, L_num _ _ (fun h1 => ?_) (fun q j => hK.2 q _), by decide, by decide, by decide⟩
  have hK := hK.1 h1
  have hK := ansT_nd hK
  refine ⟨_, _, _, L_needNotZero _ (fun h2 => ?_) (fun q j => hK.2 q _), by decide, by decide, by decide⟩
  have hK := hK.1 h2
  refine ⟨_, _, _, L_floorOf _ _ _ ?_, by decide, by decide, by decide⟩
  refine ⟨_, _, _, L_gone _ _ _ ?_, by decide, by decide, by decide⟩
  refine ⟨_, _, _, L_ofSigned _ (fun l r => ?_), by decide, by decide, by decide⟩
  exact hK l r
theorem L_common (r q i : Int32) (hK : ansT K t (xCommon r q s)) : M P n_X_common [.ref 0, .int r, .int q, .int i] (hx s t) 50 9000 16 K := by
  refine Mgo ok_X_common 80 rfl ?_
  have hK := ansT_nd hK
  refine ⟨_, _, _, L_modAt _ (fun h1 => ?_) (fun q j => hK.2 q _), by decide, by decide, by decide⟩
  have hK := hK.1 h1
  refine ⟨_, _, _, L_sizeOf _ _ ?_, by decide, by decide, by decide⟩
  have hK := ansT_nd hK
  refine ⟨_, _, _, L_modAt _ (fun h2 => ?_) (fun q j => hK.2 q _), by decide, by decide, by decide⟩
  have hK := hK.1 h2
  refine ⟨_, _, _, L_sizeOf _ _ ?_, by decide, by decide, by decide⟩
  refine ⟨_, _, _, L_gcd _ _ _ ?_, by decide, by decide, by decide⟩
  refine ⟨fun q3 => ?_, fun q3 => ?_⟩
  · refine ⟨_, _, _, L_ofSigned _ (fun l r => ?_), by decide, by decide, by decide⟩
    exact hK l r
  · refine ⟨_, _, _, L_floorOf _ _ _ ?_, by decide, by decide, by decide⟩
    refine ⟨_, _, _, L_ofSigned _ (fun l r => ?_), by decide, by decide, by decide⟩
    exact hK l r
theorem L_modAtK {h1 : mH} (hk : Kp (hx s t).length (hx s t) h1) (r : Int32) (hK : ok3 r → K (.inl (some (.int (xMod r s)))) h1) (h0 : ¬ ok3 r → ∀ l, K (.inr 0) (hx s (t ++ l))) : M P n_X_modulusAt [.ref 0, .int r] h1 1 6 7 K := by
  obtain ⟨l, rfl⟩ := Kp_all hk
  exact L_modAt (t := t ++ l) r hK (fun q j => by
    have := h0 q (l ++ jk j)
    rw [← List.append_assoc] at this
    exact this)
theorem L_resAtK {h1 : mH} (hk : Kp (hx s t).length (hx s t) h1) (r k : Int32) (hr : ok3 r) (hk4 : ok4 k) (hK : K (.inl (some (.int (xRes r k s)))) h1) : M P n_X_residueAt [.ref 0, .int r, .int k] h1 0 0 7 K := by
  obtain ⟨l, rfl⟩ := Kp_all hk
  exact L_residueAt (t := t ++ l) r k hr hk4 hK
theorem hx_len (s : XS) (t : mH) : 5 ≤ (hx s t).length := by
  unfold hx
  simp only [List.length_cons]
  omega
theorem hx_0 {h1 : mH} (hk : Kp (hx s t).length (hx s t) h1) : nth h1 0 = some (.inr (2, [.ref 1, .ref 2, .ref 3, .ref 4, .int (xF s), .int (xK s)])) := hk.2 0 (Nat.lt_of_lt_of_le (by decide) (hx_len s t))
theorem rt_ok {i n : Nat} (h : i + (n + 1) = 4) : ok4 (Int32.ofNat i) ∧ Int32.ofNat i < 4 := by
  have h1 : Int32.ofNat i < 4 := (oNl (n := 4) (by omega) (by decide)).mpr (by omega)
  exact ⟨⟨oN0 (by omega), h1⟩, h1⟩
theorem rt_no {i : Nat} (h : i + 0 = 4) : ¬ Int32.ofNat i < 4 := by
  have : i = 4 := by omega
  subst this
  decide
theorem rt_c {c i : Nat} (x : Int32) (h : c ≤ 12 + 12 * i) : c + 1 + tl x.toInt ≤ 12 + 12 * (i + 1) := by
  have := tl32 x
  omega
theorem rt_1 {c i n : Nat} (x : Int32) (h : c ≤ 12 + 12 * i) (hi : i + (n + 1) = 4) : c < 100 ∧ c + 1 + tl x.toInt ≤ 100 := by
  have := tl32 x
  omega
theorem rt_b {n cb : Nat} (h : 2 * (n + 1) + 2 ≤ cb) : 1 ≤ cb ∧ 0 ≤ cb - 1 ∧ 1 ≤ cb - 1 - 0 ∧ 2 * n + 2 ≤ cb - 1 - 0 - 1 := by omega
theorem rt_s {n sb : Nat} (h : 400 * (n + 1) + 100 ≤ sb) : 200 ≤ sb ∧ 0 ≤ sb - 200 ∧ 200 ≤ sb - 200 - 0 ∧ 400 * n + 100 ≤ sb - 200 - 0 - 200 := by omega
theorem l_rt {r : Int32} {b : Nat} (hr : ok3 r) (hK : ∀ l r, K (.inl (some (.ref r))) (hx s (t ++ l))) : ∀ (n i c cb sb : Nat) (h1 : mH), i + n = 4 → Kp (hx s t).length (hx s t) h1 → SB (hx s t).length b c c h1 → c ≤ 12 + 12 * i → 2 * n + 2 ≤ cb → 400 * n + 100 ≤ sb →
    G P n_X_ringText K 17 25 [some (.ref 0), some (.int r), some (.ref b), some (.int (Int32.ofNat i))] [] h1 cb sb
  | 0, i, c, cb, sb, h1, hi, hk, hS, hc, hcb, hsb => by
    have hn := rt_no hi
    have hc9 : c ≤ 100 := by omega
    have hS0 := hS
    obtain ⟨hp, v0, n0, g0, q0, -, -, hb0, -, -, -, -⟩ := hS0
    refine go ok_X_ringText 80 ?_
    refine ⟨fun q => absurd q hn, fun q => ?_⟩
    conv => whnf
    rw [hb0]
    refine ⟨_, _, _, L_toString hS (Nat.le_refl _) hc9 (fun h4 r k4 s4 => ?_), by omega, by omega, by decide⟩
    obtain ⟨l, rfl⟩ := Kp_all (hk.tr k4)
    exact hK l r
  | n + 1, i, c, cb, sb, h1, hi, hk, hS, hc, hcb, hsb => by
    have hn := rt_ok hi
    have e1 := rt_1 (xRes r (Int32.ofNat i) s) hc hi
    have e2 := rt_c (xRes r (Int32.ofNat i) s) hc
    have e3 := rt_b hcb
    have e4 := rt_s hsb
    have hi2 : (i + 1) + n = 4 := by omega
    have hS0 := hS
    obtain ⟨hp, v0, n0, g0, q0, -, -, hb0, -, -, -, -⟩ := hS0
    refine go ok_X_ringText 80 ?_
    refine ⟨fun q => ?_, fun q => absurd hn.2 q⟩
    conv => whnf
    rw [hb0]
    refine ⟨_, _, _, L_appC 32 (by decide) hS e1.1 (fun h2 k2 s2 => ?_), e3.1, e4.1, by decide⟩
    have hk2 := hk.tr k2
    conv => whnf
    rw [hx_0 hk2]
    refine ⟨_, _, _, L_resAtK hk2 _ _ hr hn.1 ?_, e3.2.1, e4.2.1, by decide⟩
    have s2' := s2
    obtain ⟨-, v2, n2, g2, q2, -, -, hb2, -, -, -, -⟩ := s2'
    conv => whnf
    rw [hb2]
    refine ⟨_, _, _, L_appI _ s2 e1.2 (fun h3 k3 s3 => ?_), e3.2.2.1, e4.2.2.1, by decide⟩
    have := l_rt hr hK n (i + 1) (c + 1 + tl (xRes r (Int32.ofNat i) s).toInt) (cb - 1 - 0 - 1) (sb - 200 - 0 - 200) h3 hi2 (hk2.tr k3) s3 e2 e3.2.2.2 e4.2.2.2
    rw [← o1 i] at this
    exact this
theorem L_ringText (r : Int32) (hK : ansT K t (xRingText r s)) : M P n_X_ringText [.ref 0, .int r] (hx s t) 50 9000 17 K := by
  refine Mgo ok_X_ringText 80 rfl ?_
  refine ⟨by decide, ?_⟩
  refine ⟨_, _, _, L_SBnew (p := (hx s t).length) (nth_ar (l := [])) (Nat.le_refl _) (fun h1 k1 s1 => ?_), by decide, by decide, by decide⟩
  have hk1 : Kp (hx s t).length (hx s t) h1 := (Kp.rf (Nat.le_refl _)).ap.tr k1
  conv => whnf
  rw [hx_0 hk1]
  have hK := ansT_nd hK
  refine ⟨_, _, _, L_modAtK hk1 _ (fun hr => ?_) hK.2, by decide, by decide, by decide⟩
  have hK := hK.1 hr
  have s1' := s1
  obtain ⟨-, v1, n1, g1, q1, -, -, hb1, -, -, -, -⟩ := s1'
  conv => whnf
  rw [hb1]
  have e1 := tl32 (xMod r s)
  refine ⟨_, _, _, L_appI _ s1 (by omega) (fun h2 k2 s2 => ?_), by decide, by decide, by decide⟩
  have s2' := s2
  obtain ⟨-, v2, n2, g2, q2, -, -, hb2, -, -, -, -⟩ := s2'
  conv => whnf
  rw [hb2]
  refine ⟨_, _, _, L_appC 58 (by decide) s2 (by omega) (fun h3 k3 s3 => ?_), by decide, by decide, by decide⟩
  exact l_rt hr hK 4 0 (0 + tl (xMod r s).toInt + 1) (50 - 1 - 1 - 1 - 1 - 1) (9000 - 4 - 16 - 6 - 200 - 200) h3 (by decide) ((hk1.tr k2).tr k3) s3 (by omega) (by decide) (by decide)
end CLT
