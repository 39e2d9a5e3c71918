/-! THE CLASS: its texts -/
theorem tnn (x : Int64) {k : Nat} (h : x.toInt = (k : Int)) : x.toBitVec.toNat = k := by
  have e : x.toInt = x.toBitVec.toInt := rfl
  rw [e, BitVec.toInt_eq_toNat_cond] at h
  have := x.toBitVec.isLt
  split at h <;> omega
theorem tni (x : Int64) {k : Nat} (h : x.toBitVec.toNat = k) (hk : k < 9223372036854775808) : x.toInt = (k : Int) := by
  show x.toBitVec.toInt = _
  rw [BitVec.toInt_eq_toNat_cond, h, if_pos (by omega)]
def tTen (x : Int64) : Int64 := (x.toUInt64 >>> ((1 : Int32).toInt64.toUInt64 &&& Int64.toUInt64 63)).toInt64 / 5
theorem tTen_i (x : Int64) : (tTen x).toInt = ((x.toBitVec.toNat / 10 : Nat) : Int) := by
  have hu := x.toBitVec.isLt
  have h1 : ((x.toUInt64 >>> ((1 : Int32).toInt64.toUInt64 &&& Int64.toUInt64 63)).toInt64).toBitVec.toNat = x.toBitVec.toNat / 2 := by
    show (x.toUInt64 >>> ((1 : Int32).toInt64.toUInt64 &&& Int64.toUInt64 63)).toNat = _
    rw [UInt64.toNat_shiftRight]
    have : ((1 : Int32).toInt64.toUInt64 &&& Int64.toUInt64 63).toNat % 64 = 1 := by decide
    rw [this, Nat.shiftRight_eq_div_pow]
    rfl
  have h2 := tni _ h1 (by omega)
  have e5 : (5 : Int64).toInt = 5 := by decide
  unfold tTen
  rw [Int64.toInt_div, h2, e5, Int.tdiv_eq_ediv_of_nonneg (by omega), Int.bmod_eq_of_le (by omega) (by omega)]
  omega
theorem tDig (x : Int64) : (x - tTen x * 10).toInt32.toInt = ((x.toBitVec.toNat % 10 : Nat) : Int) := by
  have hu := x.toBitVec.isLt
  have ht := tnn _ (tTen_i x)
  have hb : (x - tTen x * 10).toBitVec.toNat = x.toBitVec.toNat % 10 := by
    rw [Int64.toBitVec_sub, Int64.toBitVec_mul, BitVec.toNat_sub, BitVec.toNat_mul, ht, show (10 : Int64).toBitVec.toNat = 10 from rfl]
    omega
  have h2 := tni _ hb (by omega)
  rw [Int64.toInt_toInt32, h2]
  exact Int.bmod_eq_of_le (by omega) (by omega)
theorem chr_ok : ∀ d, d < 10 → ¬ 255 < ((48 + Int32.ofNat d).toUInt32 % 65536).toInt32 := by decide
theorem tChr (x : Int64) : ¬ 255 < ((48 + (x - tTen x * 10).toInt32).toUInt32 % 65536).toInt32 := by
  have e : (x - tTen x * 10).toInt32 = Int32.ofNat (x.toBitVec.toNat % 10) := Int32.toInt_inj.mp (by rw [tDig, oN (by omega)])
  rw [e]
  exact chr_ok _ (by omega)
theorem Kp_all {h h' : mH} (a : Kp h.length h h') : ∃ l, h' = h ++ l := by
  refine ⟨h'.drop h.length, ?_⟩
  have e : h'.take h.length = h := by
    refine List.ext_getElem? fun i => ?_
    rw [List.getElem?_take]
    by_cases hi : i < h.length
    · rw [if_pos hi, ← nth_eq, ← nth_eq]
      exact a.2 i hi
    · rw [if_neg hi]
      exact (List.getElem?_eq_none (by omega)).symm
  calc h' = h'.take h.length ++ h'.drop h.length := (List.take_append_drop _ _).symm
    _ = h ++ h'.drop h.length := by rw [e]
theorem tl32 (x : Int32) : tl x.toInt ≤ 11 := by
  have h1 := x.le_toInt
  have h2 := x.toInt_lt
  have e : (10 : Nat) ^ (9 + 1) = 10000000000 := by decide
  have := ndg_up 9 x.toInt.natAbs (by rw [e]; omega)
  unfold tl sgN
  split <;> omega
theorem tl64 (x : Int64) : tl x.toInt ≤ 20 := by
  have h1 := x.le_toInt
  have h2 := x.toInt_lt
  have e : (10 : Nat) ^ (18 + 1) = 10000000000000000000 := by decide
  have := ndg_up 18 x.toInt.natAbs (by rw [e]; omega)
  unfold tl sgN
  split <;> omega
theorem ap_c {c n : Nat} (h : c + (n + 1) = 19) : (c + 1) + n = 19 := by omega
theorem ap_lt {c : Nat} (h : c < 100) (e : Int32.ofNat c + 1 < 20) : c + 1 < 20 := by
  rw [o1] at e
  exact (oNl (n := 20) (by omega) (by decide)).mp e
theorem ap_a {n cb : Nat} (h : n + 1 + 1 ≤ cb) : n + 1 ≤ cb - 0 - 1 := by omega
theorem ap_b {n sb : Nat} (h : 200 * (n + 1 + 1) ≤ sb) : 200 * (n + 1) ≤ sb - 0 - 200 := by omega
theorem ap_1 {n cb : Nat} (h : n + 1 ≤ cb) : 1 ≤ cb := by omega
theorem ap_2 {n sb : Nat} (h : 200 * (n + 1) ≤ sb) : 200 ≤ sb := by omega
theorem ap_20 {c n : Nat} (h : c + n = 19) : c < 100 ∧ 1 ≤ c + 1 ∧ c + 1 ≤ 20 := by omega
section TXX
variable {P : GP} {K : Kt} {h : mH}
theorem l_apb {p b : Nat} {u : Int64} {h0 : mH} (hK : ∀ h' c, Kp p h0 h' → 1 ≤ c → c ≤ 20 → SB p b c c h' → K (.inl none) h') : ∀ (n c : Nat) (left : Int64) (y : Option Value) (h : mH) (m0 cb sb : Nat), c + n = 19 → Kp p h0 h → SB p b c m0 h → n + 1 ≤ cb → 200 * (n + 1) ≤ sb →
    G P n_D_appendBackwards K 12 5 [some (.ref b), some (.long u), none, some (.long left), none, some (.int (Int32.ofNat c)), y, none] [] h cb sb
  | 0, c, left, y, h, m0, cb, sb, hc, hk, hS, hcb, hsb => by
    have hc20 := ap_20 hc
    have hS0 := hS
    obtain ⟨hp, v0, n0, g0, q0, -, -, hb0, -, -, -, -⟩ := hS0
    refine go ok_D_appendBackwards 80 ?_
    refine ⟨by decide, ?_⟩
    conv => whnf
    rw [hb0]
    refine ⟨_, _, _, L_appC _ (tChr left) hS hc20.1 (fun h' hk' hS' => ?_), ap_1 hcb, ap_2 hsb, by decide⟩
    refine ⟨fun e => ?_, fun e => ?_⟩
    · exact hK _ _ (hk.tr hk') hc20.2.1 hc20.2.2 hS'
    · refine ⟨fun e2 => absurd (ap_lt hc20.1 e2) (by omega), fun e2 => ?_⟩
      exact hK _ _ (hk.tr hk') hc20.2.1 hc20.2.2 hS'
  | n + 1, c, left, y, h, m0, cb, sb, hc, hk, hS, hcb, hsb => by
    have hc20 := ap_20 hc
    have hS0 := hS
    obtain ⟨hp, v0, n0, g0, q0, -, -, hb0, -, -, -, -⟩ := hS0
    refine go ok_D_appendBackwards 80 ?_
    refine ⟨by decide, ?_⟩
    conv => whnf
    rw [hb0]
    refine ⟨_, _, _, L_appC _ (tChr left) hS hc20.1 (fun h' hk' hS' => ?_), ap_1 hcb, ap_2 hsb, by decide⟩
    refine ⟨fun e => ?_, fun e => ?_⟩
    · exact hK _ _ (hk.tr hk') hc20.2.1 hc20.2.2 hS'
    · refine ⟨fun e2 => ?_, fun e2 => ?_⟩
      · have := l_apb (u := u) hK n (c + 1) (tTen left) (some (.long (tTen left))) h' (c + 1) (cb - 0 - 1) (sb - 0 - 200) (ap_c hc) (hk.tr hk') hS' (ap_a hcb) (ap_b hsb)
        rw [← o1 c] at this
        exact this
      · exact hK _ _ (hk.tr hk') hc20.2.1 hc20.2.2 hS'
theorem L_apB {p b m0 : Nat} (x : Int64) (hS : SB p b 0 m0 h) (hK : ∀ h' c, Kp p h h' → 1 ≤ c → c ≤ 20 → SB p b c c h' → K (.inl none) h') : M P n_D_appendBackwards [.ref b, .long x] h 20 4000 12 K := by
  refine Mgo ok_D_appendBackwards 60 rfl ?_
  exact l_apb hK 19 0 x none h m0 20 4000 (by decide) (Kp.rf hS.len) hS (by decide) (by decide)
theorem L_fin {p b c : Nat} (hS : SB p b c c h) (hc1 : 1 ≤ c) (hc2 : c ≤ 21) : c ≤ 100 := by omega
theorem L_ofUnsigned (x : Int64) (hK : ∀ l s, K (.inl (some (.ref s))) (h ++ l)) : M P n_D_ofUnsigned [.long x] h 30 5000 14 K := by
  refine Mgo ok_D_ofUnsigned 80 rfl ?_
  refine ⟨by decide, ?_⟩
  refine ⟨_, _, _, L_SBnew (p := h.length) (nth_ar (l := [])) (Nat.le_refl _) (fun h1 k1 s1 => ?_), by decide, by decide, by decide⟩
  refine ⟨_, _, _, L_apB x s1 (fun h2 c k2 hc1 hc2 s2 => ?_), by decide, by decide, by decide⟩
  have s2' := s2
  obtain ⟨-, v2, n2, g2, q2, -, -, hb2, -, -, -, -⟩ := s2'
  conv => whnf
  rw [hb2]
  refine ⟨_, _, _, L_reverse s2 (Nat.le_refl _) hc1 (by omega) (fun h3 k3 s3 => ?_), by decide, by decide, by decide⟩
  have s3' := s3
  obtain ⟨-, v3, n3, g3, q3, -, -, hb3, -, -, -, -⟩ := s3'
  conv => whnf
  rw [hb3]
  refine ⟨_, _, _, L_toString s3 (Nat.le_refl _) (by omega) (fun h4 r k4 s4 => ?_), by decide, by omega, by decide⟩
  obtain ⟨l, rfl⟩ := Kp_all (((((Kp.rf (Nat.le_refl h.length)).ap.tr k1).tr k2).tr k3).tr k4)
  exact hK l r
theorem L_ofSigned (x : Int64) (hK : ∀ l s, K (.inl (some (.ref s))) (h ++ l)) : M P n_D_ofSigned [.long x] h 30 5000 14 K := by
  refine Mgo ok_D_ofSigned 80 rfl ?_
  refine ⟨by decide, ?_⟩
  refine ⟨_, _, _, L_SBnew (p := h.length) (nth_ar (l := [])) (Nat.le_refl _) (fun h1 k1 s1 => ?_), by decide, by decide, by decide⟩
  refine ⟨fun e => ?_, fun e => ?_⟩
  · refine ⟨_, _, _, L_apB _ s1 (fun h2 c k2 hc1 hc2 s2 => ?_), by decide, by decide, by decide⟩
    refine ⟨fun _ => ?_, fun e2 => absurd e e2⟩
    have s2' := s2
    obtain ⟨-, v2, n2, g2, q2, -, -, hb2, -, -, -, -⟩ := s2'
    conv => whnf
    rw [hb2]
    refine ⟨_, _, _, L_appC 45 (by decide) s2 (by omega) (fun h5 k5 s5 => ?_), by decide, by decide, by decide⟩
    have s5' := s5
    obtain ⟨-, v5, n5, g5, q5, -, -, hb5, -, -, -, -⟩ := s5'
    conv => whnf
    rw [hb5]
    refine ⟨_, _, _, L_reverse s5 (Nat.le_refl _) (by omega) (by omega) (fun h3 k3 s3 => ?_), by decide, by decide, by decide⟩
    have s3' := s3
    obtain ⟨-, v3, n3, g3, q3, -, -, hb3, -, -, -, -⟩ := s3'
    conv => whnf
    rw [hb3]
    refine ⟨_, _, _, L_toString s3 (Nat.le_refl _) (by omega) (fun h4 r k4 s4 => ?_), by decide, by omega, by decide⟩
    obtain ⟨l, rfl⟩ := Kp_all ((((((Kp.rf (Nat.le_refl h.length)).ap.tr k1).tr k2).tr k5).tr k3).tr k4)
    exact hK l r
  · refine ⟨_, _, _, L_apB _ s1 (fun h2 c k2 hc1 hc2 s2 => ?_), by decide, by decide, by decide⟩
    refine ⟨fun e2 => absurd e2 e, fun _ => ?_⟩
    have s2' := s2
    obtain ⟨-, v2, n2, g2, q2, -, -, hb2, -, -, -, -⟩ := s2'
    conv => whnf
    rw [hb2]
    refine ⟨_, _, _, L_reverse s2 (Nat.le_refl _) hc1 (by omega) (fun h3 k3 s3 => ?_), by decide, by decide, by decide⟩
    have s3' := s3
    obtain ⟨-, v3, n3, g3, q3, -, -, hb3, -, -, -, -⟩ := s3'
    conv => whnf
    rw [hb3]
    refine ⟨_, _, _, L_toString s3 (Nat.le_refl _) (by omega) (fun h4 r k4 s4 => ?_), by decide, by omega, by decide⟩
    obtain ⟨l, rfl⟩ := Kp_all (((((Kp.rf (Nat.le_refl h.length)).ap.tr k1).tr k2).tr k3).tr k4)
    exact hK l r
end TXX
