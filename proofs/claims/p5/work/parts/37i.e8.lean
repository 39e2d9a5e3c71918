/-! meetings, digits, texts: the class and the model agree -/
theorem nn_inj {a b : Int64} {n : Nat} (h1 : nn a n) (h2 : nn b n) : a = b := Int64.toInt_inj.mp (Eq.trans h1 (Eq.symm h2))
theorem nn_div {a b : Int64} {n m : Nat} (h1 : nn a n) (h2 : nn b m) : nn (a / b) (n / m) := by
  have l := nn_lt h1
  have e := Nat.div_le_self n m
  unfold nn at *
  rw [Int64.toInt_div, h1, h2, Int.tdiv_eq_ediv_of_nonneg (by omega), ← Int.natCast_ediv]
  generalize n / m = z at *
  exact Int.bmod_eq_of_le (by omega) (by omega)
/-- the floor below a divisor that is not negative -/
theorem floor_nn {a b : Int64} {n : Nat} (hb : nn b n) (h0 : n ≠ 0) : (mFloor a b).toInt = a.toInt / n := by
  have e : b.toInt = n := hb
  have an := neg_iff a
  have bn : ¬ b < 0 := fun z => by
    have := (neg_iff b).mp z
    omega
  have a1 := a.toInt_lt
  have a2 := a.le_toInt
  have z : wRem a b = 0 ↔ a.toInt.tmod n = 0 := by rw [← Int64.toInt_inj, l0, wRem_i, e]
  have hd : (a / b).toInt = a.toInt.tdiv n := by
    have h3 : (a.toInt.tdiv (n : Int)).natAbs ≤ a.toInt.natAbs := by
      rw [Int.natAbs_tdiv]
      exact Nat.div_le_self _ _
    rw [Int64.toInt_div, e]
    by_cases q : n = 1
    · subst q
      rw [show ((1 : Nat) : Int) = 1 from rfl, Int.tdiv_one]
      exact Int.bmod_eq_of_le (by omega) (by omega)
    · have := tdiv_rng (b := (n : Int)) a2 (by omega) (by omega) (by omega)
      exact Int.bmod_eq_of_le (by omega) (by omega)
  have hs := Int.tdiv_mul_add_tmod a.toInt (n : Int)
  have hm : (a.toInt.tmod (n : Int)).natAbs < n := by
    rw [Int.natAbs_tmod]
    exact Nat.mod_lt _ (by omega)
  have hr := tmod_rng a.toInt (n : Int)
  have key : ∀ q r : Int, n * q + r = a.toInt → 0 ≤ r → r < n → q = a.toInt / n := fun q r h1 h2 h3 => ((Int.ediv_emod_unique (a := a.toInt) (b := (n : Int)) (by omega)).mpr ⟨by rw [← h1]; omega, h2, h3⟩).1.symm
  rw [Int.mul_comm] at hs
  unfold mFloor
  by_cases q1 : wRem a b = 0
  · rw [if_pos q1, hd]
    exact key _ _ hs (by
      have := z.mp q1
      omega) (by omega)
  · have q1i : ¬ a.toInt.tmod n = 0 := fun e => q1 (z.mpr e)
    rw [if_neg q1, if_neg bn, if_neg bn]
    by_cases q2 : a < 0
    · have q2i := an.mp q2
      have := hr.2 (by omega)
      have hd1 : (a / b - 1).toInt = a.toInt.tdiv n - 1 := by
        have h4 : (n : Int) * (a.toInt.tdiv n) ≤ 0 ∧ a.toInt ≤ (n : Int) * (a.toInt.tdiv n) := by omega
        have h5 : (a.toInt.tdiv (n : Int)).natAbs ≤ a.toInt.natAbs := by
          rw [Int.natAbs_tdiv]
          exact Nat.div_le_self _ _
        rw [Int64.toInt_sub, hd, show (1 : Int64).toInt = 1 by decide]
        refine Int.bmod_eq_of_le ?_ (by omega)
        by_cases q3 : n = 1
        · subst q3
          rw [show ((1 : Nat) : Int) = 1 from rfl, Int.tmod_one] at q1i
          exact absurd rfl q1i
        · have h6 := Int.natAbs_tdiv a.toInt (n : Int)
          have h7 : a.toInt.natAbs.div n ≤ a.toInt.natAbs / 2 := Nat.div_le_div_left (by omega) (by decide)
          rw [Int.natAbs_natCast] at h6
          rw [← h6] at h7
          omega
      rw [if_pos q2, hd1]
      refine key _ (a.toInt.tmod n + n) ?_ (by omega) (by omega)
      rw [Int.mul_sub, Int.mul_one]
      omega
    · have q2i : ¬ a.toInt < 0 := fun e => q2 (an.mpr e)
      have := hr.1 (by omega)
      rw [if_neg q2, hd]
      exact key _ _ hs (by omega) (by omega)
theorem wfloor_div {a b : Int64} {n m : Nat} (h1 : nn a n) (h2 : nn b m) (h0 : m ≠ 0) : wFloor a b = a / b := by
  have h3 := nn_div h1 h2
  refine nn_inj (n := n / m) ?_ h3
  have h1 : a.toInt = n := h1
  unfold nn
  rw [← mFloor_eq (nn_nz h2 h0), floor_nn h2 h0, h1, Int.natCast_ediv]
theorem i32_r (b : Int32) : -2147483648 ≤ b.toInt64.toInt ∧ b.toInt64.toInt < 2147483648 := by
  rw [Int32.toInt_toInt64]
  exact ⟨b.le_toInt, b.toInt_lt⟩
theorem sub_i {b : Int32} {home : Int64} {H : Nat} (hH : nn home H) (lH : H < 2147483648) : (b.toInt64 - home).toInt = b.toInt64.toInt - H := by
  have hH : home.toInt = H := hH
  have := i32_r b
  rw [Int64.toInt_sub, hH]
  exact Int.bmod_eq_of_le (by omega) (by omega)
theorem sub_n {c home : Int64} {H C : Nat} (hc : nn c C) (hH : nn home H) (lH : H < 2147483648) (lC : C < 2147483648) : (c - home).toInt = (C : Int) - H := by
  have hH : home.toInt = H := hH
  have hc : c.toInt = C := hc
  rw [Int64.toInt_sub, hH, hc]
  exact Int.bmod_eq_of_le (by omega) (by omega)
theorem ediv_rng {p : Int} {d : Nat} (h0 : d ≠ 0) {A B : Int} (h1 : A ≤ p) (h2 : p ≤ B) (hA : A ≤ 0) (hB : 0 ≤ B) : A ≤ p / (d : Int) ∧ p / (d : Int) ≤ B := by
  have hd : 0 < (d : Int) := by omega
  refine ⟨(Int.le_ediv_iff_mul_le hd).mpr ?_, ?_⟩
  · have : A * (d : Int) ≤ A * 1 := Int.mul_le_mul_of_nonpos_left hA (by omega)
    omega
  · have e : p / (d : Int) < B + 1 := (Int.ediv_lt_iff_lt_mul hd).mpr (by
      have : (B + 1) * 1 ≤ (B + 1) * (d : Int) := Int.mul_le_mul_of_nonneg_left (by omega) (by omega)
      omega)
    omega
/-- a meeting: the class's and the model's are one number -/
theorem meet_eq (a b : Int32) {m n : Int32} (hm : ¬ m = 0) (hn : ¬ n = 0) {home C M N G : Int64} (eM : M = lAbs m.toInt64) (eN : N = lAbs n.toInt64) (eh : home = mRest a.toInt64 M) (eC : C = mRest b.toInt64 N) (eG : G = mGcd M N) :
    (wRem (C - home) G = 0 → rMeet a m b n = home + M * mRest (mRest ((C - home) / G) (N / G) * mAgainst (M / G) (N / G)) (N / G) ∧ ¬ rMeet a m b n = -1) ∧ (¬ wRem (C - home) G = 0 → rMeet a m b n = -1) := by
  have hM : nn M m.toInt.natAbs := by
    rw [eM]
    exact abs32 m
  have hN : nn N n.toInt.natAbs := by
    rw [eN]
    exact abs32 n
  have m0 := size_pos hm
  have n0 := size_pos hn
  have lm := size_lt m
  have ln := size_lt n
  have sM : rSize m = M := eM.symm
  have sN : rSize n = N := eN.symm
  generalize m.toInt.natAbs = mm at *
  generalize n.toInt.natAbs = nm at *
  have hH := rest_nn a.toInt64 hM m0
  rw [← eh] at hH
  have lH : (a.toInt64.toInt % (mm : Int)).toNat < 2147483648 := by
    have := Int.emod_lt_of_pos a.toInt64.toInt (b := (mm : Int)) (by omega)
    omega
  have hC := rest_nn b.toInt64 hN n0
  rw [← eC] at hC
  have b0 := Int.emod_nonneg b.toInt64.toInt (b := (nm : Int)) (by omega)
  have b1 := Int.emod_lt_of_pos b.toInt64.toInt (b := (nm : Int)) (by omega)
  have bq := Int.mul_ediv_add_emod b.toInt64.toInt nm
  have lC : (b.toInt64.toInt % (nm : Int)).toNat < 2147483648 := by omega
  have br := i32_r b
  have hp := sub_i (b := b) hH lH
  have hp' := sub_n hC hH lH lC
  rw [Int.toNat_of_nonneg b0] at hp'
  generalize (a.toInt64.toInt % (mm : Int)).toNat = H at *
  generalize b.toInt64.toInt / (nm : Int) = qb at *
  generalize b.toInt64.toInt % (nm : Int) = c at *
  have hg : nn (rGcd M N) (Nat.gcd mm nm) := gcd_nn hM hN
  have hG : nn G (Nat.gcd mm nm) := by
    have h1 : M.toInt = mm := hM
    have h2 : N.toInt = nm := hN
    have := mgcd_nn (a := M) (b := N) (by omega) (by omega)
    rw [h1, h2, ← eG] at this
    exact this
  have gG : rGcd M N = G := nn_inj hg hG
  have d0 : Nat.gcd mm nm ≠ 0 := fun e => by
    have := Nat.gcd_pos_of_pos_left nm (show 0 < mm by omega)
    omega
  have cop := Nat.coprime_div_gcd_div_gcd (m := mm) (n := nm) (Nat.pos_of_ne_zero d0)
  have dn := Nat.div_mul_cancel (Nat.gcd_dvd_right mm nm)
  have hU := nn_div hM hG
  have hW := nn_div hN hG
  have w0 : nm / Nat.gcd mm nm ≠ 0 := fun e => by
    rw [e] at dn
    omega
  have lw : nm / Nat.gcd mm nm ≤ nm := Nat.div_le_self _ _
  have hFM := wfloor_div hM hG d0
  have hFN := wfloor_div hN hG d0
  generalize Nat.gcd mm nm = d at *
  generalize nm / d = w at *
  generalize mm / d = u at *
  have hGz := nn_nz hG d0
  have gi : G.toInt = d := hG
  have dn' : (w : Int) * d = nm := by
    rw [← dn, Int.natCast_mul]
  have eB : b.toInt64.toInt - H = (c - H) + (d : Int) * (w * qb) := by
    have : (d : Int) * (w * qb) = nm * qb := by rw [← dn', ← Int.mul_assoc, Int.mul_comm (d : Int) w]
    omega
  have e1 : wRem (C - home) G = 0 ↔ (c - H) % (d : Int) = 0 := by
    rw [← Int64.toInt_inj, l0, wRem_i, hp', gi, ← Int.dvd_iff_tmod_eq_zero, Int.dvd_iff_emod_eq_zero]
  have e2 : wRest (b.toInt64 - home) G = 0 ↔ (c - H) % (d : Int) = 0 := by
    have h1 := rest_nn (b.toInt64 - home) hG d0
    rw [hp, eB, Int.add_mul_emod_self_left] at h1
    have h2 := Int.emod_nonneg (c - H) (b := (d : Int)) (by omega)
    rw [← mRest_eq hGz, nn_0 h1]
    omega
  have eI : rInv (M / G) (N / G) = mAgainst (M / G) (N / G) := by
    have hU : (M / G).toInt = u := hU
    rw [against hW w0, hU, Int.natAbs_natCast, if_pos cop]
  have eR : rMeet a m b n = if wRest (b.toInt64 - home) G = 0 then home + M * wRest (wFloor (b.toInt64 - home) G * mAgainst (M / G) (N / G)) (N / G) else -1 := by
    unfold rMeet
    rw [sM, sN, gG, ← mRest_eq (a := a.toInt64) (nn_nz hM m0), ← eh, hFM, hFN, eI]
  obtain ⟨k, hk, lk⟩ := against_nn (M / G) hW w0
  have hk' : (mAgainst (M / G) (N / G)).toInt = k := hk
  refine ⟨fun h => ?_, fun h => ?_⟩
  · have hz := e1.mp h
    rw [eR, if_pos (e2.mpr hz)]
    have hq := Int.mul_ediv_add_emod (c - H) d
    rw [hz] at hq
    have hF : (wFloor (b.toInt64 - home) G).toInt = (c - H) / (d : Int) + w * qb := by
      rw [← mFloor_eq hGz, floor_nn hG d0, hp, eB, Int.add_mul_ediv_left _ _ (show (d : Int) ≠ 0 by omega)]
    have hFr := ediv_rng (p := b.toInt64.toInt - H) d0 (A := -4294967296) (B := 4294967296) (by omega) (by omega) (by decide) (by decide)
    rw [eB, Int.add_mul_ediv_left _ _ (show (d : Int) ≠ 0 by omega), ← hF] at hFr
    have hD : ((C - home) / G).toInt = (c - H) / (d : Int) := by
      have hr := ediv_rng (p := c - H) d0 (A := -2147483648) (B := 2147483648) (by omega) (by omega) (by decide) (by decide)
      have ht : (c - H).tdiv (d : Int) = (c - H) / (d : Int) := by
        generalize (c - H) / (d : Int) = t at *
        rw [show c - H = d * t by omega]
        exact Int.mul_tdiv_cancel_left _ (show (d : Int) ≠ 0 by omega)
      rw [Int64.toInt_div, hp', gi, ht]
      exact Int.bmod_eq_of_le (by omega) (by omega)
    generalize (c - H) / (d : Int) = t at *
    have hFI : (wFloor (b.toInt64 - home) G * mAgainst (M / G) (N / G)).toInt = (t + w * qb) * k := by
      have := mul_rng hFr.1 hFr.2 (y := (k : Int)) (Y := 2147483647) (by omega) (by omega) (by decide)
      rw [Int64.toInt_mul, hk', Int.bmod_eq_of_le (by omega) (by omega), hF]
    have hRD := rest_nn ((C - home) / G) hW w0
    rw [hD] at hRD
    have t0 := Int.emod_nonneg t (b := (w : Int)) (by omega)
    have t1 := Int.emod_lt_of_pos t (b := (w : Int)) (by omega)
    have hDI : (mRest ((C - home) / G) (N / G) * mAgainst (M / G) (N / G)).toInt = (t % (w : Int)) * k := by
      have hRD : (mRest ((C - home) / G) (N / G)).toInt = ((t % (w : Int)).toNat : Nat) := hRD
      rw [Int.toNat_of_nonneg t0] at hRD
      have := nonneg_mul (x := t % (w : Int)) (X := 2147483648) (y := (k : Int)) (Y := 2147483648) t0 (by omega) (by omega) (by omega)
      rw [Int64.toInt_mul, hk', hRD]
      exact Int.bmod_eq_of_le (by omega) (by omega)
    have hA := rest_nn (wFloor (b.toInt64 - home) G * mAgainst (M / G) (N / G)) hW w0
    have hB := rest_nn (mRest ((C - home) / G) (N / G) * mAgainst (M / G) (N / G)) hW w0
    have hE : (t + w * qb) * k % (w : Int) = (t % (w : Int)) * k % (w : Int) := by
      have h1 : (t + w * qb) * k = (t % (w : Int)) * k + w * ((t / w + qb) * k) := by
        have h2 := Int.mul_ediv_add_emod t w
        have h3 : t + w * qb = t % (w : Int) + w * (t / w + qb) := by
          rw [Int.mul_add]
          omega
        rw [h3, Int.add_mul, Int.mul_assoc]
      rw [h1, Int.add_mul_emod_self_left]
    rw [hFI, hE] at hA
    rw [hDI] at hB
    rw [← mRest_eq (nn_nz hW w0), nn_inj hA hB]
    refine ⟨rfl, nn_m1 (n := H + mm * ((t % (w : Int)) * k % (w : Int)).toNat) ?_⟩
    have z1 := Int.emod_lt_of_pos ((t % (w : Int)) * k) (b := (w : Int)) (by omega)
    have lz : ((t % (w : Int)) * k % (w : Int)).toNat ≤ 2147483648 := by
      have := Int.emod_nonneg ((t % (w : Int)) * k) (b := (w : Int)) (by omega)
      omega
    generalize ((t % (w : Int)) * k % (w : Int)).toNat = z at *
    have hB : (mRest (mRest ((C - home) / G) (N / G) * mAgainst (M / G) (N / G)) (N / G)).toInt = z := hB
    have hH : home.toInt = H := hH
    have hM : M.toInt = mm := hM
    have hr := nonneg_mul (x := (mm : Int)) (X := 2147483648) (y := (z : Int)) (Y := 2147483648) (by omega) (by omega) (by omega) (by omega)
    unfold nn
    rw [Int64.toInt_add, Int64.toInt_mul, hB, hH, hM, Int.bmod_eq_of_le (n := (mm : Int) * z) (by omega) (by omega), Int.bmod_eq_of_le (by omega) (by omega), Int.natCast_add, Int.natCast_mul]
  · rw [eR, if_neg (fun e => h (e1.mpr (e2.mp e)))]
