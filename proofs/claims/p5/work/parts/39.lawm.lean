/-! THE LAW: the case that is compared -/
theorem cd2_nz (E : Nat) : ¬ cd2 E = 0 := by
  unfold cd2
  split <;> decide
theorem cdH_nz (E : Nat) : ¬ cdH E = 0 := by
  unfold cdH
  decide
theorem anK_agr {K : Kt} {s : MS} {n : Int64} {w : Value} {t : mH} {cd : Nat → Int32} {o : Out} {mo : MO} (hz : ∀ E, ¬ cd E = 0) (hA : agI cd o mo) (h : ∀ c n1 w1 t1, mTh mo.2 = c → (c = 0 → n1 = mo.1.toInt64) → K (.inl (some (.int c))) (hm s o.2 (oc n1 w1 :: t1))) : ansK K s n w t cd o := by
  obtain ⟨o, y⟩ := o
  cases o with
  | inl v => exact h _ _ _ _ hA.1 (fun _ => by rw [← hA.2])
  | inr E => exact fun j => h _ _ _ _ hA (fun e => absurd e (hz E))
theorem anB_agr {K : Kt} {s : MS} {n : Int64} {w : Value} {t : mH} {cd : Nat → Int32} {o : Out} {mo : MO} (hz : ∀ E, ¬ cd E = 0) (hA : agI cd o mo) (h : ∀ c n1 w1 t1, mTh mo.2 = c → (c = 0 → n1 = bz mo.1) → K (.inl (some (.int c))) (hm s o.2 (oc n1 w1 :: t1))) : ansB K s n w t cd o := by
  obtain ⟨o, y⟩ := o
  cases o with
  | inl v => exact h _ _ _ _ hA.1 (fun _ => by rw [← hA.2])
  | inr E => exact fun j => h _ _ _ _ hA (fun e => absurd e (hz E))
section LAWM
variable {P : GP} {K : Kt} {I : XS → MS → Prop} {i : Int32} {c0 s0 cb sb : Nat} {x : XS} {s : MS} {n : Int64} {w : Value} {t : mH}
theorem c_narrow (hv : hvs P i) (hI : ∀ k f : Int32, I (xNarrow k f x).2 (m_narrow k f s).2) (hA : ∀ k f : Int32, agI cd2 (xNarrow k f x) (m_narrow k f s)) (hcb : c0 + 1000 ≤ cb) (hsb : s0 + 14000 ≤ sb) (hK : nxtG P K I i c0 s0) : G P n_K_law K 30 416 [some (.retAddr 0), some (.ref 0), some (.ref 5), some (.ref 13), some (.int i), none, none] [] (hm s x (oc n w :: t)) cb sb := by
  obtain ⟨v1, v2, v3, v4, v5⟩ := hv
  refine go ok_K_law 120 ?_
  refine ⟨v1, ?_⟩
  refine ⟨v2, ?_⟩
  refine ⟨_, _, _, K_narrow _ _ (anK_agr cd2_nz (hA _ _) (fun c n1 w1 t1 g1 g2 => ?_)), by omega, by omega, by decide⟩
  refine ⟨v1, ?_⟩
  refine ⟨v2, ?_⟩
  refine ⟨_, _, _, M_narrow _ _ ?_, by omega, by omega, by decide⟩
  refine ⟨_, _, _, M_thrown ?_, by omega, by omega, by decide⟩
  refine ⟨fun _ => ?_, fun e => absurd g1 e⟩
  refine ⟨fun e0 => ?_, fun _ => ?_⟩
  · refine ⟨fun _ => ?_, fun e => absurd (g2 e0) e⟩
    refine nxtG_ok hK (hI _ _) ?_ ?_ <;> omega
  · refine nxtG_ok hK (hI _ _) ?_ ?_ <;> omega
end LAWM
theorem lp_hv {P : GP} {i : Int32} (h0 : 0 ≤ i.toInt) (h : i.toInt + 6 ≤ gL P) (hL : gL P ≤ 3072) : hvs P i ∧ vp_in i (gL P) ∧ (i + 6).toInt = i.toInt + 6 := by
  have ad : ∀ (c : Int32) (k : Int), c.toInt = k → 0 ≤ k → k ≤ 6 → (i + c).toInt = i.toInt + k := fun c k hc h1 h2 => by
    rw [Int32.toInt_add, hc]
    exact Int.bmod_eq_of_le (by omega) (by omega)
  have a1 := ad 1 1 (by decide) (by decide) (by decide)
  have a2 := ad 2 2 (by decide) (by decide) (by decide)
  have a3 := ad 3 3 (by decide) (by decide) (by decide)
  have a4 := ad 4 4 (by decide) (by decide) (by decide)
  have a5 := ad 5 5 (by decide) (by decide) (by decide)
  refine ⟨⟨?_, ?_, ?_, ?_, ?_⟩, ?_, ad 6 6 (by decide) (by decide) (by decide)⟩
  · rw [vp_in_iff, a1]
    omega
  · rw [vp_in_iff, a2]
    omega
  · rw [vp_in_iff, a3]
    omega
  · rw [vp_in_iff, a4]
    omega
  · rw [vp_in_iff, a5]
    omega
  · rw [vp_in_iff]
    omega
theorem lp_L {L : Nat} (hL : L ≤ 3072) : (Int32.ofNat L - 6).toInt = (L : Int) - 6 := by
  have e6 : (6 : Int32).toInt = 6 := by decide
  rw [Int32.toInt_sub, oN (by omega), e6]
  exact Int.bmod_eq_of_le (by omega) (by omega)
theorem lp_in {i : Int32} {L : Nat} (hL : L ≤ 3072) (h : ¬ Int32.ofNat L - 6 < i) : i.toInt + 6 ≤ L := by
  rw [Int32.lt_iff_toInt_lt, lp_L hL] at h
  omega
theorem lp_end {i : Int32} {L : Nat} (hL : L ≤ 3072) (h : (L : Int) ≤ i.toInt + 5) : Int32.ofNat L - 6 < i := by
  rw [Int32.lt_iff_toInt_lt, lp_L hL]
  omega
theorem lp_next {i j : Int32} {L m : Nat} (h0 : 0 ≤ i.toInt) (hj : j.toInt = i.toInt + 6) (hm : (L : Int) ≤ i.toInt + 6 * ((m + 1 : Nat) : Int) + 5) : 0 ≤ j.toInt ∧ (L : Int) ≤ j.toInt + 6 * (m : Int) + 5 := by omega
theorem lp_b {m cb a : Nat} (h : a * (m + 1) ≤ cb) : a * m + a ≤ cb := by
  rw [Nat.mul_succ] at h
  exact h
