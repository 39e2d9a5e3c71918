/-! THE MODEL: the rest of what is asked of it, texts aside -/
theorem an_if {K : Kt} {x : XS} {t : mH} {c : Prop} [Decidable c] {r1 r2 : MO} (hK : anM K x t (if c then r1 else r2)) : (c → anM K x t r1) ∧ (¬ c → anM K x t r2) := by
  by_cases q : c
  · rw [if_pos q] at hK
    exact ⟨fun _ => hK, fun e => absurd q e⟩
  · rw [if_neg q] at hK
    exact ⟨fun e => absurd e q, fun _ => hK⟩
section MODQ
variable {P : GP} {K : Kt} {s : MS} {x : XS} {t : mH}
def m_atOnce (k a b c : Int32) (s : MS) : MO := gd (n4 k) s (rf (okV a b c) (sT 0 s) (if 9223372036854775807 / c.toInt64 < (a.toInt64 * b.toInt64) then mNo (sT 0 s) else mBecome 1 k (mFloor (mL (sT 0 s) k.toNatClampNeg) ((a.toInt64 * b.toInt64) * c.toInt64)) (sT 0 s)))
theorem M_atOnce (k a b c : Int32)  (hK : anM K x t (m_atOnce k a b c s)) : M P n_M_atOnce [.ref 5, .int k, .int a, .int b, .int c] (hm s x t) 0 0 10 K := by
  refine Mgo ok_M_atOnce 80 rfl ?_
  have hG := an_gd hK
  refine ⟨_, _, _, L_isNo _ (fun a1 => ?_) (fun a1 => ?_), by decide, by decide, by decide⟩
  · skip
    have hK := hG.1 a1
    refine ⟨_, _, _, L_start0 ?_, by decide, by decide, by decide⟩
    refine ⟨fun _ => ?_, fun e => absurd rfl e⟩
    have hR := an_rf hK
    refine ⟨_, _, _, L_areWrong _ _ _ (fun w1 => ?_) (fun w1 => ?_), by decide, by decide, by decide⟩
    · have hK := hR.1 w1
      refine ⟨_, _, _, L_mrefuse0 2 rfl ?_, by decide, by decide, by decide⟩
      refine ⟨fun _ => ?_, fun e => absurd rfl e⟩
      have g3 : ¬ c = 0 := fun e => w1.2.2 (by rw [e]; decide)
      refine ⟨nz64 g3, ?_⟩
      refine ⟨fun q => ?_, fun q => ?_⟩
      · rw [if_pos q] at hK
        refine ⟨_, _, _, L_mno ?_, by decide, by decide, by decide⟩
        exact hK
      · rw [if_neg q] at hK
        refine ⟨vp4 (n4_ok a1), ?_⟩
        refine ⟨_, _, _, L_mfloor _ _ (once_nz w1 q) ?_, by decide, by decide, by decide⟩
        refine ⟨_, _, _, L_become _ _ _ (n4_ok a1) ?_, by decide, by decide, by decide⟩
        exact hK
    · have hK := hR.2 w1
      refine ⟨_, _, _, L_mrefuse1 2 rfl (by decide) ?_, by decide, by decide, by decide⟩
      refine ⟨fun e => absurd e (by decide), fun _ => ?_⟩
      exact hK
  · skip
    have hK := hG.2 a1
    refine ⟨_, _, _, L_start1 ?_, by decide, by decide, by decide⟩
    refine ⟨fun e => absurd e (by decide), fun _ => ?_⟩
    exact hK
def m_power (r k e : Int32) (s : MS) : MO := gd (n3 r ∧ n4 k) s (rf (¬ e < 0) (sT 0 s) (mCome r k (mPowL (mMod r (sT 0 s)).toInt64 31 (mRest 1 (mMod r (sT 0 s)).toInt64) (mRes r k (sT 0 s)).toInt64 e) (sT 0 s)))
theorem M_power (r k e : Int32) (hz : ¬ (mMod r s).toInt64 = 0) (hK : anM K x t (m_power r k e s)) : M P n_M_power [.ref 5, .int r, .int k, .int e] (hm s x t) 0 0 10 K := by
  refine Mgo ok_M_power 80 rfl ?_
  have hG := an_gd hK
  refine ⟨_, _, _, L_isNoRing _ (fun a1 => ?_) (fun a1 => ?_), by decide, by decide, by decide⟩
  · refine ⟨fun _ => ?_, fun e => absurd rfl e⟩
    refine ⟨_, _, _, L_isNo _ (fun a2 => ?_) (fun a2 => ?_), by decide, by decide, by decide⟩
    · refine ⟨fun _ => ?_, fun e => absurd rfl e⟩
      have hK := hG.1 ⟨a1, a2⟩
      refine ⟨_, _, _, L_start0 ?_, by decide, by decide, by decide⟩
      refine ⟨fun _ => ?_, fun e => absurd rfl e⟩
      have hR := an_rf hK
      refine ⟨fun w1 => ?_, fun w1 => ?_⟩
      · have hK := hR.2 (fun e => e w1)
        refine ⟨_, _, _, L_mrefuse1 2 rfl (by decide) ?_, by decide, by decide, by decide⟩
        refine ⟨fun e => absurd e (by decide), fun _ => ?_⟩
        exact hK
      · have hK := hR.1 w1
        refine ⟨_, _, _, L_mrefuse0 2 rfl ?_, by decide, by decide, by decide⟩
        refine ⟨fun _ => ?_, fun e => absurd rfl e⟩
        have he := e.toInt_lt
        have he : e.toInt < 2 ^ 31 := by omega
        have hr := n3_ok a1
        rcases c3 hr with rfl | rfl | rfl
        · refine ⟨vp3 hr, ?_⟩
          refine ⟨_, _, _, L_mrest _ _ hz ?_, by decide, by decide, by decide⟩
          refine ⟨vp3 hr, fun q9 e9 => ?_, fun e9 => absurd e9 (Option.some_ne_none _)⟩
          obtain rfl := Option.some.inj e9
          refine ⟨vp4 (n4_ok a2), ?_⟩
          exact l_mpow (s := sT 0 s) hr hz (n4_ok a2) 31 _ _ _ he hK
        · refine ⟨vp3 hr, ?_⟩
          refine ⟨_, _, _, L_mrest _ _ hz ?_, by decide, by decide, by decide⟩
          refine ⟨vp3 hr, fun q9 e9 => ?_, fun e9 => absurd e9 (Option.some_ne_none _)⟩
          obtain rfl := Option.some.inj e9
          refine ⟨vp4 (n4_ok a2), ?_⟩
          exact l_mpow (s := sT 0 s) hr hz (n4_ok a2) 31 _ _ _ he hK
        · refine ⟨vp3 hr, ?_⟩
          refine ⟨_, _, _, L_mrest _ _ hz ?_, by decide, by decide, by decide⟩
          refine ⟨vp3 hr, fun q9 e9 => ?_, fun e9 => absurd e9 (Option.some_ne_none _)⟩
          obtain rfl := Option.some.inj e9
          refine ⟨vp4 (n4_ok a2), ?_⟩
          exact l_mpow (s := sT 0 s) hr hz (n4_ok a2) 31 _ _ _ he hK
    · refine ⟨fun e => absurd e (by decide), fun _ => ?_⟩
      have hK := hG.2 (fun e => a2 e.2)
      refine ⟨_, _, _, L_start1 ?_, by decide, by decide, by decide⟩
      refine ⟨fun e => absurd e (by decide), fun _ => ?_⟩
      exact hK
  · refine ⟨fun e => absurd e (by decide), fun _ => ?_⟩
    have hK := hG.2 (fun e => a1 e.1)
    refine ⟨_, _, _, L_start1 ?_, by decide, by decide, by decide⟩
    refine ⟨fun e => absurd e (by decide), fun _ => ?_⟩
    exact hK
def m_modulus (r m : Int32) (s : MS) : MO := gd (n3 r) s (rf (¬ m = 0) (sT 0 s) (mMod r (sT 0 s), mgL r 4 0 (sSetM r m (sT 0 s))))
theorem M_modulus (r m : Int32)  (hK : anM K x t (m_modulus r m s)) : M P n_M_modulus [.ref 5, .int r, .int m] (hm s x t) 0 0 10 K := by
  refine Mgo ok_M_modulus 80 rfl ?_
  have hG := an_gd hK
  refine ⟨_, _, _, L_isNoRing _ (fun a1 => ?_) (fun a1 => ?_), by decide, by decide, by decide⟩
  · skip
    have hK := hG.1 a1
    refine ⟨_, _, _, L_start0 ?_, by decide, by decide, by decide⟩
    refine ⟨fun _ => ?_, fun e => absurd rfl e⟩
    have hR := an_rf hK
    refine ⟨fun w1 => ?_, fun w1 => ?_⟩
    · have hK := hR.2 (fun e => e w1)
      refine ⟨_, _, _, L_mrefuse1 2 rfl (by decide) ?_, by decide, by decide, by decide⟩
      refine ⟨fun e => absurd e (by decide), fun _ => ?_⟩
      exact hK
    · have hK := hR.1 w1
      refine ⟨_, _, _, L_mrefuse0 2 rfl ?_, by decide, by decide, by decide⟩
      refine ⟨fun _ => ?_, fun e => absurd rfl e⟩
      have hr := n3_ok a1
      have hz : ¬ (mMod r (sSetM r m (sT 0 s))).toInt64 = 0 := by
        have e9 : mMod r (sSetM r m (sT 0 s)) = m := by
          show upd (mM (sT 0 s)) r.toNatClampNeg m r.toNatClampNeg = m
          simp [upd]
        rw [e9]
        exact nz64 w1
      refine ⟨vp3 hr, vp3 hr, ?_⟩
      exact l_mmod hr 4 0 (sSetM r m (sT 0 s)) hz (by decide) (by decide) hK
  · skip
    have hK := hG.2 a1
    refine ⟨_, _, _, L_start1 ?_, by decide, by decide, by decide⟩
    refine ⟨fun e => absurd e (by decide), fun _ => ?_⟩
    exact hK
def m_together (k r f q g : Int32) (s : MS) : MO := gd (n4 k ∧ n3 r ∧ n4 f ∧ n3 q ∧ n4 g) s (if wRem (mRest (mRes q g (sT 0 s)).toInt64 (lAbs (mMod q (sT 0 s)).toInt64) - (mRest (mRes r f (sT 0 s)).toInt64 (lAbs (mMod r (sT 0 s)).toInt64))) (mGcd (lAbs (mMod r (sT 0 s)).toInt64) (lAbs (mMod q (sT 0 s)).toInt64)) = 0 then mBecome 1 k ((mRest (mRes r f (sT 0 s)).toInt64 (lAbs (mMod r (sT 0 s)).toInt64)) + (lAbs (mMod r (sT 0 s)).toInt64) * mRest (mRest ((mRest (mRes q g (sT 0 s)).toInt64 (lAbs (mMod q (sT 0 s)).toInt64) - (mRest (mRes r f (sT 0 s)).toInt64 (lAbs (mMod r (sT 0 s)).toInt64))) / (mGcd (lAbs (mMod r (sT 0 s)).toInt64) (lAbs (mMod q (sT 0 s)).toInt64))) ((lAbs (mMod q (sT 0 s)).toInt64) / (mGcd (lAbs (mMod r (sT 0 s)).toInt64) (lAbs (mMod q (sT 0 s)).toInt64))) * mAgainst ((lAbs (mMod r (sT 0 s)).toInt64) / (mGcd (lAbs (mMod r (sT 0 s)).toInt64) (lAbs (mMod q (sT 0 s)).toInt64))) ((lAbs (mMod q (sT 0 s)).toInt64) / (mGcd (lAbs (mMod r (sT 0 s)).toInt64) (lAbs (mMod q (sT 0 s)).toInt64)))) ((lAbs (mMod q (sT 0 s)).toInt64) / (mGcd (lAbs (mMod r (sT 0 s)).toInt64) (lAbs (mMod q (sT 0 s)).toInt64)))) (sT 0 s) else mNo (sT 0 s))
theorem M_together (k r f q g : Int32) (hz : ¬ mMod r s = 0) (hz2 : ¬ mMod q s = 0) (hK : anM K x t (m_together k r f q g s)) : M P n_M_together [.ref 5, .int k, .int r, .int f, .int q, .int g] (hm s x t) 0 0 10 K := by
  refine Mgo ok_M_together 130 rfl ?_
  have hG := an_gd hK
  refine ⟨_, _, _, L_isNo _ (fun a1 => ?_) (fun a1 => ?_), by decide, by decide, by decide⟩
  · refine ⟨fun _ => ?_, fun e => absurd rfl e⟩
    refine ⟨_, _, _, L_isNoRing _ (fun a2 => ?_) (fun a2 => ?_), by decide, by decide, by decide⟩
    · refine ⟨fun _ => ?_, fun e => absurd rfl e⟩
      refine ⟨_, _, _, L_isNo _ (fun a3 => ?_) (fun a3 => ?_), by decide, by decide, by decide⟩
      · refine ⟨fun _ => ?_, fun e => absurd rfl e⟩
        refine ⟨_, _, _, L_isNoRing _ (fun a4 => ?_) (fun a4 => ?_), by decide, by decide, by decide⟩
        · refine ⟨fun _ => ?_, fun e => absurd rfl e⟩
          refine ⟨_, _, _, L_isNo _ (fun a5 => ?_) (fun a5 => ?_), by decide, by decide, by decide⟩
          · refine ⟨fun _ => ?_, fun e => absurd rfl e⟩
            have hK := hG.1 ⟨a1, a2, a3, a4, a5⟩
            refine ⟨_, _, _, L_start0 ?_, by decide, by decide, by decide⟩
            refine ⟨fun _ => ?_, fun e => absurd rfl e⟩
            have p1 := abs_m hz
            have p2 := abs_m hz2
            have pg := gcd_m p1.1 p2.1
            have ng := nz_pos pg.1
            have nr := nz_pos (div_pos pg.1 pg.2)
            have n1 := nz_pos p1.1
            have n2 := nz_pos p2.1
            have hr := n3_ok a2
            have hq := n3_ok a4
            rcases c3 hr with rfl | rfl | rfl <;> rcases c3 hq with rfl | rfl | rfl
            · refine ⟨vp3 hr, ?_⟩
              refine ⟨_, _, _, L_absJ _ _ ?_, by decide, by decide, by decide⟩
              refine ⟨vp3 hq, ?_⟩
              refine ⟨_, _, _, L_absJ _ _ ?_, by decide, by decide, by decide⟩
              refine ⟨_, _, _, L_mgcd _ _ ?_, by decide, by decide, by decide⟩
              refine ⟨vp3 hr, fun q9 e9 => ?_, fun e9 => absurd e9 (Option.some_ne_none _)⟩
              obtain rfl := Option.some.inj e9
              refine ⟨vp4 (n4_ok a3), ?_⟩
              refine ⟨_, _, _, L_mrest _ _ n1 ?_, by decide, by decide, by decide⟩
              refine ⟨vp3 hq, fun q9 e9 => ?_, fun e9 => absurd e9 (Option.some_ne_none _)⟩
              obtain rfl := Option.some.inj e9
              refine ⟨vp4 (n4_ok a5), ?_⟩
              refine ⟨_, _, _, L_mrest _ _ n2 ?_, by decide, by decide, by decide⟩
              refine ⟨ng, ?_⟩
              have hI := an_if hK
              refine ⟨fun q7 => ?_, fun q7 => ?_⟩
              · have hK := hI.1 q7
                refine ⟨ng, ng, ?_⟩
                refine ⟨_, _, _, L_mrest _ _ nr ?_, by decide, by decide, by decide⟩
                refine ⟨ng, ?_⟩
                refine ⟨_, _, _, L_magainst _ _ nr ?_, by decide, by decide, by decide⟩
                refine ⟨_, _, _, L_mrest _ _ nr ?_, by decide, by decide, by decide⟩
                refine ⟨_, _, _, L_become _ _ _ (n4_ok a1) ?_, by decide, by decide, by decide⟩
                exact hK
              · have hK := hI.2 q7
                refine ⟨_, _, _, L_mno ?_, by decide, by decide, by decide⟩
                exact hK
            · refine ⟨vp3 hr, ?_⟩
              refine ⟨_, _, _, L_absJ _ _ ?_, by decide, by decide, by decide⟩
              refine ⟨vp3 hq, ?_⟩
              refine ⟨_, _, _, L_absJ _ _ ?_, by decide, by decide, by decide⟩
              refine ⟨_, _, _, L_mgcd _ _ ?_, by decide, by decide, by decide⟩
              refine ⟨vp3 hr, fun q9 e9 => ?_, fun e9 => absurd e9 (Option.some_ne_none _)⟩
              obtain rfl := Option.some.inj e9
              refine ⟨vp4 (n4_ok a3), ?_⟩
              refine ⟨_, _, _, L_mrest _ _ n1 ?_, by decide, by decide, by decide⟩
              refine ⟨vp3 hq, fun q9 e9 => ?_, fun e9 => absurd e9 (Option.some_ne_none _)⟩
              obtain rfl := Option.some.inj e9
              refine ⟨vp4 (n4_ok a5), ?_⟩
              refine ⟨_, _, _, L_mrest _ _ n2 ?_, by decide, by decide, by decide⟩
              refine ⟨ng, ?_⟩
              have hI := an_if hK
              refine ⟨fun q7 => ?_, fun q7 => ?_⟩
              · have hK := hI.1 q7
                refine ⟨ng, ng, ?_⟩
                refine ⟨_, _, _, L_mrest _ _ nr ?_, by decide, by decide, by decide⟩
                refine ⟨ng, ?_⟩
                refine ⟨_, _, _, L_magainst _ _ nr ?_, by decide, by decide, by decide⟩
                refine ⟨_, _, _, L_mrest _ _ nr ?_, by decide, by decide, by decide⟩
                refine ⟨_, _, _, L_become _ _ _ (n4_ok a1) ?_, by decide, by decide, by decide⟩
                exact hK
              · have hK := hI.2 q7
                refine ⟨_, _, _, L_mno ?_, by decide, by decide, by decide⟩
                exact hK
            · refine ⟨vp3 hr, ?_⟩
              refine ⟨_, _, _, L_absJ _ _ ?_, by decide, by decide, by decide⟩
              refine ⟨vp3 hq, ?_⟩
              refine ⟨_, _, _, L_absJ _ _ ?_, by decide, by decide, by decide⟩
              refine ⟨_, _, _, L_mgcd _ _ ?_, by decide, by decide, by decide⟩
              refine ⟨vp3 hr, fun q9 e9 => ?_, fun e9 => absurd e9 (Option.some_ne_none _)⟩
              obtain rfl := Option.some.inj e9
              refine ⟨vp4 (n4_ok a3), ?_⟩
              refine ⟨_, _, _, L_mrest _ _ n1 ?_, by decide, by decide, by decide⟩
              refine ⟨vp3 hq, fun q9 e9 => ?_, fun e9 => absurd e9 (Option.some_ne_none _)⟩
              obtain rfl := Option.some.inj e9
              refine ⟨vp4 (n4_ok a5), ?_⟩
              refine ⟨_, _, _, L_mrest _ _ n2 ?_, by decide, by decide, by decide⟩
              refine ⟨ng, ?_⟩
              have hI := an_if hK
              refine ⟨fun q7 => ?_, fun q7 => ?_⟩
              · have hK := hI.1 q7
                refine ⟨ng, ng, ?_⟩
                refine ⟨_, _, _, L_mrest _ _ nr ?_, by decide, by decide, by decide⟩
                refine ⟨ng, ?_⟩
                refine ⟨_, _, _, L_magainst _ _ nr ?_, by decide, by decide, by decide⟩
                refine ⟨_, _, _, L_mrest _ _ nr ?_, by decide, by decide, by decide⟩
                refine ⟨_, _, _, L_become _ _ _ (n4_ok a1) ?_, by decide, by decide, by decide⟩
                exact hK
              · have hK := hI.2 q7
                refine ⟨_, _, _, L_mno ?_, by decide, by decide, by decide⟩
                exact hK
            · refine ⟨vp3 hr, ?_⟩
              refine ⟨_, _, _, L_absJ _ _ ?_, by decide, by decide, by decide⟩
              refine ⟨vp3 hq, ?_⟩
              refine ⟨_, _, _, L_absJ _ _ ?_, by decide, by decide, by decide⟩
              refine ⟨_, _, _, L_mgcd _ _ ?_, by decide, by decide, by decide⟩
              refine ⟨vp3 hr, fun q9 e9 => ?_, fun e9 => absurd e9 (Option.some_ne_none _)⟩
              obtain rfl := Option.some.inj e9
              refine ⟨vp4 (n4_ok a3), ?_⟩
              refine ⟨_, _, _, L_mrest _ _ n1 ?_, by decide, by decide, by decide⟩
              refine ⟨vp3 hq, fun q9 e9 => ?_, fun e9 => absurd e9 (Option.some_ne_none _)⟩
              obtain rfl := Option.some.inj e9
              refine ⟨vp4 (n4_ok a5), ?_⟩
              refine ⟨_, _, _, L_mrest _ _ n2 ?_, by decide, by decide, by decide⟩
              refine ⟨ng, ?_⟩
              have hI := an_if hK
              refine ⟨fun q7 => ?_, fun q7 => ?_⟩
              · have hK := hI.1 q7
                refine ⟨ng, ng, ?_⟩
                refine ⟨_, _, _, L_mrest _ _ nr ?_, by decide, by decide, by decide⟩
                refine ⟨ng, ?_⟩
                refine ⟨_, _, _, L_magainst _ _ nr ?_, by decide, by decide, by decide⟩
                refine ⟨_, _, _, L_mrest _ _ nr ?_, by decide, by decide, by decide⟩
                refine ⟨_, _, _, L_become _ _ _ (n4_ok a1) ?_, by decide, by decide, by decide⟩
                exact hK
              · have hK := hI.2 q7
                refine ⟨_, _, _, L_mno ?_, by decide, by decide, by decide⟩
                exact hK
            · refine ⟨vp3 hr, ?_⟩
              refine ⟨_, _, _, L_absJ _ _ ?_, by decide, by decide, by decide⟩
              refine ⟨vp3 hq, ?_⟩
              refine ⟨_, _, _, L_absJ _ _ ?_, by decide, by decide, by decide⟩
              refine ⟨_, _, _, L_mgcd _ _ ?_, by decide, by decide, by decide⟩
              refine ⟨vp3 hr, fun q9 e9 => ?_, fun e9 => absurd e9 (Option.some_ne_none _)⟩
              obtain rfl := Option.some.inj e9
              refine ⟨vp4 (n4_ok a3), ?_⟩
              refine ⟨_, _, _, L_mrest _ _ n1 ?_, by decide, by decide, by decide⟩
              refine ⟨vp3 hq, fun q9 e9 => ?_, fun e9 => absurd e9 (Option.some_ne_none _)⟩
              obtain rfl := Option.some.inj e9
              refine ⟨vp4 (n4_ok a5), ?_⟩
              refine ⟨_, _, _, L_mrest _ _ n2 ?_, by decide, by decide, by decide⟩
              refine ⟨ng, ?_⟩
              have hI := an_if hK
              refine ⟨fun q7 => ?_, fun q7 => ?_⟩
              · have hK := hI.1 q7
                refine ⟨ng, ng, ?_⟩
                refine ⟨_, _, _, L_mrest _ _ nr ?_, by decide, by decide, by decide⟩
                refine ⟨ng, ?_⟩
                refine ⟨_, _, _, L_magainst _ _ nr ?_, by decide, by decide, by decide⟩
                refine ⟨_, _, _, L_mrest _ _ nr ?_, by decide, by decide, by decide⟩
                refine ⟨_, _, _, L_become _ _ _ (n4_ok a1) ?_, by decide, by decide, by decide⟩
                exact hK
              · have hK := hI.2 q7
                refine ⟨_, _, _, L_mno ?_, by decide, by decide, by decide⟩
                exact hK
            · refine ⟨vp3 hr, ?_⟩
              refine ⟨_, _, _, L_absJ _ _ ?_, by decide, by decide, by decide⟩
              refine ⟨vp3 hq, ?_⟩
              refine ⟨_, _, _, L_absJ _ _ ?_, by decide, by decide, by decide⟩
              refine ⟨_, _, _, L_mgcd _ _ ?_, by decide, by decide, by decide⟩
              refine ⟨vp3 hr, fun q9 e9 => ?_, fun e9 => absurd e9 (Option.some_ne_none _)⟩
              obtain rfl := Option.some.inj e9
              refine ⟨vp4 (n4_ok a3), ?_⟩
              refine ⟨_, _, _, L_mrest _ _ n1 ?_, by decide, by decide, by decide⟩
              refine ⟨vp3 hq, fun q9 e9 => ?_, fun e9 => absurd e9 (Option.some_ne_none _)⟩
              obtain rfl := Option.some.inj e9
              refine ⟨vp4 (n4_ok a5), ?_⟩
              refine ⟨_, _, _, L_mrest _ _ n2 ?_, by decide, by decide, by decide⟩
              refine ⟨ng, ?_⟩
              have hI := an_if hK
              refine ⟨fun q7 => ?_, fun q7 => ?_⟩
              · have hK := hI.1 q7
                refine ⟨ng, ng, ?_⟩
                refine ⟨_, _, _, L_mrest _ _ nr ?_, by decide, by decide, by decide⟩
                refine ⟨ng, ?_⟩
                refine ⟨_, _, _, L_magainst _ _ nr ?_, by decide, by decide, by decide⟩
                refine ⟨_, _, _, L_mrest _ _ nr ?_, by decide, by decide, by decide⟩
                refine ⟨_, _, _, L_become _ _ _ (n4_ok a1) ?_, by decide, by decide, by decide⟩
                exact hK
              · have hK := hI.2 q7
                refine ⟨_, _, _, L_mno ?_, by decide, by decide, by decide⟩
                exact hK
            · refine ⟨vp3 hr, ?_⟩
              refine ⟨_, _, _, L_absJ _ _ ?_, by decide, by decide, by decide⟩
              refine ⟨vp3 hq, ?_⟩
              refine ⟨_, _, _, L_absJ _ _ ?_, by decide, by decide, by decide⟩
              refine ⟨_, _, _, L_mgcd _ _ ?_, by decide, by decide, by decide⟩
              refine ⟨vp3 hr, fun q9 e9 => ?_, fun e9 => absurd e9 (Option.some_ne_none _)⟩
              obtain rfl := Option.some.inj e9
              refine ⟨vp4 (n4_ok a3), ?_⟩
              refine ⟨_, _, _, L_mrest _ _ n1 ?_, by decide, by decide, by decide⟩
              refine ⟨vp3 hq, fun q9 e9 => ?_, fun e9 => absurd e9 (Option.some_ne_none _)⟩
              obtain rfl := Option.some.inj e9
              refine ⟨vp4 (n4_ok a5), ?_⟩
              refine ⟨_, _, _, L_mrest _ _ n2 ?_, by decide, by decide, by decide⟩
              refine ⟨ng, ?_⟩
              have hI := an_if hK
              refine ⟨fun q7 => ?_, fun q7 => ?_⟩
              · have hK := hI.1 q7
                refine ⟨ng, ng, ?_⟩
                refine ⟨_, _, _, L_mrest _ _ nr ?_, by decide, by decide, by decide⟩
                refine ⟨ng, ?_⟩
                refine ⟨_, _, _, L_magainst _ _ nr ?_, by decide, by decide, by decide⟩
                refine ⟨_, _, _, L_mrest _ _ nr ?_, by decide, by decide, by decide⟩
                refine ⟨_, _, _, L_become _ _ _ (n4_ok a1) ?_, by decide, by decide, by decide⟩
                exact hK
              · have hK := hI.2 q7
                refine ⟨_, _, _, L_mno ?_, by decide, by decide, by decide⟩
                exact hK
            · refine ⟨vp3 hr, ?_⟩
              refine ⟨_, _, _, L_absJ _ _ ?_, by decide, by decide, by decide⟩
              refine ⟨vp3 hq, ?_⟩
              refine ⟨_, _, _, L_absJ _ _ ?_, by decide, by decide, by decide⟩
              refine ⟨_, _, _, L_mgcd _ _ ?_, by decide, by decide, by decide⟩
              refine ⟨vp3 hr, fun q9 e9 => ?_, fun e9 => absurd e9 (Option.some_ne_none _)⟩
              obtain rfl := Option.some.inj e9
              refine ⟨vp4 (n4_ok a3), ?_⟩
              refine ⟨_, _, _, L_mrest _ _ n1 ?_, by decide, by decide, by decide⟩
              refine ⟨vp3 hq, fun q9 e9 => ?_, fun e9 => absurd e9 (Option.some_ne_none _)⟩
              obtain rfl := Option.some.inj e9
              refine ⟨vp4 (n4_ok a5), ?_⟩
              refine ⟨_, _, _, L_mrest _ _ n2 ?_, by decide, by decide, by decide⟩
              refine ⟨ng, ?_⟩
              have hI := an_if hK
              refine ⟨fun q7 => ?_, fun q7 => ?_⟩
              · have hK := hI.1 q7
                refine ⟨ng, ng, ?_⟩
                refine ⟨_, _, _, L_mrest _ _ nr ?_, by decide, by decide, by decide⟩
                refine ⟨ng, ?_⟩
                refine ⟨_, _, _, L_magainst _ _ nr ?_, by decide, by decide, by decide⟩
                refine ⟨_, _, _, L_mrest _ _ nr ?_, by decide, by decide, by decide⟩
                refine ⟨_, _, _, L_become _ _ _ (n4_ok a1) ?_, by decide, by decide, by decide⟩
                exact hK
              · have hK := hI.2 q7
                refine ⟨_, _, _, L_mno ?_, by decide, by decide, by decide⟩
                exact hK
            · refine ⟨vp3 hr, ?_⟩
              refine ⟨_, _, _, L_absJ _ _ ?_, by decide, by decide, by decide⟩
              refine ⟨vp3 hq, ?_⟩
              refine ⟨_, _, _, L_absJ _ _ ?_, by decide, by decide, by decide⟩
              refine ⟨_, _, _, L_mgcd _ _ ?_, by decide, by decide, by decide⟩
              refine ⟨vp3 hr, fun q9 e9 => ?_, fun e9 => absurd e9 (Option.some_ne_none _)⟩
              obtain rfl := Option.some.inj e9
              refine ⟨vp4 (n4_ok a3), ?_⟩
              refine ⟨_, _, _, L_mrest _ _ n1 ?_, by decide, by decide, by decide⟩
              refine ⟨vp3 hq, fun q9 e9 => ?_, fun e9 => absurd e9 (Option.some_ne_none _)⟩
              obtain rfl := Option.some.inj e9
              refine ⟨vp4 (n4_ok a5), ?_⟩
              refine ⟨_, _, _, L_mrest _ _ n2 ?_, by decide, by decide, by decide⟩
              refine ⟨ng, ?_⟩
              have hI := an_if hK
              refine ⟨fun q7 => ?_, fun q7 => ?_⟩
              · have hK := hI.1 q7
                refine ⟨ng, ng, ?_⟩
                refine ⟨_, _, _, L_mrest _ _ nr ?_, by decide, by decide, by decide⟩
                refine ⟨ng, ?_⟩
                refine ⟨_, _, _, L_magainst _ _ nr ?_, by decide, by decide, by decide⟩
                refine ⟨_, _, _, L_mrest _ _ nr ?_, by decide, by decide, by decide⟩
                refine ⟨_, _, _, L_become _ _ _ (n4_ok a1) ?_, by decide, by decide, by decide⟩
                exact hK
              · have hK := hI.2 q7
                refine ⟨_, _, _, L_mno ?_, by decide, by decide, by decide⟩
                exact hK
          · refine ⟨fun e => absurd e (by decide), fun _ => ?_⟩
            have hK := hG.2 (fun e => a5 e.2.2.2.2)
            refine ⟨_, _, _, L_start1 ?_, by decide, by decide, by decide⟩
            refine ⟨fun e => absurd e (by decide), fun _ => ?_⟩
            exact hK
        · refine ⟨fun e => absurd e (by decide), fun _ => ?_⟩
          have hK := hG.2 (fun e => a4 e.2.2.2.1)
          refine ⟨_, _, _, L_start1 ?_, by decide, by decide, by decide⟩
          refine ⟨fun e => absurd e (by decide), fun _ => ?_⟩
          exact hK
      · refine ⟨fun e => absurd e (by decide), fun _ => ?_⟩
        have hK := hG.2 (fun e => a3 e.2.2.1)
        refine ⟨_, _, _, L_start1 ?_, by decide, by decide, by decide⟩
        refine ⟨fun e => absurd e (by decide), fun _ => ?_⟩
        exact hK
    · refine ⟨fun e => absurd e (by decide), fun _ => ?_⟩
      have hK := hG.2 (fun e => a2 e.2.1)
      refine ⟨_, _, _, L_start1 ?_, by decide, by decide, by decide⟩
      refine ⟨fun e => absurd e (by decide), fun _ => ?_⟩
      exact hK
  · refine ⟨fun e => absurd e (by decide), fun _ => ?_⟩
    have hK := hG.2 (fun e => a1 e.1)
    refine ⟨_, _, _, L_start1 ?_, by decide, by decide, by decide⟩
    refine ⟨fun e => absurd e (by decide), fun _ => ?_⟩
    exact hK
end MODQ
