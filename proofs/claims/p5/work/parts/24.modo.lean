/-! THE MODEL: what is asked of it -/
def gd (c : Prop) [Decidable c] (s : MS) (r : MO) : MO := if c then r else (0, sT 1 s)
def rf (c : Prop) [Decidable c] (s : MS) (r : MO) : MO := if c then r else (0, sT 2 s)
theorem an_gd {K : Kt} {x : XS} {t : mH} {c : Prop} [Decidable c] {s : MS} {r : MO} (hK : anM K x t (gd c s r)) : (c → anM K x t r) ∧ (¬ c → anM K x t (0, sT 1 s)) := by
  unfold gd at hK
  by_cases q : c
  · rw [if_pos q] at hK
    exact ⟨fun _ => hK, fun e => absurd q e⟩
  · rw [if_neg q] at hK
    exact ⟨fun e => absurd e q, fun _ => hK⟩
theorem an_rf {K : Kt} {x : XS} {t : mH} {c : Prop} [Decidable c] {s : MS} {r : MO} (hK : anM K x t (rf c s r)) : (c → anM K x t r) ∧ (¬ c → anM K x t (0, sT 2 s)) := by
  unfold rf at hK
  by_cases q : c
  · rw [if_pos q] at hK
    exact ⟨fun _ => hK, fun e => absurd q e⟩
  · rw [if_neg q] at hK
    exact ⟨fun e => absurd e q, fun _ => hK⟩
theorem nz64 {m : Int32} (h : ¬ m = 0) : ¬ m.toInt64 = 0 := fun e => h (by
  have := congrArg Int64.toInt e
  rw [Int32.toInt_toInt64] at this
  exact Int32.toInt_inj.mp (this.trans (by decide)))
section MODO
variable {P : GP} {K : Kt} {s : MS} {x : XS} {t : mH}
def m_put (l k hi lo : Int32) (s : MS) : MO := gd (n4 k) s (mBecome l k (if l = 0 then lo.toInt64 else hi.toInt64 * 4294967296 + (if lo < 0 then lo.toInt64 + 4294967296 else lo.toInt64)) (sT 0 s))
theorem M_put (l k hi lo : Int32)  (hK : anM K x t (m_put l k hi lo s)) : M P n_M_put [.ref 5, .int l, .int k, .int hi, .int lo] (hm s x t) 0 0 10 K := by
  refine Mgo ok_M_put 80 rfl ?_
  have hG := an_gd hK
  refine ⟨_, _, _, L_isNo _ (fun a1 => ?_) (fun a1 => ?_), by decide, by decide, by decide⟩
  · skip
    have hK := hG.1 a1
    refine ⟨_, _, _, L_start0 ?_, by decide, by decide, by decide⟩
    refine ⟨fun _ => ?_, fun e => absurd rfl e⟩
    refine ⟨fun q => ?_, fun q => ?_⟩
    · rw [if_pos q] at hK
      refine ⟨_, _, _, L_become _ _ _ (n4_ok a1) ?_, by decide, by decide, by decide⟩
      exact hK
    · rw [if_neg q] at hK
      refine ⟨fun q2 => ?_, fun q2 => ?_⟩
      · rw [if_pos q2] at hK
        refine ⟨_, _, _, L_become _ _ _ (n4_ok a1) ?_, by decide, by decide, by decide⟩
        exact hK
      · rw [if_neg q2] at hK
        refine ⟨_, _, _, L_become _ _ _ (n4_ok a1) ?_, by decide, by decide, by decide⟩
        exact hK
  · skip
    have hK := hG.2 a1
    refine ⟨_, _, _, L_start1 ?_, by decide, by decide, by decide⟩
    refine ⟨fun e => absurd e (by decide), fun _ => ?_⟩
    exact hK
def m_copy (l k f : Int32) (s : MS) : MO := gd (n4 k ∧ n4 f) s (mBecome l k (mNow l f (sT 0 s)) (sT 0 s))
theorem M_copy (l k f : Int32)  (hK : anM K x t (m_copy l k f s)) : M P n_M_copy [.ref 5, .int l, .int k, .int f] (hm s x t) 0 0 10 K := by
  refine Mgo ok_M_copy 80 rfl ?_
  have hG := an_gd hK
  refine ⟨_, _, _, L_isNo _ (fun a1 => ?_) (fun a1 => ?_), by decide, by decide, by decide⟩
  · refine ⟨fun _ => ?_, fun e => absurd rfl e⟩
    refine ⟨_, _, _, L_isNo _ (fun a2 => ?_) (fun a2 => ?_), by decide, by decide, by decide⟩
    · refine ⟨fun _ => ?_, fun e => absurd rfl e⟩
      have hK := hG.1 ⟨a1, a2⟩
      refine ⟨_, _, _, L_start0 ?_, by decide, by decide, by decide⟩
      refine ⟨fun _ => ?_, fun e => absurd rfl e⟩
      refine ⟨_, _, _, L_now _ _ (n4_ok a2) ?_, by decide, by decide, by decide⟩
      refine ⟨_, _, _, L_become _ _ _ (n4_ok a1) ?_, by decide, by decide, by decide⟩
      exact hK
    · refine ⟨fun e => absurd e (by decide), fun _ => ?_⟩
      have hK := hG.2 (fun e => a2 e.2)
      refine ⟨_, _, _, L_start1 ?_, by decide, by decide, by decide⟩
      refine ⟨fun e => absurd e (by decide), fun _ => ?_⟩
      exact hK
  · refine ⟨fun e => absurd e (by decide), fun _ => ?_⟩
    have hK := hG.2 (fun e => a1 e.1)
    refine ⟨_, _, _, L_start1 ?_, by decide, by decide, by decide⟩
    refine ⟨fun e => absurd e (by decide), fun _ => ?_⟩
    exact hK
def m_widen (k f : Int32) (s : MS) : MO := gd (n4 k ∧ n4 f) s (mBecome 1 k (mI (sT 0 s) f.toNatClampNeg) (sT 0 s))
theorem M_widen (k f : Int32)  (hK : anM K x t (m_widen k f s)) : M P n_M_widen [.ref 5, .int k, .int f] (hm s x t) 0 0 10 K := by
  refine Mgo ok_M_widen 80 rfl ?_
  have hG := an_gd hK
  refine ⟨_, _, _, L_isNo _ (fun a1 => ?_) (fun a1 => ?_), by decide, by decide, by decide⟩
  · refine ⟨fun _ => ?_, fun e => absurd rfl e⟩
    refine ⟨_, _, _, L_isNo _ (fun a2 => ?_) (fun a2 => ?_), by decide, by decide, by decide⟩
    · refine ⟨fun _ => ?_, fun e => absurd rfl e⟩
      have hK := hG.1 ⟨a1, a2⟩
      refine ⟨_, _, _, L_start0 ?_, by decide, by decide, by decide⟩
      refine ⟨fun _ => ?_, fun e => absurd rfl e⟩
      refine ⟨vp4 (n4_ok a2), ?_⟩
      refine ⟨_, _, _, L_become _ _ _ (n4_ok a1) ?_, by decide, by decide, by decide⟩
      exact hK
    · refine ⟨fun e => absurd e (by decide), fun _ => ?_⟩
      have hK := hG.2 (fun e => a2 e.2)
      refine ⟨_, _, _, L_start1 ?_, by decide, by decide, by decide⟩
      refine ⟨fun e => absurd e (by decide), fun _ => ?_⟩
      exact hK
  · refine ⟨fun e => absurd e (by decide), fun _ => ?_⟩
    have hK := hG.2 (fun e => a1 e.1)
    refine ⟨_, _, _, L_start1 ?_, by decide, by decide, by decide⟩
    refine ⟨fun e => absurd e (by decide), fun _ => ?_⟩
    exact hK
def m_narrow (k f : Int32) (s : MS) : MO := gd (n4 k ∧ n4 f) s (if (mL (sT 0 s) f.toNatClampNeg) = (mL (sT 0 s) f.toNatClampNeg).toInt32.toInt64 then mBecome 0 k (mL (sT 0 s) f.toNatClampNeg) (sT 0 s) else mNo (sT 0 s))
theorem M_narrow (k f : Int32)  (hK : anM K x t (m_narrow k f s)) : M P n_M_narrow [.ref 5, .int k, .int f] (hm s x t) 0 0 10 K := by
  refine Mgo ok_M_narrow 80 rfl ?_
  have hG := an_gd hK
  refine ⟨_, _, _, L_isNo _ (fun a1 => ?_) (fun a1 => ?_), by decide, by decide, by decide⟩
  · refine ⟨fun _ => ?_, fun e => absurd rfl e⟩
    refine ⟨_, _, _, L_isNo _ (fun a2 => ?_) (fun a2 => ?_), by decide, by decide, by decide⟩
    · refine ⟨fun _ => ?_, fun e => absurd rfl e⟩
      have hK := hG.1 ⟨a1, a2⟩
      refine ⟨_, _, _, L_start0 ?_, by decide, by decide, by decide⟩
      refine ⟨fun _ => ?_, fun e => absurd rfl e⟩
      refine ⟨vp4 (n4_ok a2), vp4 (n4_ok a2), ?_⟩
      refine ⟨fun q => ?_, fun q => ?_⟩
      · rw [if_pos q] at hK
        refine ⟨vp4 (n4_ok a2), ?_⟩
        refine ⟨_, _, _, L_become _ _ _ (n4_ok a1) ?_, by decide, by decide, by decide⟩
        exact hK
      · rw [if_neg q] at hK
        refine ⟨_, _, _, L_mno ?_, by decide, by decide, by decide⟩
        exact hK
    · refine ⟨fun e => absurd e (by decide), fun _ => ?_⟩
      have hK := hG.2 (fun e => a2 e.2)
      refine ⟨_, _, _, L_start1 ?_, by decide, by decide, by decide⟩
      refine ⟨fun e => absurd e (by decide), fun _ => ?_⟩
      exact hK
  · refine ⟨fun e => absurd e (by decide), fun _ => ?_⟩
    have hK := hG.2 (fun e => a1 e.1)
    refine ⟨_, _, _, L_start1 ?_, by decide, by decide, by decide⟩
    refine ⟨fun e => absurd e (by decide), fun _ => ?_⟩
    exact hK
def m_exact (l k f w : Int32) (s : MS) : MO := gd (n4 k ∧ n4 f) s (rf (okC w 2) (sT 0 s) (if mWithin l (mNow l k (sT 0 s)) (mNow l f (sT 0 s)) w = 0 then mNo (sT 0 s) else mBecome l k (wJoin (mNow l k (sT 0 s)) (mNow l f (sT 0 s)) w) (sT 0 s)))
theorem M_exact (l k f w : Int32)  (hK : anM K x t (m_exact l k f w s)) : M P n_M_exact [.ref 5, .int l, .int k, .int f, .int w] (hm s x t) 0 0 10 K := by
  refine Mgo ok_M_exact 80 rfl ?_
  have hG := an_gd hK
  refine ⟨_, _, _, L_isNo _ (fun a1 => ?_) (fun a1 => ?_), by decide, by decide, by decide⟩
  · refine ⟨fun _ => ?_, fun e => absurd rfl e⟩
    refine ⟨_, _, _, L_isNo _ (fun a2 => ?_) (fun a2 => ?_), by decide, by decide, by decide⟩
    · refine ⟨fun _ => ?_, fun e => absurd rfl e⟩
      have hK := hG.1 ⟨a1, a2⟩
      refine ⟨_, _, _, L_start0 ?_, by decide, by decide, by decide⟩
      refine ⟨fun _ => ?_, fun e => absurd rfl e⟩
      have hR := an_rf hK
      refine ⟨fun w1 => ?_, fun w1 => ?_⟩
      · have hK := hR.2 (fun e => e.1 w1)
        refine ⟨_, _, _, L_mrefuse1 2 rfl (by decide) ?_, by decide, by decide, by decide⟩
        refine ⟨fun e => absurd e (by decide), fun _ => ?_⟩
        exact hK
      · refine ⟨fun w2 => ?_, fun w2 => ?_⟩
        · have hK := hR.2 (fun e => e.2 w2)
          refine ⟨_, _, _, L_mrefuse1 2 rfl (by decide) ?_, by decide, by decide, by decide⟩
          refine ⟨fun e => absurd e (by decide), fun _ => ?_⟩
          exact hK
        · have hK := hR.1 ⟨w1, w2⟩
          refine ⟨_, _, _, L_mrefuse0 2 rfl ?_, by decide, by decide, by decide⟩
          refine ⟨fun _ => ?_, fun e => absurd rfl e⟩
          refine ⟨_, _, _, L_now _ _ (n4_ok a1) ?_, by decide, by decide, by decide⟩
          refine ⟨_, _, _, L_now _ _ (n4_ok a2) ?_, by decide, by decide, by decide⟩
          refine ⟨_, _, _, L_mwithin _ _ _ _ ?_, by decide, by decide, by decide⟩
          refine ⟨fun q => ?_, fun q => ?_⟩
          · rw [if_pos q] at hK
            refine ⟨_, _, _, L_mno ?_, by decide, by decide, by decide⟩
            exact hK
          · rw [if_neg q] at hK
            refine ⟨_, _, _, L_both _ _ _ ?_, by decide, by decide, by decide⟩
            refine ⟨_, _, _, L_become _ _ _ (n4_ok a1) ?_, by decide, by decide, by decide⟩
            exact hK
    · refine ⟨fun e => absurd e (by decide), fun _ => ?_⟩
      have hK := hG.2 (fun e => a2 e.2)
      refine ⟨_, _, _, L_start1 ?_, by decide, by decide, by decide⟩
      refine ⟨fun e => absurd e (by decide), fun _ => ?_⟩
      exact hK
  · refine ⟨fun e => absurd e (by decide), fun _ => ?_⟩
    have hK := hG.2 (fun e => a1 e.1)
    refine ⟨_, _, _, L_start1 ?_, by decide, by decide, by decide⟩
    refine ⟨fun e => absurd e (by decide), fun _ => ?_⟩
    exact hK
def m_fits (l k f w : Int32) (s : MS) : MO := gd (n4 k ∧ n4 f) s (rf (okC w 2) (sT 0 s) (if mWithin l (mNow l k (sT 0 s)) (mNow l f (sT 0 s)) w = 0 then 0 else 1, sT 0 s))
theorem M_fits (l k f w : Int32)  (hK : anM K x t (m_fits l k f w s)) : M P n_M_fits [.ref 5, .int l, .int k, .int f, .int w] (hm s x t) 0 0 10 K := by
  refine Mgo ok_M_fits 80 rfl ?_
  have hG := an_gd hK
  refine ⟨_, _, _, L_isNo _ (fun a1 => ?_) (fun a1 => ?_), by decide, by decide, by decide⟩
  · refine ⟨fun _ => ?_, fun e => absurd rfl e⟩
    refine ⟨_, _, _, L_isNo _ (fun a2 => ?_) (fun a2 => ?_), by decide, by decide, by decide⟩
    · refine ⟨fun _ => ?_, fun e => absurd rfl e⟩
      have hK := hG.1 ⟨a1, a2⟩
      refine ⟨_, _, _, L_start0 ?_, by decide, by decide, by decide⟩
      refine ⟨fun _ => ?_, fun e => absurd rfl e⟩
      have hR := an_rf hK
      refine ⟨fun w1 => ?_, fun w1 => ?_⟩
      · have hK := hR.2 (fun e => e.1 w1)
        refine ⟨_, _, _, L_mrefuse1 2 rfl (by decide) ?_, by decide, by decide, by decide⟩
        refine ⟨fun e => absurd e (by decide), fun _ => ?_⟩
        exact ⟨rfl, hK⟩
      · refine ⟨fun w2 => ?_, fun w2 => ?_⟩
        · have hK := hR.2 (fun e => e.2 w2)
          refine ⟨_, _, _, L_mrefuse1 2 rfl (by decide) ?_, by decide, by decide, by decide⟩
          refine ⟨fun e => absurd e (by decide), fun _ => ?_⟩
          exact ⟨rfl, hK⟩
        · have hK := hR.1 ⟨w1, w2⟩
          refine ⟨_, _, _, L_mrefuse0 2 rfl ?_, by decide, by decide, by decide⟩
          refine ⟨fun _ => ?_, fun e => absurd rfl e⟩
          refine ⟨_, _, _, L_now _ _ (n4_ok a1) ?_, by decide, by decide, by decide⟩
          refine ⟨_, _, _, L_now _ _ (n4_ok a2) ?_, by decide, by decide, by decide⟩
          refine ⟨_, _, _, L_mwithin _ _ _ _ ?_, by decide, by decide, by decide⟩
          refine ⟨fun q => ?_, fun q => ?_⟩
          · rw [if_pos q] at hK
            exact ⟨rfl, hK⟩
          · rw [if_neg q] at hK
            exact ⟨rfl, hK⟩
    · refine ⟨fun e => absurd e (by decide), fun _ => ?_⟩
      have hK := hG.2 (fun e => a2 e.2)
      refine ⟨_, _, _, L_start1 ?_, by decide, by decide, by decide⟩
      refine ⟨fun e => absurd e (by decide), fun _ => ?_⟩
      exact ⟨rfl, hK⟩
  · refine ⟨fun e => absurd e (by decide), fun _ => ?_⟩
    have hK := hG.2 (fun e => a1 e.1)
    refine ⟨_, _, _, L_start1 ?_, by decide, by decide, by decide⟩
    refine ⟨fun e => absurd e (by decide), fun _ => ?_⟩
    exact ⟨rfl, hK⟩
def m_alone (l k w : Int32) (s : MS) : MO := gd (n4 k) s (rf (okC w 2) (sT 0 s) (if w = 2 then (if mWithin l 0 (mNow l k (sT 0 s)) 1 = 0 then mNo (sT 0 s) else mBecome l k (-(mNow l k (sT 0 s))) (sT 0 s)) else (if mWithin l (mNow l k (sT 0 s)) 1 w = 0 then mNo (sT 0 s) else mBecome l k (wJoin (mNow l k (sT 0 s)) 1 w) (sT 0 s))))
theorem M_alone (l k w : Int32)  (hK : anM K x t (m_alone l k w s)) : M P n_M_alone [.ref 5, .int l, .int k, .int w] (hm s x t) 0 0 10 K := by
  refine Mgo ok_M_alone 80 rfl ?_
  have hG := an_gd hK
  refine ⟨_, _, _, L_isNo _ (fun a1 => ?_) (fun a1 => ?_), by decide, by decide, by decide⟩
  · skip
    have hK := hG.1 a1
    refine ⟨_, _, _, L_start0 ?_, by decide, by decide, by decide⟩
    refine ⟨fun _ => ?_, fun e => absurd rfl e⟩
    have hR := an_rf hK
    refine ⟨fun w1 => ?_, fun w1 => ?_⟩
    · have hK := hR.2 (fun e => e.1 w1)
      refine ⟨_, _, _, L_mrefuse1 2 rfl (by decide) ?_, by decide, by decide, by decide⟩
      refine ⟨fun e => absurd e (by decide), fun _ => ?_⟩
      exact hK
    · refine ⟨fun w2 => ?_, fun w2 => ?_⟩
      · have hK := hR.2 (fun e => e.2 w2)
        refine ⟨_, _, _, L_mrefuse1 2 rfl (by decide) ?_, by decide, by decide, by decide⟩
        refine ⟨fun e => absurd e (by decide), fun _ => ?_⟩
        exact hK
      · have hK := hR.1 ⟨w1, w2⟩
        refine ⟨_, _, _, L_mrefuse0 2 rfl ?_, by decide, by decide, by decide⟩
        refine ⟨fun _ => ?_, fun e => absurd rfl e⟩
        refine ⟨_, _, _, L_now _ _ (n4_ok a1) ?_, by decide, by decide, by decide⟩
        refine ⟨fun q => ?_, fun q => ?_⟩
        · rw [if_pos q] at hK
          refine ⟨_, _, _, L_mwithin _ _ _ _ ?_, by decide, by decide, by decide⟩
          refine ⟨fun q2 => ?_, fun q2 => ?_⟩
          · rw [if_pos q2] at hK
            refine ⟨_, _, _, L_mno ?_, by decide, by decide, by decide⟩
            exact hK
          · rw [if_neg q2] at hK
            refine ⟨_, _, _, L_become _ _ _ (n4_ok a1) ?_, by decide, by decide, by decide⟩
            exact hK
        · rw [if_neg q] at hK
          refine ⟨_, _, _, L_mwithin _ _ _ _ ?_, by decide, by decide, by decide⟩
          refine ⟨fun q2 => ?_, fun q2 => ?_⟩
          · rw [if_pos q2] at hK
            refine ⟨_, _, _, L_mno ?_, by decide, by decide, by decide⟩
            exact hK
          · rw [if_neg q2] at hK
            refine ⟨_, _, _, L_both _ _ _ ?_, by decide, by decide, by decide⟩
            refine ⟨_, _, _, L_become _ _ _ (n4_ok a1) ?_, by decide, by decide, by decide⟩
            exact hK
  · skip
    have hK := hG.2 a1
    refine ⟨_, _, _, L_start1 ?_, by decide, by decide, by decide⟩
    refine ⟨fun e => absurd e (by decide), fun _ => ?_⟩
    exact hK
def m_abs (l k : Int32) (s : MS) : MO := gd (n4 k) s (if (mNow l k (sT 0 s)) < 0 then mBecome l k (-(mNow l k (sT 0 s))) (sT 0 s) else (mSign (mNow l k (sT 0 s)), sT 0 s))
theorem M_abs (l k : Int32)  (hK : anM K x t (m_abs l k s)) : M P n_M_abs [.ref 5, .int l, .int k] (hm s x t) 0 0 10 K := by
  refine Mgo ok_M_abs 80 rfl ?_
  have hG := an_gd hK
  refine ⟨_, _, _, L_isNo _ (fun a1 => ?_) (fun a1 => ?_), by decide, by decide, by decide⟩
  · skip
    have hK := hG.1 a1
    refine ⟨_, _, _, L_start0 ?_, by decide, by decide, by decide⟩
    refine ⟨fun _ => ?_, fun e => absurd rfl e⟩
    refine ⟨_, _, _, L_now _ _ (n4_ok a1) ?_, by decide, by decide, by decide⟩
    refine ⟨fun q => ?_, fun q => ?_⟩
    · rw [if_pos q] at hK
      refine ⟨_, _, _, L_now _ _ (n4_ok a1) ?_, by decide, by decide, by decide⟩
      refine ⟨_, _, _, L_become _ _ _ (n4_ok a1) ?_, by decide, by decide, by decide⟩
      exact hK
    · rw [if_neg q] at hK
      refine ⟨_, _, _, L_now _ _ (n4_ok a1) ?_, by decide, by decide, by decide⟩
      refine ⟨_, _, _, L_sign _ ?_, by decide, by decide, by decide⟩
      exact hK
  · skip
    have hK := hG.2 a1
    refine ⟨_, _, _, L_start1 ?_, by decide, by decide, by decide⟩
    refine ⟨fun e => absurd e (by decide), fun _ => ?_⟩
    exact hK
def m_round (l k f w : Int32) (s : MS) : MO := gd (n4 k ∧ n4 f) s (rf (okC w 2) (sT 0 s) (mBecome l k (wJoin (mNow l k (sT 0 s)) (mNow l f (sT 0 s)) w) (sT 0 s)))
theorem M_round (l k f w : Int32)  (hK : anM K x t (m_round l k f w s)) : M P n_M_round [.ref 5, .int l, .int k, .int f, .int w] (hm s x t) 0 0 10 K := by
  refine Mgo ok_M_round 80 rfl ?_
  have hG := an_gd hK
  refine ⟨_, _, _, L_isNo _ (fun a1 => ?_) (fun a1 => ?_), by decide, by decide, by decide⟩
  · refine ⟨fun _ => ?_, fun e => absurd rfl e⟩
    refine ⟨_, _, _, L_isNo _ (fun a2 => ?_) (fun a2 => ?_), by decide, by decide, by decide⟩
    · refine ⟨fun _ => ?_, fun e => absurd rfl e⟩
      have hK := hG.1 ⟨a1, a2⟩
      refine ⟨_, _, _, L_start0 ?_, by decide, by decide, by decide⟩
      refine ⟨fun _ => ?_, fun e => absurd rfl e⟩
      have hR := an_rf hK
      refine ⟨fun w1 => ?_, fun w1 => ?_⟩
      · have hK := hR.2 (fun e => e.1 w1)
        refine ⟨_, _, _, L_mrefuse1 2 rfl (by decide) ?_, by decide, by decide, by decide⟩
        refine ⟨fun e => absurd e (by decide), fun _ => ?_⟩
        exact hK
      · refine ⟨fun w2 => ?_, fun w2 => ?_⟩
        · have hK := hR.2 (fun e => e.2 w2)
          refine ⟨_, _, _, L_mrefuse1 2 rfl (by decide) ?_, by decide, by decide, by decide⟩
          refine ⟨fun e => absurd e (by decide), fun _ => ?_⟩
          exact hK
        · have hK := hR.1 ⟨w1, w2⟩
          refine ⟨_, _, _, L_mrefuse0 2 rfl ?_, by decide, by decide, by decide⟩
          refine ⟨fun _ => ?_, fun e => absurd rfl e⟩
          refine ⟨_, _, _, L_now _ _ (n4_ok a1) ?_, by decide, by decide, by decide⟩
          refine ⟨_, _, _, L_now _ _ (n4_ok a2) ?_, by decide, by decide, by decide⟩
          refine ⟨_, _, _, L_both _ _ _ ?_, by decide, by decide, by decide⟩
          refine ⟨_, _, _, L_become _ _ _ (n4_ok a1) ?_, by decide, by decide, by decide⟩
          exact hK
    · refine ⟨fun e => absurd e (by decide), fun _ => ?_⟩
      have hK := hG.2 (fun e => a2 e.2)
      refine ⟨_, _, _, L_start1 ?_, by decide, by decide, by decide⟩
      refine ⟨fun e => absurd e (by decide), fun _ => ?_⟩
      exact hK
  · refine ⟨fun e => absurd e (by decide), fun _ => ?_⟩
    have hK := hG.2 (fun e => a1 e.1)
    refine ⟨_, _, _, L_start1 ?_, by decide, by decide, by decide⟩
    refine ⟨fun e => absurd e (by decide), fun _ => ?_⟩
    exact hK
def m_extreme (l k f g : Int32) (s : MS) : MO := gd (n4 k ∧ n4 f) s (if g = 0 then (if (mNow l f (sT 0 s)) < (mNow l k (sT 0 s)) then (1, sSet l k (mNow l f (sT 0 s)) (sT 0 s)) else (0, sT 0 s)) else (if (mNow l k (sT 0 s)) < (mNow l f (sT 0 s)) then (1, sSet l k (mNow l f (sT 0 s)) (sT 0 s)) else (0, sT 0 s)))
theorem M_extreme (l k f g : Int32)  (hK : anM K x t (m_extreme l k f g s)) : M P n_M_extreme [.ref 5, .int l, .int k, .int f, .int g] (hm s x t) 0 0 10 K := by
  refine Mgo ok_M_extreme 80 rfl ?_
  have hG := an_gd hK
  refine ⟨_, _, _, L_isNo _ (fun a1 => ?_) (fun a1 => ?_), by decide, by decide, by decide⟩
  · refine ⟨fun _ => ?_, fun e => absurd rfl e⟩
    refine ⟨_, _, _, L_isNo _ (fun a2 => ?_) (fun a2 => ?_), by decide, by decide, by decide⟩
    · refine ⟨fun _ => ?_, fun e => absurd rfl e⟩
      have hK := hG.1 ⟨a1, a2⟩
      refine ⟨_, _, _, L_start0 ?_, by decide, by decide, by decide⟩
      refine ⟨fun _ => ?_, fun e => absurd rfl e⟩
      refine ⟨_, _, _, L_now _ _ (n4_ok a1) ?_, by decide, by decide, by decide⟩
      refine ⟨_, _, _, L_now _ _ (n4_ok a2) ?_, by decide, by decide, by decide⟩
      refine ⟨fun q => ?_, fun q => ?_⟩
      · rw [if_pos q] at hK
        refine ⟨fun q2 => ?_, fun q2 => ?_⟩
        · rw [if_pos q2] at hK
          refine ⟨_, _, _, L_become _ _ _ (n4_ok a1) ?_, by decide, by decide, by decide⟩
          exact hK
        · rw [if_neg q2] at hK
          exact hK
      · rw [if_neg q] at hK
        refine ⟨fun q2 => ?_, fun q2 => ?_⟩
        · rw [if_pos q2] at hK
          refine ⟨_, _, _, L_become _ _ _ (n4_ok a1) ?_, by decide, by decide, by decide⟩
          exact hK
        · rw [if_neg q2] at hK
          exact hK
    · refine ⟨fun e => absurd e (by decide), fun _ => ?_⟩
      have hK := hG.2 (fun e => a2 e.2)
      refine ⟨_, _, _, L_start1 ?_, by decide, by decide, by decide⟩
      refine ⟨fun e => absurd e (by decide), fun _ => ?_⟩
      exact hK
  · refine ⟨fun e => absurd e (by decide), fun _ => ?_⟩
    have hK := hG.2 (fun e => a1 e.1)
    refine ⟨_, _, _, L_start1 ?_, by decide, by decide, by decide⟩
    refine ⟨fun e => absurd e (by decide), fun _ => ?_⟩
    exact hK
def m_average (l k f u : Int32) (s : MS) : MO := gd (n4 k ∧ n4 f) s (mBecome l k (if u = 0 then ((mNow l k (sT 0 s)) >>> ((1 : Int32).toInt64 &&& 63) + (mNow l f (sT 0 s)) >>> ((1 : Int32).toInt64 &&& 63) + ((mNow l k (sT 0 s)) &&& (mNow l f (sT 0 s)) &&& 1)) else ((mNow l k (sT 0 s)) >>> ((1 : Int32).toInt64 &&& 63) + (mNow l f (sT 0 s)) >>> ((1 : Int32).toInt64 &&& 63) + ((mNow l k (sT 0 s)) &&& (mNow l f (sT 0 s)) &&& 1)) + (((mNow l k (sT 0 s)) ^^^ (mNow l f (sT 0 s))) &&& 1)) (sT 0 s))
theorem M_average (l k f u : Int32)  (hK : anM K x t (m_average l k f u s)) : M P n_M_average [.ref 5, .int l, .int k, .int f, .int u] (hm s x t) 0 0 10 K := by
  refine Mgo ok_M_average 80 rfl ?_
  have hG := an_gd hK
  refine ⟨_, _, _, L_isNo _ (fun a1 => ?_) (fun a1 => ?_), by decide, by decide, by decide⟩
  · refine ⟨fun _ => ?_, fun e => absurd rfl e⟩
    refine ⟨_, _, _, L_isNo _ (fun a2 => ?_) (fun a2 => ?_), by decide, by decide, by decide⟩
    · refine ⟨fun _ => ?_, fun e => absurd rfl e⟩
      have hK := hG.1 ⟨a1, a2⟩
      refine ⟨_, _, _, L_start0 ?_, by decide, by decide, by decide⟩
      refine ⟨fun _ => ?_, fun e => absurd rfl e⟩
      refine ⟨_, _, _, L_now _ _ (n4_ok a1) ?_, by decide, by decide, by decide⟩
      refine ⟨_, _, _, L_now _ _ (n4_ok a2) ?_, by decide, by decide, by decide⟩
      refine ⟨fun q => ?_, fun q => ?_⟩
      · rw [if_pos q] at hK
        refine ⟨_, _, _, L_become _ _ _ (n4_ok a1) ?_, by decide, by decide, by decide⟩
        exact hK
      · rw [if_neg q] at hK
        refine ⟨_, _, _, L_become _ _ _ (n4_ok a1) ?_, by decide, by decide, by decide⟩
        exact hK
    · refine ⟨fun e => absurd e (by decide), fun _ => ?_⟩
      have hK := hG.2 (fun e => a2 e.2)
      refine ⟨_, _, _, L_start1 ?_, by decide, by decide, by decide⟩
      refine ⟨fun e => absurd e (by decide), fun _ => ?_⟩
      exact hK
  · refine ⟨fun e => absurd e (by decide), fun _ => ?_⟩
    have hK := hG.2 (fun e => a1 e.1)
    refine ⟨_, _, _, L_start1 ?_, by decide, by decide, by decide⟩
    refine ⟨fun e => absurd e (by decide), fun _ => ?_⟩
    exact hK
def m_high (k f g : Int32) (s : MS) : MO := gd (n4 k ∧ n4 f ∧ n4 g) s (mBecome 1 k (mAbove (mL (sT 0 s) f.toNatClampNeg) (mL (sT 0 s) g.toNatClampNeg)) (sT 0 s))
theorem M_high (k f g : Int32)  (hK : anM K x t (m_high k f g s)) : M P n_M_high [.ref 5, .int k, .int f, .int g] (hm s x t) 0 0 10 K := by
  refine Mgo ok_M_high 80 rfl ?_
  have hG := an_gd hK
  refine ⟨_, _, _, L_isNo _ (fun a1 => ?_) (fun a1 => ?_), by decide, by decide, by decide⟩
  · refine ⟨fun _ => ?_, fun e => absurd rfl e⟩
    refine ⟨_, _, _, L_isNo _ (fun a2 => ?_) (fun a2 => ?_), by decide, by decide, by decide⟩
    · refine ⟨fun _ => ?_, fun e => absurd rfl e⟩
      refine ⟨_, _, _, L_isNo _ (fun a3 => ?_) (fun a3 => ?_), by decide, by decide, by decide⟩
      · refine ⟨fun _ => ?_, fun e => absurd rfl e⟩
        have hK := hG.1 ⟨a1, a2, a3⟩
        refine ⟨_, _, _, L_start0 ?_, by decide, by decide, by decide⟩
        refine ⟨fun _ => ?_, fun e => absurd rfl e⟩
        refine ⟨vp4 (n4_ok a2), vp4 (n4_ok a3), ?_⟩
        refine ⟨_, _, _, L_above _ _ ?_, by decide, by decide, by decide⟩
        refine ⟨_, _, _, L_become _ _ _ (n4_ok a1) ?_, by decide, by decide, by decide⟩
        exact hK
      · refine ⟨fun e => absurd e (by decide), fun _ => ?_⟩
        have hK := hG.2 (fun e => a3 e.2.2)
        refine ⟨_, _, _, L_start1 ?_, by decide, by decide, by decide⟩
        refine ⟨fun e => absurd e (by decide), fun _ => ?_⟩
        exact hK
    · refine ⟨fun e => absurd e (by decide), fun _ => ?_⟩
      have hK := hG.2 (fun e => a2 e.2.1)
      refine ⟨_, _, _, L_start1 ?_, by decide, by decide, by decide⟩
      refine ⟨fun e => absurd e (by decide), fun _ => ?_⟩
      exact hK
  · refine ⟨fun e => absurd e (by decide), fun _ => ?_⟩
    have hK := hG.2 (fun e => a1 e.1)
    refine ⟨_, _, _, L_start1 ?_, by decide, by decide, by decide⟩
    refine ⟨fun e => absurd e (by decide), fun _ => ?_⟩
    exact hK
def m_full (k f g : Int32) (s : MS) : MO := gd (n4 k ∧ n4 f ∧ n4 g) s (mBecome 1 k (mI (sT 0 s) f.toNatClampNeg * mI (sT 0 s) g.toNatClampNeg) (sT 0 s))
theorem M_full (k f g : Int32)  (hK : anM K x t (m_full k f g s)) : M P n_M_full [.ref 5, .int k, .int f, .int g] (hm s x t) 0 0 10 K := by
  refine Mgo ok_M_full 80 rfl ?_
  have hG := an_gd hK
  refine ⟨_, _, _, L_isNo _ (fun a1 => ?_) (fun a1 => ?_), by decide, by decide, by decide⟩
  · refine ⟨fun _ => ?_, fun e => absurd rfl e⟩
    refine ⟨_, _, _, L_isNo _ (fun a2 => ?_) (fun a2 => ?_), by decide, by decide, by decide⟩
    · refine ⟨fun _ => ?_, fun e => absurd rfl e⟩
      refine ⟨_, _, _, L_isNo _ (fun a3 => ?_) (fun a3 => ?_), by decide, by decide, by decide⟩
      · refine ⟨fun _ => ?_, fun e => absurd rfl e⟩
        have hK := hG.1 ⟨a1, a2, a3⟩
        refine ⟨_, _, _, L_start0 ?_, by decide, by decide, by decide⟩
        refine ⟨fun _ => ?_, fun e => absurd rfl e⟩
        refine ⟨vp4 (n4_ok a2), vp4 (n4_ok a3), ?_⟩
        refine ⟨_, _, _, L_become _ _ _ (n4_ok a1) ?_, by decide, by decide, by decide⟩
        exact hK
      · refine ⟨fun e => absurd e (by decide), fun _ => ?_⟩
        have hK := hG.2 (fun e => a3 e.2.2)
        refine ⟨_, _, _, L_start1 ?_, by decide, by decide, by decide⟩
        refine ⟨fun e => absurd e (by decide), fun _ => ?_⟩
        exact hK
    · refine ⟨fun e => absurd e (by decide), fun _ => ?_⟩
      have hK := hG.2 (fun e => a2 e.2.1)
      refine ⟨_, _, _, L_start1 ?_, by decide, by decide, by decide⟩
      refine ⟨fun e => absurd e (by decide), fun _ => ?_⟩
      exact hK
  · refine ⟨fun e => absurd e (by decide), fun _ => ?_⟩
    have hK := hG.2 (fun e => a1 e.1)
    refine ⟨_, _, _, L_start1 ?_, by decide, by decide, by decide⟩
    refine ⟨fun e => absurd e (by decide), fun _ => ?_⟩
    exact hK
def m_timesInt (k f : Int32) (s : MS) : MO := gd (n4 k ∧ n4 f) s (if mWithin 1 (mL (sT 0 s) k.toNatClampNeg) (mI (sT 0 s) f.toNatClampNeg) 2 = 0 then mNo (sT 0 s) else mBecome 1 k (mL (sT 0 s) k.toNatClampNeg * mI (sT 0 s) f.toNatClampNeg) (sT 0 s))
theorem M_timesInt (k f : Int32)  (hK : anM K x t (m_timesInt k f s)) : M P n_M_timesInt [.ref 5, .int k, .int f] (hm s x t) 0 0 10 K := by
  refine Mgo ok_M_timesInt 80 rfl ?_
  have hG := an_gd hK
  refine ⟨_, _, _, L_isNo _ (fun a1 => ?_) (fun a1 => ?_), by decide, by decide, by decide⟩
  · refine ⟨fun _ => ?_, fun e => absurd rfl e⟩
    refine ⟨_, _, _, L_isNo _ (fun a2 => ?_) (fun a2 => ?_), by decide, by decide, by decide⟩
    · refine ⟨fun _ => ?_, fun e => absurd rfl e⟩
      have hK := hG.1 ⟨a1, a2⟩
      refine ⟨_, _, _, L_start0 ?_, by decide, by decide, by decide⟩
      refine ⟨fun _ => ?_, fun e => absurd rfl e⟩
      refine ⟨vp4 (n4_ok a1), vp4 (n4_ok a2), ?_⟩
      refine ⟨_, _, _, L_mwithin _ _ _ _ ?_, by decide, by decide, by decide⟩
      refine ⟨fun q => ?_, fun q => ?_⟩
      · rw [if_pos q] at hK
        refine ⟨_, _, _, L_mno ?_, by decide, by decide, by decide⟩
        exact hK
      · rw [if_neg q] at hK
        refine ⟨vp4 (n4_ok a1), vp4 (n4_ok a2), ?_⟩
        refine ⟨_, _, _, L_become _ _ _ (n4_ok a1) ?_, by decide, by decide, by decide⟩
        exact hK
    · refine ⟨fun e => absurd e (by decide), fun _ => ?_⟩
      have hK := hG.2 (fun e => a2 e.2)
      refine ⟨_, _, _, L_start1 ?_, by decide, by decide, by decide⟩
      refine ⟨fun e => absurd e (by decide), fun _ => ?_⟩
      exact hK
  · refine ⟨fun e => absurd e (by decide), fun _ => ?_⟩
    have hK := hG.2 (fun e => a1 e.1)
    refine ⟨_, _, _, L_start1 ?_, by decide, by decide, by decide⟩
    refine ⟨fun e => absurd e (by decide), fun _ => ?_⟩
    exact hK
def m_floor (l k f r : Int32) (s : MS) : MO := gd (n4 k ∧ n4 f) s (if (mNow l f (sT 0 s)) = 0 then mNo (sT 0 s) else mBecome l k (if r = 0 then mFloor (mNow l k (sT 0 s)) (mNow l f (sT 0 s)) else mRest (mNow l k (sT 0 s)) (mNow l f (sT 0 s))) (sT 0 s))
theorem M_floor (l k f r : Int32)  (hK : anM K x t (m_floor l k f r s)) : M P n_M_floor [.ref 5, .int l, .int k, .int f, .int r] (hm s x t) 0 0 10 K := by
  refine Mgo ok_M_floor 80 rfl ?_
  have hG := an_gd hK
  refine ⟨_, _, _, L_isNo _ (fun a1 => ?_) (fun a1 => ?_), by decide, by decide, by decide⟩
  · refine ⟨fun _ => ?_, fun e => absurd rfl e⟩
    refine ⟨_, _, _, L_isNo _ (fun a2 => ?_) (fun a2 => ?_), by decide, by decide, by decide⟩
    · refine ⟨fun _ => ?_, fun e => absurd rfl e⟩
      have hK := hG.1 ⟨a1, a2⟩
      refine ⟨_, _, _, L_start0 ?_, by decide, by decide, by decide⟩
      refine ⟨fun _ => ?_, fun e => absurd rfl e⟩
      refine ⟨_, _, _, L_now _ _ (n4_ok a2) ?_, by decide, by decide, by decide⟩
      refine ⟨fun q => ?_, fun q => ?_⟩
      · rw [if_pos q] at hK
        refine ⟨_, _, _, L_mno ?_, by decide, by decide, by decide⟩
        exact hK
      · rw [if_neg q] at hK
        refine ⟨fun q2 => ?_, fun q2 => ?_⟩
        · rw [if_pos q2] at hK
          refine ⟨_, _, _, L_now _ _ (n4_ok a1) ?_, by decide, by decide, by decide⟩
          refine ⟨_, _, _, L_mfloor _ _ q ?_, by decide, by decide, by decide⟩
          refine ⟨_, _, _, L_become _ _ _ (n4_ok a1) ?_, by decide, by decide, by decide⟩
          exact hK
        · rw [if_neg q2] at hK
          refine ⟨_, _, _, L_now _ _ (n4_ok a1) ?_, by decide, by decide, by decide⟩
          refine ⟨_, _, _, L_mrest _ _ q ?_, by decide, by decide, by decide⟩
          refine ⟨_, _, _, L_become _ _ _ (n4_ok a1) ?_, by decide, by decide, by decide⟩
          exact hK
    · refine ⟨fun e => absurd e (by decide), fun _ => ?_⟩
      have hK := hG.2 (fun e => a2 e.2)
      refine ⟨_, _, _, L_start1 ?_, by decide, by decide, by decide⟩
      refine ⟨fun e => absurd e (by decide), fun _ => ?_⟩
      exact hK
  · refine ⟨fun e => absurd e (by decide), fun _ => ?_⟩
    have hK := hG.2 (fun e => a1 e.1)
    refine ⟨_, _, _, L_start1 ?_, by decide, by decide, by decide⟩
    refine ⟨fun e => absurd e (by decide), fun _ => ?_⟩
    exact hK
def m_floorInt (k f r : Int32) (s : MS) : MO := gd (n4 k ∧ n4 f) s (if (mI (sT 0 s) f.toNatClampNeg) = 0 then mNo (sT 0 s) else mBecome 1 k (if r = 0 then mFloor (mL (sT 0 s) k.toNatClampNeg) (mI (sT 0 s) f.toNatClampNeg) else mRest (mL (sT 0 s) k.toNatClampNeg) (mI (sT 0 s) f.toNatClampNeg)) (sT 0 s))
theorem M_floorInt (k f r : Int32)  (hK : anM K x t (m_floorInt k f r s)) : M P n_M_floorInt [.ref 5, .int k, .int f, .int r] (hm s x t) 0 0 10 K := by
  refine Mgo ok_M_floorInt 80 rfl ?_
  have hG := an_gd hK
  refine ⟨_, _, _, L_isNo _ (fun a1 => ?_) (fun a1 => ?_), by decide, by decide, by decide⟩
  · refine ⟨fun _ => ?_, fun e => absurd rfl e⟩
    refine ⟨_, _, _, L_isNo _ (fun a2 => ?_) (fun a2 => ?_), by decide, by decide, by decide⟩
    · refine ⟨fun _ => ?_, fun e => absurd rfl e⟩
      have hK := hG.1 ⟨a1, a2⟩
      refine ⟨_, _, _, L_start0 ?_, by decide, by decide, by decide⟩
      refine ⟨fun _ => ?_, fun e => absurd rfl e⟩
      refine ⟨vp4 (n4_ok a2), ?_⟩
      refine ⟨fun q => ?_, fun q => ?_⟩
      · rw [if_pos q] at hK
        refine ⟨_, _, _, L_mno ?_, by decide, by decide, by decide⟩
        exact hK
      · rw [if_neg q] at hK
        refine ⟨fun q2 => ?_, fun q2 => ?_⟩
        · rw [if_pos q2] at hK
          refine ⟨vp4 (n4_ok a1), vp4 (n4_ok a2), ?_⟩
          refine ⟨_, _, _, L_mfloor _ _ q ?_, by decide, by decide, by decide⟩
          refine ⟨_, _, _, L_become _ _ _ (n4_ok a1) ?_, by decide, by decide, by decide⟩
          exact hK
        · rw [if_neg q2] at hK
          refine ⟨vp4 (n4_ok a1), vp4 (n4_ok a2), ?_⟩
          refine ⟨_, _, _, L_mrest _ _ q ?_, by decide, by decide, by decide⟩
          refine ⟨_, _, _, L_become _ _ _ (n4_ok a1) ?_, by decide, by decide, by decide⟩
          exact hK
    · refine ⟨fun e => absurd e (by decide), fun _ => ?_⟩
      have hK := hG.2 (fun e => a2 e.2)
      refine ⟨_, _, _, L_start1 ?_, by decide, by decide, by decide⟩
      refine ⟨fun e => absurd e (by decide), fun _ => ?_⟩
      exact hK
  · refine ⟨fun e => absurd e (by decide), fun _ => ?_⟩
    have hK := hG.2 (fun e => a1 e.1)
    refine ⟨_, _, _, L_start1 ?_, by decide, by decide, by decide⟩
    refine ⟨fun e => absurd e (by decide), fun _ => ?_⟩
    exact hK
def m_towards (l k f r : Int32) (s : MS) : MO := gd (n4 k ∧ n4 f) s (if (mNow l f (sT 0 s)) = 0 then mNo (sT 0 s) else mBecome l k (if r = 0 then (mNow l k (sT 0 s)) / (mNow l f (sT 0 s)) else wRem (mNow l k (sT 0 s)) (mNow l f (sT 0 s))) (sT 0 s))
theorem M_towards (l k f r : Int32)  (hK : anM K x t (m_towards l k f r s)) : M P n_M_towards [.ref 5, .int l, .int k, .int f, .int r] (hm s x t) 0 0 10 K := by
  refine Mgo ok_M_towards 80 rfl ?_
  have hG := an_gd hK
  refine ⟨_, _, _, L_isNo _ (fun a1 => ?_) (fun a1 => ?_), by decide, by decide, by decide⟩
  · refine ⟨fun _ => ?_, fun e => absurd rfl e⟩
    refine ⟨_, _, _, L_isNo _ (fun a2 => ?_) (fun a2 => ?_), by decide, by decide, by decide⟩
    · refine ⟨fun _ => ?_, fun e => absurd rfl e⟩
      have hK := hG.1 ⟨a1, a2⟩
      refine ⟨_, _, _, L_start0 ?_, by decide, by decide, by decide⟩
      refine ⟨fun _ => ?_, fun e => absurd rfl e⟩
      refine ⟨_, _, _, L_now _ _ (n4_ok a2) ?_, by decide, by decide, by decide⟩
      refine ⟨fun q => ?_, fun q => ?_⟩
      · rw [if_pos q] at hK
        refine ⟨_, _, _, L_mno ?_, by decide, by decide, by decide⟩
        exact hK
      · rw [if_neg q] at hK
        refine ⟨fun q2 => ?_, fun q2 => ?_⟩
        · rw [if_pos q2] at hK
          refine ⟨_, _, _, L_now _ _ (n4_ok a1) ?_, by decide, by decide, by decide⟩
          refine ⟨q, ?_⟩
          refine ⟨_, _, _, L_become _ _ _ (n4_ok a1) ?_, by decide, by decide, by decide⟩
          exact hK
        · rw [if_neg q2] at hK
          refine ⟨_, _, _, L_now _ _ (n4_ok a1) ?_, by decide, by decide, by decide⟩
          refine ⟨q, ?_⟩
          refine ⟨_, _, _, L_become _ _ _ (n4_ok a1) ?_, by decide, by decide, by decide⟩
          exact hK
    · refine ⟨fun e => absurd e (by decide), fun _ => ?_⟩
      have hK := hG.2 (fun e => a2 e.2)
      refine ⟨_, _, _, L_start1 ?_, by decide, by decide, by decide⟩
      refine ⟨fun e => absurd e (by decide), fun _ => ?_⟩
      exact hK
  · refine ⟨fun e => absurd e (by decide), fun _ => ?_⟩
    have hK := hG.2 (fun e => a1 e.1)
    refine ⟨_, _, _, L_start1 ?_, by decide, by decide, by decide⟩
    refine ⟨fun e => absurd e (by decide), fun _ => ?_⟩
    exact hK
def m_rest (l k m : Int32) (s : MS) : MO := gd (n4 k) s (rf (¬ m = 0) (sT 0 s) ((mRest (mNow l k (sT 0 s)) m.toInt64).toInt32, sT 0 s))
theorem M_rest (l k m : Int32)  (hK : anM K x t (m_rest l k m s)) : M P n_M_rest [.ref 5, .int l, .int k, .int m] (hm s x t) 0 0 10 K := by
  refine Mgo ok_M_rest 80 rfl ?_
  have hG := an_gd hK
  refine ⟨_, _, _, L_isNo _ (fun a1 => ?_) (fun a1 => ?_), by decide, by decide, by decide⟩
  · skip
    have hK := hG.1 a1
    refine ⟨_, _, _, L_start0 ?_, by decide, by decide, by decide⟩
    refine ⟨fun _ => ?_, fun e => absurd rfl e⟩
    have hR := an_rf hK
    refine ⟨fun w1 => ?_, fun w1 => ?_⟩
    · have hK := hR.2 (fun e => e w1)
      refine ⟨_, _, _, L_mrefuse1 2 rfl (by decide) ?_, by decide, by decide, by decide⟩
      refine ⟨fun e => absurd e (by decide), fun _ => ?_⟩
      exact hK
    · have hK := hR.1 w1
      refine ⟨_, _, _, L_mrefuse0 2 rfl ?_, by decide, by decide, by decide⟩
      refine ⟨fun _ => ?_, fun e => absurd rfl e⟩
      refine ⟨_, _, _, L_now _ _ (n4_ok a1) ?_, by decide, by decide, by decide⟩
      refine ⟨_, _, _, L_mrest _ _ (nz64 w1) ?_, by decide, by decide, by decide⟩
      exact hK
  · skip
    have hK := hG.2 a1
    refine ⟨_, _, _, L_start1 ?_, by decide, by decide, by decide⟩
    refine ⟨fun e => absurd e (by decide), fun _ => ?_⟩
    exact hK
def m_compare (l k f : Int32) (s : MS) : MO := gd (n4 k ∧ n4 f) s (if (mNow l k (sT 0 s)) < (mNow l f (sT 0 s)) then (-1, sT 0 s) else if (mNow l f (sT 0 s)) < (mNow l k (sT 0 s)) then (1, sT 0 s) else (0, sT 0 s))
theorem M_compare (l k f : Int32)  (hK : anM K x t (m_compare l k f s)) : M P n_M_compare [.ref 5, .int l, .int k, .int f] (hm s x t) 0 0 10 K := by
  refine Mgo ok_M_compare 80 rfl ?_
  have hG := an_gd hK
  refine ⟨_, _, _, L_isNo _ (fun a1 => ?_) (fun a1 => ?_), by decide, by decide, by decide⟩
  · refine ⟨fun _ => ?_, fun e => absurd rfl e⟩
    refine ⟨_, _, _, L_isNo _ (fun a2 => ?_) (fun a2 => ?_), by decide, by decide, by decide⟩
    · refine ⟨fun _ => ?_, fun e => absurd rfl e⟩
      have hK := hG.1 ⟨a1, a2⟩
      refine ⟨_, _, _, L_start0 ?_, by decide, by decide, by decide⟩
      refine ⟨fun _ => ?_, fun e => absurd rfl e⟩
      refine ⟨_, _, _, L_now _ _ (n4_ok a1) ?_, by decide, by decide, by decide⟩
      refine ⟨_, _, _, L_now _ _ (n4_ok a2) ?_, by decide, by decide, by decide⟩
      refine ⟨fun q => ?_, fun q => ?_⟩
      · rw [if_pos q] at hK
        exact hK
      · rw [if_neg q] at hK
        refine ⟨_, _, _, L_now _ _ (n4_ok a1) ?_, by decide, by decide, by decide⟩
        refine ⟨_, _, _, L_now _ _ (n4_ok a2) ?_, by decide, by decide, by decide⟩
        refine ⟨fun q2 => ?_, fun q2 => ?_⟩
        · rw [if_pos q2] at hK
          exact hK
        · rw [if_neg q2] at hK
          exact hK
    · refine ⟨fun e => absurd e (by decide), fun _ => ?_⟩
      have hK := hG.2 (fun e => a2 e.2)
      refine ⟨_, _, _, L_start1 ?_, by decide, by decide, by decide⟩
      refine ⟨fun e => absurd e (by decide), fun _ => ?_⟩
      exact hK
  · refine ⟨fun e => absurd e (by decide), fun _ => ?_⟩
    have hK := hG.2 (fun e => a1 e.1)
    refine ⟨_, _, _, L_start1 ?_, by decide, by decide, by decide⟩
    refine ⟨fun e => absurd e (by decide), fun _ => ?_⟩
    exact hK
def m_chain (k a b c : Int32) (s : MS) : MO := gd (n4 k) s (rf (okV a b c) (sT 0 s) (mBecome 1 k (mFloor (mFloor (mFloor (mL (sT 0 s) k.toNatClampNeg) a.toInt64) b.toInt64) c.toInt64) (sT 0 s)))
theorem M_chain (k a b c : Int32)  (hK : anM K x t (m_chain k a b c s)) : M P n_M_chain [.ref 5, .int k, .int a, .int b, .int c] (hm s x t) 0 0 10 K := by
  refine Mgo ok_M_chain 80 rfl ?_
  have hG := an_gd hK
  refine ⟨_, _, _, L_isNo _ (fun a1 => ?_) (fun a1 => ?_), by decide, by decide, by decide⟩
  · skip
    have hK := hG.1 a1
    refine ⟨_, _, _, L_start0 ?_, by decide, by decide, by decide⟩
    refine ⟨fun _ => ?_, fun e => absurd rfl e⟩
    have hR := an_rf hK
    refine ⟨_, _, _, L_areWrong _ _ _ (fun w1 => ?_) (fun w1 => ?_), by decide, by decide, by decide⟩
    · have hK := hR.1 w1
      refine ⟨_, _, _, L_mrefuse0 2 rfl ?_, by decide, by decide, by decide⟩
      refine ⟨fun _ => ?_, fun e => absurd rfl e⟩
      refine ⟨vp4 (n4_ok a1), ?_⟩
      have g1 : ¬ a = 0 := fun e => w1.1 (by rw [e]; decide)
      have g2 : ¬ b = 0 := fun e => w1.2.1 (by rw [e]; decide)
      have g3 : ¬ c = 0 := fun e => w1.2.2 (by rw [e]; decide)
      refine ⟨_, _, _, L_mfloor _ _ (nz64 g1) ?_, by decide, by decide, by decide⟩
      refine ⟨_, _, _, L_mfloor _ _ (nz64 g2) ?_, by decide, by decide, by decide⟩
      refine ⟨_, _, _, L_mfloor _ _ (nz64 g3) ?_, by decide, by decide, by decide⟩
      refine ⟨_, _, _, L_become _ _ _ (n4_ok a1) ?_, by decide, by decide, by decide⟩
      exact hK
    · have hK := hR.2 w1
      refine ⟨_, _, _, L_mrefuse1 2 rfl (by decide) ?_, by decide, by decide, by decide⟩
      refine ⟨fun e => absurd e (by decide), fun _ => ?_⟩
      exact hK
  · skip
    have hK := hG.2 a1
    refine ⟨_, _, _, L_start1 ?_, by decide, by decide, by decide⟩
    refine ⟨fun e => absurd e (by decide), fun _ => ?_⟩
    exact hK
def m_bring (r k l f : Int32) (s : MS) : MO := gd (n3 r ∧ n4 k ∧ n4 f) s (mCome r k (mNow l f (sT 0 s)) (sT 0 s))
theorem M_bring (r k l f : Int32) (hz : ¬ (mMod r s).toInt64 = 0) (hK : anM K x t (m_bring r k l f s)) : M P n_M_bring [.ref 5, .int r, .int k, .int l, .int f] (hm s x t) 0 0 10 K := by
  refine Mgo ok_M_bring 80 rfl ?_
  have hG := an_gd hK
  refine ⟨_, _, _, L_isNoRing _ (fun a1 => ?_) (fun a1 => ?_), by decide, by decide, by decide⟩
  · refine ⟨fun _ => ?_, fun e => absurd rfl e⟩
    refine ⟨_, _, _, L_isNo _ (fun a2 => ?_) (fun a2 => ?_), by decide, by decide, by decide⟩
    · refine ⟨fun _ => ?_, fun e => absurd rfl e⟩
      refine ⟨_, _, _, L_isNo _ (fun a3 => ?_) (fun a3 => ?_), by decide, by decide, by decide⟩
      · refine ⟨fun _ => ?_, fun e => absurd rfl e⟩
        have hK := hG.1 ⟨a1, a2, a3⟩
        refine ⟨_, _, _, L_start0 ?_, by decide, by decide, by decide⟩
        refine ⟨fun _ => ?_, fun e => absurd rfl e⟩
        refine ⟨_, _, _, L_now _ _ (n4_ok a3) ?_, by decide, by decide, by decide⟩
        refine ⟨_, _, _, L_come (s := sT 0 s) _ _ _ (n3_ok a1) (n4_ok a2) hz ?_, by decide, by decide, by decide⟩
        exact hK
      · refine ⟨fun e => absurd e (by decide), fun _ => ?_⟩
        have hK := hG.2 (fun e => a3 e.2.2)
        refine ⟨_, _, _, L_start1 ?_, by decide, by decide, by decide⟩
        refine ⟨fun e => absurd e (by decide), fun _ => ?_⟩
        exact hK
    · refine ⟨fun e => absurd e (by decide), fun _ => ?_⟩
      have hK := hG.2 (fun e => a2 e.2.1)
      refine ⟨_, _, _, L_start1 ?_, by decide, by decide, by decide⟩
      refine ⟨fun e => absurd e (by decide), fun _ => ?_⟩
      exact hK
  · refine ⟨fun e => absurd e (by decide), fun _ => ?_⟩
    have hK := hG.2 (fun e => a1 e.1)
    refine ⟨_, _, _, L_start1 ?_, by decide, by decide, by decide⟩
    refine ⟨fun e => absurd e (by decide), fun _ => ?_⟩
    exact hK
def m_lift (r i l k : Int32) (s : MS) : MO := gd (n3 r ∧ n4 i ∧ n4 k) s (mBecome l k (mRes r i s).toInt64 (sT 0 s))
theorem M_lift (r i l k : Int32)  (hK : anM K x t (m_lift r i l k s)) : M P n_M_lift [.ref 5, .int r, .int i, .int l, .int k] (hm s x t) 0 0 10 K := by
  refine Mgo ok_M_lift 80 rfl ?_
  have hG := an_gd hK
  refine ⟨_, _, _, L_isNoRing _ (fun a1 => ?_) (fun a1 => ?_), by decide, by decide, by decide⟩
  · refine ⟨fun _ => ?_, fun e => absurd rfl e⟩
    refine ⟨_, _, _, L_isNo _ (fun a2 => ?_) (fun a2 => ?_), by decide, by decide, by decide⟩
    · refine ⟨fun _ => ?_, fun e => absurd rfl e⟩
      refine ⟨_, _, _, L_isNo _ (fun a3 => ?_) (fun a3 => ?_), by decide, by decide, by decide⟩
      · refine ⟨fun _ => ?_, fun e => absurd rfl e⟩
        have hK := hG.1 ⟨a1, a2, a3⟩
        refine ⟨_, _, _, L_start0 ?_, by decide, by decide, by decide⟩
        refine ⟨fun _ => ?_, fun e => absurd rfl e⟩
        have hr := n3_ok a1
        rcases c3 hr with rfl | rfl | rfl
        · refine ⟨vp3 hr, fun q9 e9 => ?_, fun e9 => absurd e9 (Option.some_ne_none _)⟩
          obtain rfl := Option.some.inj e9
          refine ⟨vp4 (n4_ok a2), ?_⟩
          refine ⟨_, _, _, L_become _ _ _ (n4_ok a3) ?_, by decide, by decide, by decide⟩
          exact hK
        · refine ⟨vp3 hr, fun q9 e9 => ?_, fun e9 => absurd e9 (Option.some_ne_none _)⟩
          obtain rfl := Option.some.inj e9
          refine ⟨vp4 (n4_ok a2), ?_⟩
          refine ⟨_, _, _, L_become _ _ _ (n4_ok a3) ?_, by decide, by decide, by decide⟩
          exact hK
        · refine ⟨vp3 hr, fun q9 e9 => ?_, fun e9 => absurd e9 (Option.some_ne_none _)⟩
          obtain rfl := Option.some.inj e9
          refine ⟨vp4 (n4_ok a2), ?_⟩
          refine ⟨_, _, _, L_become _ _ _ (n4_ok a3) ?_, by decide, by decide, by decide⟩
          exact hK
      · refine ⟨fun e => absurd e (by decide), fun _ => ?_⟩
        have hK := hG.2 (fun e => a3 e.2.2)
        refine ⟨_, _, _, L_start1 ?_, by decide, by decide, by decide⟩
        refine ⟨fun e => absurd e (by decide), fun _ => ?_⟩
        exact hK
    · refine ⟨fun e => absurd e (by decide), fun _ => ?_⟩
      have hK := hG.2 (fun e => a2 e.2.1)
      refine ⟨_, _, _, L_start1 ?_, by decide, by decide, by decide⟩
      refine ⟨fun e => absurd e (by decide), fun _ => ?_⟩
      exact hK
  · refine ⟨fun e => absurd e (by decide), fun _ => ?_⟩
    have hK := hG.2 (fun e => a1 e.1)
    refine ⟨_, _, _, L_start1 ?_, by decide, by decide, by decide⟩
    refine ⟨fun e => absurd e (by decide), fun _ => ?_⟩
    exact hK
def m_residue (r k : Int32) (s : MS) : MO := gd (n3 r ∧ n4 k) s ((mRes r k s, sT 0 s))
theorem M_residue (r k : Int32)  (hK : anM K x t (m_residue r k s)) : M P n_M_residue [.ref 5, .int r, .int k] (hm s x t) 0 0 10 K := by
  refine Mgo ok_M_residue 80 rfl ?_
  have hG := an_gd hK
  refine ⟨_, _, _, L_isNoRing _ (fun a1 => ?_) (fun a1 => ?_), by decide, by decide, by decide⟩
  · refine ⟨fun _ => ?_, fun e => absurd rfl e⟩
    refine ⟨_, _, _, L_isNo _ (fun a2 => ?_) (fun a2 => ?_), by decide, by decide, by decide⟩
    · refine ⟨fun _ => ?_, fun e => absurd rfl e⟩
      have hK := hG.1 ⟨a1, a2⟩
      refine ⟨_, _, _, L_start0 ?_, by decide, by decide, by decide⟩
      refine ⟨fun _ => ?_, fun e => absurd rfl e⟩
      have hr := n3_ok a1
      rcases c3 hr with rfl | rfl | rfl
      · refine ⟨vp3 hr, fun q9 e9 => ?_, fun e9 => absurd e9 (Option.some_ne_none _)⟩
        obtain rfl := Option.some.inj e9
        exact ⟨vp4 (n4_ok a2), hK⟩
      · refine ⟨vp3 hr, fun q9 e9 => ?_, fun e9 => absurd e9 (Option.some_ne_none _)⟩
        obtain rfl := Option.some.inj e9
        exact ⟨vp4 (n4_ok a2), hK⟩
      · refine ⟨vp3 hr, fun q9 e9 => ?_, fun e9 => absurd e9 (Option.some_ne_none _)⟩
        obtain rfl := Option.some.inj e9
        exact ⟨vp4 (n4_ok a2), hK⟩
    · refine ⟨fun e => absurd e (by decide), fun _ => ?_⟩
      have hK := hG.2 (fun e => a2 e.2)
      refine ⟨_, _, _, L_start1 ?_, by decide, by decide, by decide⟩
      refine ⟨fun e => absurd e (by decide), fun _ => ?_⟩
      exact hK
  · refine ⟨fun e => absurd e (by decide), fun _ => ?_⟩
    have hK := hG.2 (fun e => a1 e.1)
    refine ⟨_, _, _, L_start1 ?_, by decide, by decide, by decide⟩
    refine ⟨fun e => absurd e (by decide), fun _ => ?_⟩
    exact hK
def m_isUnit (r k : Int32) (s : MS) : MO := gd (n3 r ∧ n4 k) s ((if mUnit r k (sT 0 s) = 0 then 0 else 1, sT 0 s))
theorem M_isUnit (r k : Int32)  (hK : anM K x t (m_isUnit r k s)) : M P n_M_isUnit [.ref 5, .int r, .int k] (hm s x t) 0 0 10 K := by
  refine Mgo ok_M_isUnit 80 rfl ?_
  have hG := an_gd hK
  refine ⟨_, _, _, L_isNoRing _ (fun a1 => ?_) (fun a1 => ?_), by decide, by decide, by decide⟩
  · refine ⟨fun _ => ?_, fun e => absurd rfl e⟩
    refine ⟨_, _, _, L_isNo _ (fun a2 => ?_) (fun a2 => ?_), by decide, by decide, by decide⟩
    · refine ⟨fun _ => ?_, fun e => absurd rfl e⟩
      have hK := hG.1 ⟨a1, a2⟩
      refine ⟨_, _, _, L_start0 ?_, by decide, by decide, by decide⟩
      refine ⟨fun _ => ?_, fun e => absurd rfl e⟩
      refine ⟨_, _, _, L_unitNow (s := sT 0 s) _ _ (n3_ok a1) (n4_ok a2) ?_, by decide, by decide, by decide⟩
      refine ⟨fun q => ?_, fun q => ?_⟩
      · rw [if_pos q] at hK
        exact ⟨rfl, hK⟩
      · rw [if_neg q] at hK
        exact ⟨rfl, hK⟩
    · refine ⟨fun e => absurd e (by decide), fun _ => ?_⟩
      have hK := hG.2 (fun e => a2 e.2)
      refine ⟨_, _, _, L_start1 ?_, by decide, by decide, by decide⟩
      refine ⟨fun e => absurd e (by decide), fun _ => ?_⟩
      exact ⟨rfl, hK⟩
  · refine ⟨fun e => absurd e (by decide), fun _ => ?_⟩
    have hK := hG.2 (fun e => a1 e.1)
    refine ⟨_, _, _, L_start1 ?_, by decide, by decide, by decide⟩
    refine ⟨fun e => absurd e (by decide), fun _ => ?_⟩
    exact ⟨rfl, hK⟩
def m_times (r k f : Int32) (s : MS) : MO := gd (n3 r ∧ n4 k ∧ n4 f) s (mCome r k ((mRes r k s).toInt64 * (mRes r f s).toInt64) (sT 0 s))
theorem M_times (r k f : Int32) (hz : ¬ (mMod r s).toInt64 = 0) (hK : anM K x t (m_times r k f s)) : M P n_M_times [.ref 5, .int r, .int k, .int f] (hm s x t) 0 0 10 K := by
  refine Mgo ok_M_times 80 rfl ?_
  have hG := an_gd hK
  refine ⟨_, _, _, L_isNoRing _ (fun a1 => ?_) (fun a1 => ?_), by decide, by decide, by decide⟩
  · refine ⟨fun _ => ?_, fun e => absurd rfl e⟩
    refine ⟨_, _, _, L_isNo _ (fun a2 => ?_) (fun a2 => ?_), by decide, by decide, by decide⟩
    · refine ⟨fun _ => ?_, fun e => absurd rfl e⟩
      refine ⟨_, _, _, L_isNo _ (fun a3 => ?_) (fun a3 => ?_), by decide, by decide, by decide⟩
      · refine ⟨fun _ => ?_, fun e => absurd rfl e⟩
        have hK := hG.1 ⟨a1, a2, a3⟩
        refine ⟨_, _, _, L_start0 ?_, by decide, by decide, by decide⟩
        refine ⟨fun _ => ?_, fun e => absurd rfl e⟩
        have hr := n3_ok a1
        rcases c3 hr with rfl | rfl | rfl
        · refine ⟨vp3 hr, fun q9 e9 => ?_, fun e9 => absurd e9 (Option.some_ne_none _)⟩
          obtain rfl := Option.some.inj e9
          refine ⟨vp4 (n4_ok a2), vp3 hr, fun q9 e9 => ?_, fun e9 => absurd e9 (Option.some_ne_none _)⟩
          obtain rfl := Option.some.inj e9
          refine ⟨vp4 (n4_ok a3), ?_⟩
          refine ⟨_, _, _, L_come (s := sT 0 s) _ _ _ hr (n4_ok a2) hz ?_, by decide, by decide, by decide⟩
          exact hK
        · refine ⟨vp3 hr, fun q9 e9 => ?_, fun e9 => absurd e9 (Option.some_ne_none _)⟩
          obtain rfl := Option.some.inj e9
          refine ⟨vp4 (n4_ok a2), vp3 hr, fun q9 e9 => ?_, fun e9 => absurd e9 (Option.some_ne_none _)⟩
          obtain rfl := Option.some.inj e9
          refine ⟨vp4 (n4_ok a3), ?_⟩
          refine ⟨_, _, _, L_come (s := sT 0 s) _ _ _ hr (n4_ok a2) hz ?_, by decide, by decide, by decide⟩
          exact hK
        · refine ⟨vp3 hr, fun q9 e9 => ?_, fun e9 => absurd e9 (Option.some_ne_none _)⟩
          obtain rfl := Option.some.inj e9
          refine ⟨vp4 (n4_ok a2), vp3 hr, fun q9 e9 => ?_, fun e9 => absurd e9 (Option.some_ne_none _)⟩
          obtain rfl := Option.some.inj e9
          refine ⟨vp4 (n4_ok a3), ?_⟩
          refine ⟨_, _, _, L_come (s := sT 0 s) _ _ _ hr (n4_ok a2) hz ?_, by decide, by decide, by decide⟩
          exact hK
      · refine ⟨fun e => absurd e (by decide), fun _ => ?_⟩
        have hK := hG.2 (fun e => a3 e.2.2)
        refine ⟨_, _, _, L_start1 ?_, by decide, by decide, by decide⟩
        refine ⟨fun e => absurd e (by decide), fun _ => ?_⟩
        exact hK
    · refine ⟨fun e => absurd e (by decide), fun _ => ?_⟩
      have hK := hG.2 (fun e => a2 e.2.1)
      refine ⟨_, _, _, L_start1 ?_, by decide, by decide, by decide⟩
      refine ⟨fun e => absurd e (by decide), fun _ => ?_⟩
      exact hK
  · refine ⟨fun e => absurd e (by decide), fun _ => ?_⟩
    have hK := hG.2 (fun e => a1 e.1)
    refine ⟨_, _, _, L_start1 ?_, by decide, by decide, by decide⟩
    refine ⟨fun e => absurd e (by decide), fun _ => ?_⟩
    exact hK
def m_plus (r k f m : Int32) (s : MS) : MO := gd (n3 r ∧ n4 k ∧ n4 f) s (mCome r k (if m = 0 then (mRes r k s).toInt64 + (mRes r f s).toInt64 else (mRes r k s).toInt64 + -(mRes r f s).toInt64) (sT 0 s))
theorem M_plus (r k f m : Int32) (hz : ¬ (mMod r s).toInt64 = 0) (hK : anM K x t (m_plus r k f m s)) : M P n_M_plus [.ref 5, .int r, .int k, .int f, .int m] (hm s x t) 0 0 10 K := by
  refine Mgo ok_M_plus 80 rfl ?_
  have hG := an_gd hK
  refine ⟨_, _, _, L_isNoRing _ (fun a1 => ?_) (fun a1 => ?_), by decide, by decide, by decide⟩
  · refine ⟨fun _ => ?_, fun e => absurd rfl e⟩
    refine ⟨_, _, _, L_isNo _ (fun a2 => ?_) (fun a2 => ?_), by decide, by decide, by decide⟩
    · refine ⟨fun _ => ?_, fun e => absurd rfl e⟩
      refine ⟨_, _, _, L_isNo _ (fun a3 => ?_) (fun a3 => ?_), by decide, by decide, by decide⟩
      · refine ⟨fun _ => ?_, fun e => absurd rfl e⟩
        have hK := hG.1 ⟨a1, a2, a3⟩
        refine ⟨_, _, _, L_start0 ?_, by decide, by decide, by decide⟩
        refine ⟨fun _ => ?_, fun e => absurd rfl e⟩
        have hr := n3_ok a1
        rcases c3 hr with rfl | rfl | rfl
        · refine ⟨vp3 hr, fun q9 e9 => ?_, fun e9 => absurd e9 (Option.some_ne_none _)⟩
          obtain rfl := Option.some.inj e9
          refine ⟨vp4 (n4_ok a3), vp3 hr, fun q9 e9 => ?_, fun e9 => absurd e9 (Option.some_ne_none _)⟩
          obtain rfl := Option.some.inj e9
          refine ⟨vp4 (n4_ok a2), ?_⟩
          refine ⟨fun q => ?_, fun q => ?_⟩
          · rw [if_pos q] at hK
            refine ⟨_, _, _, L_come (s := sT 0 s) _ _ _ hr (n4_ok a2) hz ?_, by decide, by decide, by decide⟩
            exact hK
          · rw [if_neg q] at hK
            refine ⟨_, _, _, L_come (s := sT 0 s) _ _ _ hr (n4_ok a2) hz ?_, by decide, by decide, by decide⟩
            exact hK
        · refine ⟨vp3 hr, fun q9 e9 => ?_, fun e9 => absurd e9 (Option.some_ne_none _)⟩
          obtain rfl := Option.some.inj e9
          refine ⟨vp4 (n4_ok a3), vp3 hr, fun q9 e9 => ?_, fun e9 => absurd e9 (Option.some_ne_none _)⟩
          obtain rfl := Option.some.inj e9
          refine ⟨vp4 (n4_ok a2), ?_⟩
          refine ⟨fun q => ?_, fun q => ?_⟩
          · rw [if_pos q] at hK
            refine ⟨_, _, _, L_come (s := sT 0 s) _ _ _ hr (n4_ok a2) hz ?_, by decide, by decide, by decide⟩
            exact hK
          · rw [if_neg q] at hK
            refine ⟨_, _, _, L_come (s := sT 0 s) _ _ _ hr (n4_ok a2) hz ?_, by decide, by decide, by decide⟩
            exact hK
        · refine ⟨vp3 hr, fun q9 e9 => ?_, fun e9 => absurd e9 (Option.some_ne_none _)⟩
          obtain rfl := Option.some.inj e9
          refine ⟨vp4 (n4_ok a3), vp3 hr, fun q9 e9 => ?_, fun e9 => absurd e9 (Option.some_ne_none _)⟩
          obtain rfl := Option.some.inj e9
          refine ⟨vp4 (n4_ok a2), ?_⟩
          refine ⟨fun q => ?_, fun q => ?_⟩
          · rw [if_pos q] at hK
            refine ⟨_, _, _, L_come (s := sT 0 s) _ _ _ hr (n4_ok a2) hz ?_, by decide, by decide, by decide⟩
            exact hK
          · rw [if_neg q] at hK
            refine ⟨_, _, _, L_come (s := sT 0 s) _ _ _ hr (n4_ok a2) hz ?_, by decide, by decide, by decide⟩
            exact hK
      · refine ⟨fun e => absurd e (by decide), fun _ => ?_⟩
        have hK := hG.2 (fun e => a3 e.2.2)
        refine ⟨_, _, _, L_start1 ?_, by decide, by decide, by decide⟩
        refine ⟨fun e => absurd e (by decide), fun _ => ?_⟩
        exact hK
    · refine ⟨fun e => absurd e (by decide), fun _ => ?_⟩
      have hK := hG.2 (fun e => a2 e.2.1)
      refine ⟨_, _, _, L_start1 ?_, by decide, by decide, by decide⟩
      refine ⟨fun e => absurd e (by decide), fun _ => ?_⟩
      exact hK
  · refine ⟨fun e => absurd e (by decide), fun _ => ?_⟩
    have hK := hG.2 (fun e => a1 e.1)
    refine ⟨_, _, _, L_start1 ?_, by decide, by decide, by decide⟩
    refine ⟨fun e => absurd e (by decide), fun _ => ?_⟩
    exact hK
def m_areAlike (r l f g : Int32) (s : MS) : MO := gd (n3 r ∧ n4 f ∧ n4 g) s ((if mRest (mNow l f (sT 0 s)) (mM (sT 0 s) r.toNatClampNeg).toInt64 = mRest (mNow l g (sT 0 s)) (mM (sT 0 s) r.toNatClampNeg).toInt64 then 1 else 0, sT 0 s))
theorem M_areAlike (r l f g : Int32) (hz : ¬ (mMod r s).toInt64 = 0) (hK : anM K x t (m_areAlike r l f g s)) : M P n_M_areAlike [.ref 5, .int r, .int l, .int f, .int g] (hm s x t) 0 0 10 K := by
  refine Mgo ok_M_areAlike 80 rfl ?_
  have hG := an_gd hK
  refine ⟨_, _, _, L_isNoRing _ (fun a1 => ?_) (fun a1 => ?_), by decide, by decide, by decide⟩
  · refine ⟨fun _ => ?_, fun e => absurd rfl e⟩
    refine ⟨_, _, _, L_isNo _ (fun a2 => ?_) (fun a2 => ?_), by decide, by decide, by decide⟩
    · refine ⟨fun _ => ?_, fun e => absurd rfl e⟩
      refine ⟨_, _, _, L_isNo _ (fun a3 => ?_) (fun a3 => ?_), by decide, by decide, by decide⟩
      · refine ⟨fun _ => ?_, fun e => absurd rfl e⟩
        have hK := hG.1 ⟨a1, a2, a3⟩
        refine ⟨_, _, _, L_start0 ?_, by decide, by decide, by decide⟩
        refine ⟨fun _ => ?_, fun e => absurd rfl e⟩
        refine ⟨_, _, _, L_now _ _ (n4_ok a2) ?_, by decide, by decide, by decide⟩
        refine ⟨vp3 (n3_ok a1), ?_⟩
        refine ⟨_, _, _, L_mrest _ _ hz ?_, by decide, by decide, by decide⟩
        refine ⟨_, _, _, L_now _ _ (n4_ok a3) ?_, by decide, by decide, by decide⟩
        refine ⟨vp3 (n3_ok a1), ?_⟩
        refine ⟨_, _, _, L_mrest _ _ hz ?_, by decide, by decide, by decide⟩
        refine ⟨fun q => ?_, fun q => ?_⟩
        · rw [if_pos q] at hK
          exact ⟨rfl, hK⟩
        · rw [if_neg q] at hK
          exact ⟨rfl, hK⟩
      · refine ⟨fun e => absurd e (by decide), fun _ => ?_⟩
        have hK := hG.2 (fun e => a3 e.2.2)
        refine ⟨_, _, _, L_start1 ?_, by decide, by decide, by decide⟩
        refine ⟨fun e => absurd e (by decide), fun _ => ?_⟩
        exact ⟨rfl, hK⟩
    · refine ⟨fun e => absurd e (by decide), fun _ => ?_⟩
      have hK := hG.2 (fun e => a2 e.2.1)
      refine ⟨_, _, _, L_start1 ?_, by decide, by decide, by decide⟩
      refine ⟨fun e => absurd e (by decide), fun _ => ?_⟩
      exact ⟨rfl, hK⟩
  · refine ⟨fun e => absurd e (by decide), fun _ => ?_⟩
    have hK := hG.2 (fun e => a1 e.1)
    refine ⟨_, _, _, L_start1 ?_, by decide, by decide, by decide⟩
    refine ⟨fun e => absurd e (by decide), fun _ => ?_⟩
    exact ⟨rfl, hK⟩
theorem nzabs {v : Int64} (h : ¬ v = 0) : ¬ lAbs v = 0 := by
  unfold lAbs
  by_cases q : v < 0
  · rw [if_pos q]
    exact fun e => h (by have := congrArg (fun z => -z) e; simpa using this)
  · rw [if_neg q]
    exact h
def m_inverse (r k : Int32) (s : MS) : MO := gd (n3 r ∧ n4 k) s (if mUnit r k (sT 0 s) = 0 then mNo (sT 0 s) else (1, (mCome r k (mAgainst (mRes r k s).toInt64 (lAbs (mMod r s).toInt64)) (sT 0 s)).2))
theorem M_inverse (r k : Int32) (hz : ¬ (mMod r s).toInt64 = 0) (hK : anM K x t (m_inverse r k s)) : M P n_M_inverse [.ref 5, .int r, .int k] (hm s x t) 0 0 10 K := by
  refine Mgo ok_M_inverse 80 rfl ?_
  have hG := an_gd hK
  refine ⟨_, _, _, L_isNoRing _ (fun a1 => ?_) (fun a1 => ?_), by decide, by decide, by decide⟩
  · refine ⟨fun _ => ?_, fun e => absurd rfl e⟩
    refine ⟨_, _, _, L_isNo _ (fun a2 => ?_) (fun a2 => ?_), by decide, by decide, by decide⟩
    · refine ⟨fun _ => ?_, fun e => absurd rfl e⟩
      have hK := hG.1 ⟨a1, a2⟩
      refine ⟨_, _, _, L_start0 ?_, by decide, by decide, by decide⟩
      refine ⟨fun _ => ?_, fun e => absurd rfl e⟩
      refine ⟨_, _, _, L_unitNow (s := sT 0 s) _ _ (n3_ok a1) (n4_ok a2) ?_, by decide, by decide, by decide⟩
      refine ⟨fun q => ?_, fun q => ?_⟩
      · rw [if_pos q] at hK
        refine ⟨_, _, _, L_mno ?_, by decide, by decide, by decide⟩
        exact hK
      · rw [if_neg q] at hK
        have hr := n3_ok a1
        rcases c3 hr with rfl | rfl | rfl
        · refine ⟨vp3 hr, fun q9 e9 => ?_, fun e9 => absurd e9 (Option.some_ne_none _)⟩
          obtain rfl := Option.some.inj e9
          refine ⟨vp4 (n4_ok a2), vp3 hr, ?_⟩
          refine ⟨_, _, _, L_absJ _ _ ?_, by decide, by decide, by decide⟩
          refine ⟨_, _, _, L_magainst _ _ (nzabs hz) ?_, by decide, by decide, by decide⟩
          refine ⟨_, _, _, L_come (s := sT 0 s) _ _ _ hr (n4_ok a2) hz ?_, by decide, by decide, by decide⟩
          exact hK
        · refine ⟨vp3 hr, fun q9 e9 => ?_, fun e9 => absurd e9 (Option.some_ne_none _)⟩
          obtain rfl := Option.some.inj e9
          refine ⟨vp4 (n4_ok a2), vp3 hr, ?_⟩
          refine ⟨_, _, _, L_absJ _ _ ?_, by decide, by decide, by decide⟩
          refine ⟨_, _, _, L_magainst _ _ (nzabs hz) ?_, by decide, by decide, by decide⟩
          refine ⟨_, _, _, L_come (s := sT 0 s) _ _ _ hr (n4_ok a2) hz ?_, by decide, by decide, by decide⟩
          exact hK
        · refine ⟨vp3 hr, fun q9 e9 => ?_, fun e9 => absurd e9 (Option.some_ne_none _)⟩
          obtain rfl := Option.some.inj e9
          refine ⟨vp4 (n4_ok a2), vp3 hr, ?_⟩
          refine ⟨_, _, _, L_absJ _ _ ?_, by decide, by decide, by decide⟩
          refine ⟨_, _, _, L_magainst _ _ (nzabs hz) ?_, by decide, by decide, by decide⟩
          refine ⟨_, _, _, L_come (s := sT 0 s) _ _ _ hr (n4_ok a2) hz ?_, by decide, by decide, by decide⟩
          exact hK
    · refine ⟨fun e => absurd e (by decide), fun _ => ?_⟩
      have hK := hG.2 (fun e => a2 e.2)
      refine ⟨_, _, _, L_start1 ?_, by decide, by decide, by decide⟩
      refine ⟨fun e => absurd e (by decide), fun _ => ?_⟩
      exact hK
  · refine ⟨fun e => absurd e (by decide), fun _ => ?_⟩
    have hK := hG.2 (fun e => a1 e.1)
    refine ⟨_, _, _, L_start1 ?_, by decide, by decide, by decide⟩
    refine ⟨fun e => absurd e (by decide), fun _ => ?_⟩
    exact hK
def m_knock (s : MS) : MO := (mK s + 1, (0, s.2.1, s.2.2.1, s.2.2.2.1, s.2.2.2.2.1, mF s, mK s + 1))
theorem M_knock (hK : anM K x t (m_knock s)) : M P n_M_knock [.ref 5] (hm s x t) 0 0 6 K := by
  refine Mgo ok_M_knock 60 rfl ?_
  exact hK
theorem M_isSound (hK : anM K x t (1, sT 0 s)) : M P n_M_isSound [.ref 5] (hm s x t) 0 0 6 K := by
  refine Mgo ok_M_isSound 60 rfl ?_
  exact ⟨rfl, hK⟩
theorem M_thrown (hK : anM K x t (mTh s, s)) : M P n_M_thrown [.ref 5] (hm s x t) 0 0 6 K := by
  refine Mgo ok_M_thrown 60 rfl ?_
  exact hK
end MODO
