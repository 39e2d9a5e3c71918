section
/-! THE MODEL: what is asked of it -/
def gd (c : Prop) [Decidable c] (s : MS) (r : MO) : MO := if c then r else (0, sT 1 s)
def rf (c : Prop) [Decidable c] (s : MS) (r : MO) : MO := if c then r else (0, sT 2 s)
theorem an_gd {K : Kt} {x : XS} {t : mH} {c : Prop} [Decidable c] {s : MS} {r : MO} (hK : anM K x t (gd c s r)) : (c → anM K x t r) ∧ (¬ c → anM K x t (0, sT 1 s)) := by
  unfold gd at hK
  by_cases q : c
  · rw [if_pos q] at hK
    exact ⟨fun _ => hK, fun e => absurd q e⟩
  · rw [if_neg q] at hK
    exact ⟨fun e => absurd e q, fun _ => hK⟩
theorem an_rf {K : Kt} {x : XS} {t : mH} {c : Prop} [Decidable c] {s : MS} {r : MO} (hK : anM K x t (rf c s r)) : (c → anM K x t r) ∧ (¬ c → anM K x t (0, sT 2 s)) := by
  unfold rf at hK
  by_cases q : c
  · rw [if_pos q] at hK
    exact ⟨fun _ => hK, fun e => absurd q e⟩
  · rw [if_neg q] at hK
    exact ⟨fun e => absurd e q, fun _ => hK⟩
theorem nz64 {m : Int32} (h : ¬ m = 0) : ¬ m.toInt64 = 0 := fun e => h (by
  have := congrArg Int64.toInt e
  rw [Int32.toInt_toInt64] at this
  exact Int32.toInt_inj.mp (this.trans (by decide)))
section MODO
variable {P : GP} {K : Kt} {s : MS} {x : XS} {t : mH}
def m_put (l k hi lo : Int32) (s : MS) : MO := gd (n4 k) s (mBecome l k (if l = 0 then lo.toInt64 else hi.toInt64 * 4294967296 + (if lo < 0 then lo.toInt64 + 4294967296 else lo.toInt64)) (sT 0 s))
theorem M_put (l k hi lo : Int32)  (hK : anM K x t (m_put l k hi lo s)) : M P n_M_put [.ref 5, .int l, .int k, .int hi, .int lo] (hm s x t) 0 0 10 K := by
  refine Mgo ok_M_put 80 rfl ?_
  have hG := an_gd hK
  refine ⟨_, _, _, L_isNo _ (fun a1 => ?_) (fun a1 => ?_), by decide, by decide, by decide⟩
  · skip
    have hK := hG.1 a1
    refine ⟨_, _, _, L_start0 ?_, by decide, by decide, by decide⟩
    refine ⟨fun _ => ?_, fun e => absurd rfl e⟩
    refine ⟨fun q => ?_, fun q => ?_⟩
    · rw [if_pos q] at hK
      refine ⟨_, _, _, L_become _ _ _ (n4_ok a1) ?_, by decide, by decide, by decide⟩
      exact hK
    · rw [if_neg q] at hK
      refine ⟨fun q2 => ?_, fun q2 => ?_⟩
      · rw [if_pos q2] at hK
        refine ⟨_, _, _, L_become _ _ _ (n4_ok a1) ?_, by decide, by decide, by decide⟩
        exact hK
      · rw [if_neg q2] at hK
        refine ⟨_, _, _, L_become _ _ _ (n4_ok a1) ?_, by decide, by decide, by decide⟩
        exact hK
  · skip
    have hK := hG.2 a1
    refine ⟨_, _, _, L_start1 ?_, by decide, by decide, by decide⟩
    refine ⟨fun e => absurd e (by decide), fun _ => ?_⟩
    exact hK
def m_copy (l k f : Int32) (s : MS) : MO := gd (n4 k ∧ n4 f) s (mBecome l k (mNow l f (sT 0 s)) (sT 0 s))
theorem M_copy (l k f : Int32)  (hK : anM K x t (m_copy l k f s)) : M P n_M_copy [.ref 5, .int l, .int k, .int f] (hm s x t) 0 0 10 K := by
  refine Mgo ok_M_copy 80 rfl ?_
  have hG := an_gd hK
  refine ⟨_, _, _, L_isNo _ (fun a1 => ?_) (fun a1 => ?_), by decide, by decide, by decide⟩
  · refine ⟨fun _ => ?_, fun e => absurd rfl e⟩
    refine ⟨_, _, _, L_isNo _ (fun a2 => ?_) (fun a2 => ?_), by decide, by decide, by decide⟩
    · refine ⟨fun _ => ?_, fun e => absurd rfl e⟩
      have hK := hG.1 ⟨a1, a2⟩
      refine ⟨_, _, _, L_start0 ?_, by decide, by decide, by decide⟩
      refine ⟨fun _ => ?_, fun e => absurd rfl e⟩
      refine ⟨_, _, _, L_now _ _ (n4_ok a2) ?_, by decide, by decide, by decide⟩
      refine ⟨_, _, _, L_become _ _ _ (n4_ok a1) ?_, by decide, by decide, by decide⟩
      exact hK
    · refine ⟨fun e => absurd e (by decide), fun _ => ?_⟩
      have hK := hG.2 (fun e => a2 e.2)
      refine ⟨_, _, _, L_start1 ?_, by decide, by decide, by decide⟩
      refine ⟨fun e => absurd e (by decide), fun _ => ?_⟩
      exact hK
  · refine ⟨fun e => absurd e (by decide), fun _ => ?_⟩
    have hK := hG.2 (fun e => a1 e.1)
    refine ⟨_, _, _, L_start1 ?_, by decide, by decide, by decide⟩
    refine ⟨fun e => absurd e (by decide), fun _ => ?_⟩
    exact hK
def m_widen (k f : Int32) (s : MS) : MO := gd (n4 k ∧ n4 f) s (mBecome 1 k (mI (sT 0 s) f.toNatClampNeg) (sT 0 s))
theorem M_widen (k f : Int32)  (hK : anM K x t (m_widen k f s)) : M P n_M_widen [.ref 5, .int k, .int f] (hm s x t) 0 0 10 K := by
  refine Mgo ok_M_widen 80 rfl ?_
  have hG := an_gd hK
  refine ⟨_, _, _, L_isNo _ (fun a1 => ?_) (fun a1 => ?_), by decide, by decide, by decide⟩
  · refine ⟨fun _ => ?_, fun e => absurd rfl e⟩
    refine ⟨_, _, _, L_isNo _ (fun a2 => ?_) (fun a2 => ?_), by decide, by decide, by decide⟩
    · refine ⟨fun _ => ?_, fun e => absurd rfl e⟩
      have hK := hG.1 ⟨a1, a2⟩
      refine ⟨_, _, _, L_start0 ?_, by decide, by decide, by decide⟩
      refine ⟨fun _ => ?_, fun e => absurd rfl e⟩
      refine ⟨vp4 (n4_ok a2), ?_⟩
      refine ⟨_, _, _, L_become _ _ _ (n4_ok a1) ?_, by decide, by decide, by decide⟩
      exact hK
    · refine ⟨fun e => absurd e (by decide), fun _ => ?_⟩
      have hK := hG.2 (fun e => a2 e.2)
      refine ⟨_, _, _, L_start1 ?_, by decide, by decide, by decide⟩
      refine ⟨fun e => absurd e (by decide), fun _ => ?_⟩
      exact hK
  · refine ⟨fun e => absurd e (by decide), fun _ => ?_⟩
    have hK := hG.2 (fun e => a1 e.1)
    refine ⟨_, _, _, L_start1 ?_, by decide, by decide, by decide⟩
    refine ⟨fun e => absurd e (by decide), fun _ => ?_⟩
    exact hK
def m_narrow (k f : Int32) (s : MS) : MO := gd (n4 k ∧ n4 f) s (if (mL (sT 0 s) f.toNatClampNeg) = (mL (sT 0 s) f.toNatClampNeg).toInt32.toInt64 then mBecome 0 k (mL (sT 0 s) f.toNatClampNeg) (sT 0 s) else mNo (sT 0 s))
theorem M_narrow (k f : Int32)  (hK : anM K x t (m_narrow k f s)) : M P n_M_narrow [.ref 5, .int k, .int f] (hm s x t) 0 0 10 K := by
  refine Mgo ok_M_narrow 80 rfl ?_
  have hG := an_gd hK
  refine ⟨_, _, _, L_isNo _ (fun a1 => ?_) (fun a1 => ?_), by decide, by decide, by decide⟩
  · refine ⟨fun _ => ?_, fun e => absurd rfl e⟩
    refine ⟨_, _, _, L_isNo _ (fun a2 => ?_) (fun a2 => ?_), by decide, by decide, by decide⟩
    · refine ⟨fun _ => ?_, fun e => absurd rfl e⟩
      have hK := hG.1 ⟨a1, a2⟩
      refine ⟨_, _, _, L_start0 ?_, by decide, by decide, by decide⟩
      refine ⟨fun _ => ?_, fun e => absurd rfl e⟩
      refine ⟨vp4 (n4_ok a2), vp4 (n4_ok a2), ?_⟩
      refine ⟨fun q => ?_, fun q => ?_⟩
      · rw [if_pos q] at hK
        refine ⟨vp4 (n4_ok a2), ?_⟩
        refine ⟨_, _, _, L_become _ _ _ (n4_ok a1) ?_, by decide, by decide, by decide⟩
        exact hK
      · rw [if_neg q] at hK
        refine ⟨_, _, _, L_mno ?_, by decide, by decide, by decide⟩
        exact hK
    · refine ⟨fun e => absurd e (by decide), fun _ => ?_⟩
      have hK := hG.2 (fun e => a2 e.2)
      refine ⟨_, _, _, L_start1 ?_, by decide, by decide, by decide⟩
      refine ⟨fun e => absurd e (by decide), fun _ => ?_⟩
      exact hK
  · refine ⟨fun e => absurd e (by decide), fun _ => ?_⟩
    have hK := hG.2 (fun e => a1 e.1)
    refine ⟨_, _, _, L_start1 ?_, by decide, by decide, by decide⟩
    refine ⟨fun e => absurd e (by decide), fun _ => ?_⟩
    exact hK
def m_exact (l k f w : Int32) (s : MS) : MO := gd (n4 k ∧ n4 f) s (rf (okC w 2) (sT 0 s) (if mWithin l (mNow l k (sT 0 s)) (mNow l f (sT 0 s)) w = 0 then mNo (sT 0 s) else mBecome l k (wJoin (mNow l k (sT 0 s)) (mNow l f (sT 0 s)) w) (sT 0 s)))
theorem M_exact (l k f w : Int32)  (hK : anM K x t (m_exact l k f w s)) : M P n_M_exact [.ref 5, .int l, .int k, .int f, .int w] (hm s x t) 0 0 10 K := by
  refine Mgo ok_M_exact 80 rfl ?_
  have hG := an_gd hK
  refine ⟨_, _, _, L_isNo _ (fun a1 => ?_) (fun a1 => ?_), by decide, by decide, by decide⟩
  · refine ⟨fun _ => ?_, fun e => absurd rfl e⟩
    refine ⟨_, _, _, L_isNo _ (fun a2 => ?_) (fun a2 => ?_), by decide, by decide, by decide⟩
    · refine ⟨fun _ => ?_, fun e => absurd rfl e⟩
      have hK := hG.1 ⟨a1, a2⟩
      refine ⟨_, _, _, L_start0 ?_, by decide, by decide, by decide⟩
      refine ⟨fun _ => ?_, fun e => absurd rfl e⟩
      have hR := an_rf hK
      refine ⟨fun w1 => ?_, fun w1 => ?_⟩
      · have hK := hR.2 (fun e => e.1 w1)
        refine ⟨_, _, _, L_mrefuse1 2 rfl (by decide) ?_, by decide, by decide, by decide⟩
        refine ⟨fun e => absurd e (by decide), fun _ => ?_⟩
        exact hK
      · refine ⟨fun w2 => ?_, fun w2 => ?_⟩
        · have hK := hR.2 (fun e => e.2 w2)
          refine ⟨_, _, _, L_mrefuse1 2 rfl (by decide) ?_, by decide, by decide, by decide⟩
          refine ⟨fun e => absurd e (by decide), fun _ => ?_⟩
          exact hK
        · have hK := hR.1 ⟨w1, w2⟩
          refine ⟨_, _, _, L_mrefuse0 2 rfl ?_, by decide, by decide, by decide⟩
          refine ⟨fun _ => ?_, fun e => absurd rfl e⟩
          refine ⟨_, _, _, L_now _ _ (n4_ok a1) ?_, by decide, by decide, by decide⟩
          refine ⟨_, _, _, L_now _ _ (n4_ok a2) ?_, by decide, by decide, by decide⟩
          refine ⟨_, _, _, L_mwithin _ _ _ _ ?_, by decide, by decide, by decide⟩
          refine ⟨fun q => ?_, fun q => ?_⟩
          · rw [if_pos q] at hK
            refine ⟨_, _, _, L_mno ?_, by decide, by decide, by decide⟩
            exact hK
          · rw [if_neg q] at hK
            refine ⟨_, _, _, L_both _ _ _ ?_, by decide, by decide, by decide⟩
            refine ⟨_, _, _, L_become _ _ _ (n4_ok a1) ?_, by decide, by decide, by decide⟩
            exact hK
    · refine ⟨fun e => absurd e (by decide), fun _ => ?_⟩
      have hK := hG.2 (fun e => a2 e.2)
      refine ⟨_, _, _, L_start1 ?_, by decide, by decide, by decide⟩
      refine ⟨fun e => absurd e (by decide), fun _ => ?_⟩
      exact hK
  · refine ⟨fun e => absurd e (by decide), fun _ => ?_⟩
    have hK := hG.2 (fun e => a1 e.1)
    refine ⟨_, _, _, L_start1 ?_, by decide, by decide, by decide⟩
    refine ⟨fun e => absurd e (by decide), fun _ => ?_⟩
    exact hK
def m_fits (l k f w : Int32) (s : MS) : MO := gd (n4 k ∧ n4 f) s (rf (okC w 2) (sT 0 s) (if mWithin l (mNow l k (sT 0 s)) (mNow l f (sT 0 s)) w = 0 then 0 else 1, sT 0 s))
theorem M_fits (l k f w : Int32)  (hK : anM K x t (m_fits l k f w s)) : M P n_M_fits [.ref 5, .int l, .int k, .int f, .int w] (hm s x t) 0 0 10 K := by
  refine Mgo ok_M_fits 80 rfl ?_
  have hG := an_gd hK
  refine ⟨_, _, _, L_isNo _ (fun a1 => ?_) (fun a1 => ?_), by decide, by decide, by decide⟩
  · refine ⟨fun _ => ?_, fun e => absurd rfl e⟩
    refine ⟨_, _, _, L_isNo _ (fun a2 => ?_) (fun a2 => ?_), by decide, by decide, by decide⟩
    · refine ⟨fun _ => ?_, fun e => absurd rfl e⟩
      have hK := hG.1 ⟨a1, a2⟩
      refine ⟨_, _, _, L_start0 ?_, by decide, by decide, by decide⟩
      refine ⟨fun _ => ?_, fun e => absurd rfl e⟩
      have hR := an_rf hK
      refine ⟨fun w1 => ?_, fun w1 => ?_⟩
      · have hK := hR.2 (fun e => e.1 w1)
        refine ⟨_, _, _, L_mrefuse1 2 rfl (by decide) ?_, by decide, by decide, by decide⟩
        refine ⟨fun e => absurd e (by decide), fun _ => ?_⟩
        exact ⟨rfl, hK⟩
      · refine ⟨fun w2 => ?_, fun w2 => ?_⟩
        · have hK := hR.2 (fun e => e.2 w2)
          refine ⟨_, _, _, L_mrefuse1 2 rfl (by decide) ?_, by decide, by decide, by decide⟩
          refine ⟨fun e => absurd e (by decide), fun _ => ?_⟩
          exact ⟨rfl, hK⟩
        · have hK := hR.1 ⟨w1, w2⟩
          refine ⟨_, _, _, L_mrefuse0 2 rfl ?_, by decide, by decide, by decide⟩
          refine ⟨fun _ => ?_, fun e => absurd rfl e⟩
          refine ⟨_, _, _, L_now _ _ (n4_ok a1) ?_, by decide, by decide, by decide⟩
          refine ⟨_, _, _, L_now _ _ (n4_ok a2) ?_, by decide, by decide, by decide⟩
          refine ⟨_, _, _, L_mwithin _ _ _ _ ?_, by decide, by decide, by decide⟩
          refine ⟨fun q => ?_, fun q => ?_⟩
          · rw [if_pos q] at hK
            exact ⟨rfl, hK⟩
          · rw [if_neg q] at hK
            exact ⟨rfl, hK⟩
    · refine ⟨fun e => absurd e (by decide), fun _ => ?_⟩
      have hK := hG.2 (fun e => a2 e.2)
      refine ⟨_, _, _, L_start1 ?_, by decide, by decide, by decide⟩
      refine ⟨fun e => absurd e (by decide), fun _ => ?_⟩
      exact ⟨rfl, hK⟩
  · refine ⟨fun e => absurd e (by decide), fun _ => ?_⟩
    have hK := hG.2 (fun e => a1 e.1)
    refine ⟨_, _, _, L_start1 ?_, by decide, by decide, by decide⟩
    refine ⟨fun e => absurd e (by decide), fun _ => ?_⟩
    exact ⟨rfl, hK⟩
def m_alone (l k w : Int32) (s : MS) : MO := gd (n4 k) s (rf (okC w 2) (sT 0 s) (if w = 2 then (if mWithin l 0 (mNow l k (sT 0 s)) 1 = 0 then mNo (sT 0 s) else mBecome l k (-(mNow l k (sT 0 s))) (sT 0 s)) else (if mWithin l (mNow l k (sT 0 s)) 1 w = 0 then mNo (sT 0 s) else mBecome l k (wJoin (mNow l k (sT 0 s)) 1 w) (sT 0 s))))
theorem M_alone (l k w : Int32)  (hK : anM K x t (m_alone l k w s)) : M P n_M_alone [.ref 5, .int l, .int k, .int w] (hm s x t) 0 0 10 K := by
  refine Mgo ok_M_alone 80 rfl ?_
  have hG := an_gd hK
  refine ⟨_, _, _, L_isNo _ (fun a1 => ?_) (fun a1 => ?_), by decide, by decide, by decide⟩
  · skip
    have hK := hG.1 a1
    refine ⟨_, _, _, L_start0 ?_, by decide, by decide, by decide⟩
    refine ⟨fun _ => ?_, fun e => absurd rfl e⟩
    have hR := an_rf hK
    refine ⟨fun w1 => ?_, fun w1 => ?_⟩
    · have hK := hR.2 (fun e => e.1 w1)
      refine ⟨_, _, _, L_mrefuse1 2 rfl (by decide) ?_, by decide, by decide, by decide⟩
      refine ⟨fun e => absurd e (by decide), fun _ => ?_⟩
      exact hK
    · refine ⟨fun w2 => ?_, fun w2 => ?_⟩
      · have hK := hR.2 (fun e => e.2 w2)
        refine ⟨_, _, _, L_mrefuse1 2 rfl (by decide) ?_, by decide, by decide, by decide⟩
        refine ⟨fun e => absurd e (by decide), fun _ => ?_⟩
        exact hK
      · have hK := hR.1 ⟨w1, w2⟩
        refine ⟨_, _, _, L_mrefuse0 2 rfl ?_, by decide, by decide, by decide⟩
        refine ⟨fun _ => ?_, fun e => absurd rfl e⟩
        refine ⟨_, _, _, L_now _ _ (n4_ok a1) ?_, by decide, by decide, by decide⟩
        refine ⟨fun q => ?_, fun q => ?_⟩
        · rw [if_pos q] at hK
          refine ⟨_, _, _, L_mwithin _ _ _ _ ?_, by decide, by decide, by decide⟩
          refine ⟨fun q2 => ?_, fun q2 => ?_⟩
          · rw [if_pos q2] at hK
            refine ⟨_, _, _, L_mno ?_, by decide, by decide, by decide⟩
            exact hK
          · rw [if_neg q2] at hK
            refine ⟨_, _, _, L_become _ _ _ (n4_ok a1) ?_, by decide, by decide, by decide⟩
            exact hK
        · rw [if_neg q] at hK
          refine ⟨_, _, _, L_mwithin _ _ _ _ ?_, by decide, by decide, by decide⟩
          refine ⟨fun q2 => ?_, fun q2 => ?_⟩
          · rw [if_pos q2] at hK
            refine ⟨_, _, _, L_mno ?_, by decide, by decide, by decide⟩
            exact hK
          · rw [if_neg q2] at hK
            refine ⟨_, _, _, L_both _ _ _ ?_, by decide, by decide, by decide⟩
            refine ⟨_, _, _, L_become _ _ _ (n4_ok a1) ?_, by decide, by decide, by decide⟩
            exact hK
  · skip
    have hK := hG.2 a1
    refine ⟨_, _, _, L_start1 ?_, by decide, by decide, by decide⟩
    refine ⟨fun e => absurd e (by decide), fun _ => ?_⟩
    exact hK
def m_abs (l k : Int32) (s : MS) : MO := gd (n4 k) s (if (mNow l k (sT 0 s)) < 0 then mBecome l k (-(mNow l k (sT 0 s))) (sT 0 s) else (mSign (mNow l k (sT 0 s)), sT 0 s))
theorem M_abs (l k : Int32)  (hK : anM K x t (m_abs l k s)) : M P n_M_abs [.ref 5, .int l, .int k] (hm s x t) 0 0 10 K := by
  refine Mgo ok_M_abs 80 rfl ?_
  have hG := an_gd hK
  refine ⟨_, _, _, L_isNo _ (fun a1 => ?_) (fun a1 => ?_), by decide, by decide, by decide⟩
  · skip
    have hK := hG.1 a1
    refine ⟨_, _, _, L_start0 ?_, by decide, by decide, by decide⟩
    refine ⟨fun _ => ?_, fun e => absurd rfl e⟩
    refine ⟨_, _, _, L_now _ _ (n4_ok a1) ?_, by decide, by decide, by decide⟩
    refine ⟨fun q => ?_, fun q => ?_⟩
    · rw [if_pos q] at hK
      refine ⟨_, _, _, L_now _ _ (n4_ok a1) ?_, by decide, by decide, by decide⟩
      refine ⟨_, _, _, L_become _ _ _ (n4_ok a1) ?_, by decide, by decide, by decide⟩
      exact hK
    · rw [if_neg q] at hK
      refine ⟨_, _, _, L_now _ _ (n4_ok a1) ?_, by decide, by decide, by decide⟩
      refine ⟨_, _, _, L_sign _ ?_, by decide, by decide, by decide⟩
      exact hK
  · skip
    have hK := hG.2 a1
    refine ⟨_, _, _, L_start1 ?_, by decide, by decide, by decide⟩
    refine ⟨fun e => absurd e (by decide), fun _ => ?_⟩
    exact hK
def m_round (l k f w : Int32) (s : MS) : MO := gd (n4 k ∧ n4 f) s (rf (okC w 2) (sT 0 s) (mBecome l k (wJoin (mNow l k (sT 0 s)) (mNow l f (sT 0 s)) w) (sT 0 s)))
theorem M_round (l k f w : Int32)  (hK : anM K x t (m_round l k f w s)) : M P n_M_round [.ref 5, .int l, .int k, .int f, .int w] (hm s x t) 0 0 10 K := by
  refine Mgo ok_M_round 80 rfl ?_
  have hG := an_gd hK
  refine ⟨_, _, _, L_isNo _ (fun a1 => ?_) (fun a1 => ?_), by decide, by decide, by decide⟩
  · refine ⟨fun _ => ?_, fun e => absurd rfl e⟩
    refine ⟨_, _, _, L_isNo _ (fun a2 => ?_) (fun a2 => ?_), by decide, by decide, by decide⟩
    · refine ⟨fun _ => ?_, fun e => absurd rfl e⟩
      have hK := hG.1 ⟨a1, a2⟩
      refine ⟨_, _, _, L_start0 ?_, by decide, by decide, by decide⟩
      refine ⟨fun _ => ?_, fun e => absurd rfl e⟩
      have hR := an_rf hK
      refine ⟨fun w1 => ?_, fun w1 => ?_⟩
      · have hK := hR.2 (fun e => e.1 w1)
        refine ⟨_, _, _, L_mrefuse1 2 rfl (by decide) ?_, by decide, by decide, by decide⟩
        refine ⟨fun e => absurd e (by decide), fun _ => ?_⟩
        exact hK
      · refine ⟨fun w2 => ?_, fun w2 => ?_⟩
        · have hK := hR.2 (fun e => e.2 w2)
          refine ⟨_, _, _, L_mrefuse1 2 rfl (by decide) ?_, by decide, by decide, by decide⟩
          refine ⟨fun e => absurd e (by decide), fun _ => ?_⟩
          exact hK
        · have hK := hR.1 ⟨w1, w2⟩
          refine ⟨_, _, _, L_mrefuse0 2 rfl ?_, by decide, by decide, by decide⟩
          refine ⟨fun _ => ?_, fun e => absurd rfl e⟩
          refine ⟨_, _, _, L_now _ _ (n4_ok a1) ?_, by decide, by decide, by decide⟩
          refine ⟨_, _, _, L_now _ _ (n4_ok a2) ?_, by decide, by decide, by decide⟩
          refine ⟨_, _, _, L_both _ _ _ ?_, by decide, by decide, by decide⟩
          refine ⟨_, _, _, L_become _ _ _ (n4_ok a1) ?_, by decide, by decide, by decide⟩
          exact hK
    · refine ⟨fun e => absurd e (by decide), fun _ => ?_⟩
      have hK := hG.2 (fun e => a2 e.2)
      refine ⟨_, _, _, L_start1 ?_, by decide, by decide, by decide⟩
      refine ⟨fun e => absurd e (by decide), fun _ => ?_⟩
      exact hK
  · refine ⟨fun e => absurd e (by decide), fun _ => ?_⟩
    have hK := hG.2 (fun e => a1 e.1)
    refine ⟨_, _, _, L_start1 ?_, by decide, by decide, by decide⟩
    refine ⟨fun e => absurd e (by decide), fun _ => ?_⟩
    exact hK
def m_extreme (l k f g : Int32) (s : MS) : MO := gd (n4 k ∧ n4 f) s (if g = 0 then (if (mNow l f (sT 0 s)) < (mNow l k (sT 0 s)) then (1, sSet l k (mNow l f (sT 0 s)) (sT 0 s)) else (0, sT 0 s)) else (if (mNow l k (sT 0 s)) < (mNow l f (sT 0 s)) then (1, sSet l k (mNow l f (sT 0 s)) (sT 0 s)) else (0, sT 0 s)))
theorem M_extreme (l k f g : Int32)  (hK : anM K x t (m_extreme l k f g s)) : M P n_M_extreme [.ref 5, .int l, .int k, .int f, .int g] (hm s x t) 0 0 10 K := by
  refine Mgo ok_M_extreme 80 rfl ?_
  have hG := an_gd hK
  refine ⟨_, _, _, L_isNo _ (fun a1 => ?_) (fun a1 => ?_), by decide, by decide, by decide⟩
  · refine ⟨fun _ => ?_, fun e => absurd rfl e⟩
    refine ⟨_, _, _, L_isNo _ (fun a2 => ?_) (fun a2 => ?_), by decide, by decide, by decide⟩
    · refine ⟨fun _ => ?_, fun e => absurd rfl e⟩
      have hK := hG.1 ⟨a1, a2⟩
      refine ⟨_, _, _, L_start0 ?_, by decide, by decide, by decide⟩
      refine ⟨fun _ => ?_, fun e => absurd rfl e⟩
      refine ⟨_, _, _, L_now _ _ (n4_ok a1) ?_, by decide, by decide, by decide⟩
      refine ⟨_, _, _, L_now _ _ (n4_ok a2) ?_, by decide, by decide, by decide⟩
      refine ⟨fun q => ?_, fun q => ?_⟩
      · rw [if_pos q] at hK
        refine ⟨fun q2 => ?_, fun q2 => ?_⟩
        · rw [if_pos q2] at hK
          refine ⟨_, _, _, L_become _ _ _ (n4_ok a1) ?_, by decide, by decide, by decide⟩
          exact hK
        · rw [if_neg q2] at hK
          exact hK
      · rw [if_neg q] at hK
        refine ⟨fun q2 => ?_, fun q2 => ?_⟩
        · rw [if_pos q2] at hK
          refine ⟨_, _, _, L_become _ _ _ (n4_ok a1) ?_, by decide, by decide, by decide⟩
          exact hK
        · rw [if_neg q2] at hK
          exact hK
    · refine ⟨fun e => absurd e (by decide), fun _ => ?_⟩
      have hK := hG.2 (fun e => a2 e.2)
      refine ⟨_, _, _, L_start1 ?_, by decide, by decide, by decide⟩
      refine ⟨fun e => absurd e (by decide), fun _ => ?_⟩
      exact hK
  · refine ⟨fun e => absurd e (by decide), fun _ => ?_⟩
    have hK := hG.2 (fun e => a1 e.1)
    refine ⟨_, _, _, L_start1 ?_, by decide, by decide, by decide⟩
    refine ⟨fun e => absurd e (by decide), fun _ => ?_⟩
    exact hK
def m_average (l k f u : Int32) (s : MS) : MO := gd (n4 k ∧ n4 f) s (mBecome l k (if u = 0 then ((mNow l k (sT 0 s)) >>> ((1 : Int32).toInt64 &&& 63) + (mNow l f (sT 0 s)) >>> ((1 : Int32).toInt64 &&& 63) + ((mNow l k (sT 0 s)) &&& (mNow l f (sT 0 s)) &&& 1)) else ((mNow l k (sT 0 s)) >>> ((1 : Int32).toInt64 &&& 63) + (mNow l f (sT 0 s)) >>> ((1 : Int32).toInt64 &&& 63) + ((mNow l k (sT 0 s)) &&& (mNow l f (sT 0 s)) &&& 1)) + (((mNow l k (sT 0 s)) ^^^ (mNow l f (sT 0 s))) &&& 1)) (sT 0 s))
theorem M_average (l k f u : Int32)  (hK : anM K x t (m_average l k f u s)) : M P n_M_average [.ref 5, .int l, .int k, .int f, .int u] (hm s x t) 0 0 10 K := by
  refine Mgo ok_M_average 80 rfl ?_
  have hG := an_gd hK
  refine ⟨_, _, _, L_isNo _ (fun a1 => ?_) (fun a1 => ?_), by decide, by decide, by decide⟩
  · refine ⟨fun _ => ?_, fun e => absurd rfl e⟩
    refine ⟨_, _, _, L_isNo _ (fun a2 => ?_) (fun a2 => ?_), by decide, by decide, by decide⟩
    · refine ⟨fun _ => ?_, fun e => absurd rfl e⟩
      have hK := hG.1 ⟨a1, a2⟩
      refine ⟨_, _, _, L_start0 ?_, by decide, by decide, by decide⟩
      refine ⟨fun _ => ?_, fun e => absurd rfl e⟩
      refine ⟨_, _, _, L_now _ _ (n4_ok a1) ?_, by decide, by decide, by decide⟩
      refine ⟨_, _, _, L_now _ _ (n4_ok a2) ?_, by decide, by decide, by decide⟩
      refine ⟨fun q => ?_, fun q => ?_⟩
      · rw [if_pos q] at hK
        refine ⟨_, _, _, L_become _ _ _ (n4_ok a1) ?_, by decide, by decide, by decide⟩
        exact hK
      · rw [if_neg q] at hK
        refine ⟨_, _, _, L_become _ _ _ (n4_ok a1) ?_, by decide, by decide, by decide⟩
        exact hK
    · refine ⟨fun e => absurd e (by decide), fun _ => ?_⟩
      have hK := hG.2 (fun e => a2 e.2)
      refine ⟨_, _, _, L_start1 ?_, by decide, by decide, by decide⟩
      refine ⟨fun e => absurd e (by decide), fun _ => ?_⟩
      exact hK
  · refine ⟨fun e => absurd e (by decide), fun _ => ?_⟩
    have hK := hG.2 (fun e => a1 e.1)
    refine ⟨_, _, _, L_start1 ?_, by decide, by decide, by decide⟩
    refine ⟨fun e => absurd e (by decide), fun _ => ?_⟩
    exact hK
def m_high (k f g : Int32) (s : MS) : MO := gd (n4 k ∧ n4 f ∧ n4 g) s (mBecome 1 k (mAbove (mL (sT 0 s) f.toNatClampNeg) (mL (sT 0 s) g.toNatClampNeg)) (sT 0 s))
theorem M_high (k f g : Int32)  (hK : anM K x t (m_high k f g s)) : M P n_M_high [.ref 5, .int k, .int f, .int g] (hm s x t) 0 0 10 K := by
  refine Mgo ok_M_high 80 rfl ?_
  have hG := an_gd hK
  refine ⟨_, _, _, L_isNo _ (fun a1 => ?_) (fun a1 => ?_), by decide, by decide, by decide⟩
  · refine ⟨fun _ => ?_, fun e => absurd rfl e⟩
    refine ⟨_, _, _, L_isNo _ (fun a2 => ?_) (fun a2 => ?_), by decide, by decide, by decide⟩
    · refine ⟨fun _ => ?_, fun e => absurd rfl e⟩
      refine ⟨_, _, _, L_isNo _ (fun a3 => ?_) (fun a3 => ?_), by decide, by decide, by decide⟩
      · refine ⟨fun _ => ?_, fun e => absurd rfl e⟩
        have hK := hG.1 ⟨a1, a2, a3⟩
        refine ⟨_, _, _, L_start0 ?_, by decide, by decide, by decide⟩
        refine ⟨fun _ => ?_, fun e => absurd rfl e⟩
        refine ⟨vp4 (n4_ok a2), vp4 (n4_ok a3), ?_⟩
        refine ⟨_, _, _, L_above _ _ ?_, by decide, by decide, by decide⟩
        refine ⟨_, _, _, L_become _ _ _ (n4_ok a1) ?_, by decide, by decide, by decide⟩
        exact hK
      · refine ⟨fun e => absurd e (by decide), fun _ => ?_⟩
        have hK := hG.2 (fun e => a3 e.2.2)
        refine ⟨_, _, _, L_start1 ?_, by decide, by decide, by decide⟩
        refine ⟨fun e => absurd e (by decide), fun _ => ?_⟩
        exact hK
    · refine ⟨fun e => absurd e (by decide), fun _ => ?_⟩
      have hK := hG.2 (fun e => a2 e.2.1)
      refine ⟨_, _, _, L_start1 ?_, by decide, by decide, by decide⟩
      refine ⟨fun e => absurd e (by decide), fun _ => ?_⟩
      exact hK
  · refine ⟨fun e => absurd e (by decide), fun _ => ?_⟩
    have hK := hG.2 (fun e => a1 e.1)
    refine ⟨_, _, _, L_start1 ?_, by decide, by decide, by decide⟩
    refine ⟨fun e => absurd e (by decide), fun _ => ?_⟩
    exact hK
def m_full (k f g : Int32) (s : MS) : MO := gd (n4 k ∧ n4 f ∧ n4 g) s (mBecome 1 k (mI (sT 0 s) f.toNatClampNeg * mI (sT 0 s) g.toNatClampNeg) (sT 0 s))
theorem M_full (k f g : Int32)  (hK : anM K x t (m_full k f g s)) : M P n_M_full [.ref 5, .int k, .int f, .int g] (hm s x t) 0 0 10 K := by
  refine Mgo ok_M_full 80 rfl ?_
  have hG := an_gd hK
  refine ⟨_, _, _, L_isNo _ (fun a1 => ?_) (fun a1 => ?_), by decide, by decide, by decide⟩
  · refine ⟨fun _ => ?_, fun e => absurd rfl e⟩
    refine ⟨_, _, _, L_isNo _ (fun a2 => ?_) (fun a2 => ?_), by decide, by decide, by decide⟩
    · refine ⟨fun _ => ?_, fun e => absurd rfl e⟩
      refine ⟨_, _, _, L_isNo _ (fun a3 => ?_) (fun a3 => ?_), by decide, by decide, by decide⟩
      · refine ⟨fun _ => ?_, fun e => absurd rfl e⟩
        have hK := hG.1 ⟨a1, a2, a3⟩
        refine ⟨_, _, _, L_start0 ?_, by decide, by decide, by decide⟩
        refine ⟨fun _ => ?_, fun e => absurd rfl e⟩
        refine ⟨vp4 (n4_ok a2), vp4 (n4_ok a3), ?_⟩
        refine ⟨_, _, _, L_become _ _ _ (n4_ok a1) ?_, by decide, by decide, by decide⟩
        exact hK
      · refine ⟨fun e => absurd e (by decide), fun _ => ?_⟩
        have hK := hG.2 (fun e => a3 e.2.2)
        refine ⟨_, _, _, L_start1 ?_, by decide, by decide, by decide⟩
        refine ⟨fun e => absurd e (by decide), fun _ => ?_⟩
        exact hK
    · refine ⟨fun e => absurd e (by decide), fun _ => ?_⟩
      have hK := hG.2 (fun e => a2 e.2.1)
      refine ⟨_, _, _, L_start1 ?_, by decide, by decide, by decide⟩
      refine ⟨fun e => absurd e (by decide), fun _ => ?_⟩
      exact hK
  · refine ⟨fun e => absurd e (by decide), fun _ => ?_⟩
    have hK := hG.2 (fun e => a1 e.1)
    refine ⟨_, _, _, L_start1 ?_, by decide, by decide, by decide⟩
    refine ⟨fun e => absurd e (by decide), fun _ => ?_⟩
    exact hK
def m_timesInt (k f : Int32) (s : MS) : MO := gd (n4 k ∧ n4 f) s (if mWithin 1 (mL (sT 0 s) k.toNatClampNeg) (mI (sT 0 s) f.toNatClampNeg) 2 = 0 then mNo (sT 0 s) else mBecome 1 k (mL (sT 0 s) k.toNatClampNeg * mI (sT 0 s) f.toNatClampNeg) (sT 0 s))
theorem M_timesInt (k f : Int32)  (hK : anM K x t (m_timesInt k f s)) : M P n_M_timesInt [.ref 5, .int k, .int f] (hm s x t) 0 0 10 K := by
  refine Mgo ok_M_timesInt 80 rfl ?_
  have hG := an_gd hK
  refine ⟨_, _, _, L_isNo _ (fun a1 => ?_) (fun a1 => ?_), by decide, by decide, by decide⟩
  · refine ⟨fun _ => ?_, fun e => absurd rfl e⟩
    refine ⟨_, _, _, L_isNo _ (fun a2 => ?_) (fun a2 => ?_), by decide, by decide, by decide⟩
    · refine ⟨fun _ => ?_, fun e => absurd rfl e⟩
      have hK := hG.1 ⟨a1, a2⟩
      refine ⟨_, _, _, L_start0 ?_, by decide, by decide, by decide⟩
      refine ⟨fun _ => ?_, fun e => absurd rfl e⟩
      refine ⟨vp4 (n4_ok a1), vp4 (n4_ok a2), ?_⟩
      refine ⟨_, _, _, L_mwithin _ _ _ _ ?_, by decide, by decide, by decide⟩
      refine ⟨fun q => ?_, fun q => ?_⟩
      · rw [if_pos q] at hK
        refine ⟨_, _, _, L_mno ?_, by decide, by decide, by decide⟩
        exact hK
      · rw [if_neg q] at hK
        refine ⟨vp4 (n4_ok a1), vp4 (n4_ok a2), ?_⟩
        refine ⟨_, _, _, L_become _ _ _ (n4_ok a1) ?_, by decide, by decide, by decide⟩
        exact hK
    · refine ⟨fun e => absurd e (by decide), fun _ => ?_⟩
      have hK := hG.2 (fun e => a2 e.2)
      refine ⟨_, _, _, L_start1 ?_, by decide, by decide, by decide⟩
      refine ⟨fun e => absurd e (by decide), fun _ => ?_⟩
      exact hK
  · refine ⟨fun e => absurd e (by decide), fun _ => ?_⟩
    have hK := hG.2 (fun e => a1 e.1)
    refine ⟨_, _, _, L_start1 ?_, by decide, by decide, by decide⟩
    refine ⟨fun e => absurd e (by decide), fun _ => ?_⟩
    exact hK
def m_floor (l k f r : Int32) (s : MS) : MO := gd (n4 k ∧ n4 f) s (if (mNow l f (sT 0 s)) = 0 then mNo (sT 0 s) else mBecome l k (if r = 0 then mFloor (mNow l k (sT 0 s)) (mNow l f (sT 0 s)) else mRest (mNow l k (sT 0 s)) (mNow l f (sT 0 s))) (sT 0 s))
theorem M_floor (l k f r : Int32)  (hK : anM K x t (m_floor l k f r s)) : M P n_M_floor [.ref 5, .int l, .int k, .int f, .int r] (hm s x t) 0 0 10 K := by
  refine Mgo ok_M_floor 80 rfl ?_
  have hG := an_gd hK
  refine ⟨_, _, _, L_isNo _ (fun a1 => ?_) (fun a1 => ?_), by decide, by decide, by decide⟩
  · refine ⟨fun _ => ?_, fun e => absurd rfl e⟩
    refine ⟨_, _, _, L_isNo _ (fun a2 => ?_) (fun a2 => ?_), by decide, by decide, by decide⟩
    · refine ⟨fun _ => ?_, fun e => absurd rfl e⟩
      have hK := hG.1 ⟨a1, a2⟩
      refine ⟨_, _, _, L_start0 ?_, by decide, by decide, by decide⟩
      refine ⟨fun _ => ?_, fun e => absurd rfl e⟩
      refine ⟨_, _, _, L_now _ _ (n4_ok a2) ?_, by decide, by decide, by decide⟩
      refine ⟨fun q => ?_, fun q => ?_⟩
      · rw [if_pos q] at hK
        refine ⟨_, _, _, L_mno ?_, by decide, by decide, by decide⟩
        exact hK
      · rw [if_neg q] at hK
        refine ⟨fun q2 => ?_, fun q2 => ?_⟩
        · rw [if_pos q2] at hK
          refine ⟨_, _, _, L_now _ _ (n4_ok a1) ?_, by decide, by decide, by decide⟩
          refine ⟨_, _, _, L_mfloor _ _ q ?_, by decide, by decide, by decide⟩
          refine ⟨_, _, _, L_become _ _ _ (n4_ok a1) ?_, by decide, by decide, by decide⟩
          exact hK
        · rw [if_neg q2] at hK
          refine ⟨_, _, _, L_now _ _ (n4_ok a1) ?_, by decide, by decide, by decide⟩
          refine ⟨_, _, _, L_mrest _ _ q ?_, by decide, by decide, by decide⟩
          refine ⟨_, _, _, L_become _ _ _ (n4_ok a1) ?_, by decide, by decide, by decide⟩
          exact hK
    · refine ⟨fun e => absurd e (by decide), fun _ => ?_⟩
      have hK := hG.2 (fun e => a2 e.2)
      refine ⟨_, _, _, L_start1 ?_, by decide, by decide, by decide⟩
      refine ⟨fun e => absurd e (by decide), fun _ => ?_⟩
      exact hK
  · refine ⟨fun e => absurd e (by decide), fun _ => ?_⟩
    have hK := hG.2 (fun e => a1 e.1)
    refine ⟨_, _, _, L_start1 ?_, by decide, by decide, by decide⟩
    refine ⟨fun e => absurd e (by decide), fun _ => ?_⟩
    exact hK
def m_floorInt (k f r : Int32) (s : MS) : MO := gd (n4 k ∧ n4 f) s (if (mI (sT 0 s) f.toNatClampNeg) = 0 then mNo (sT 0 s) else mBecome 1 k (if r = 0 then mFloor (mL (sT 0 s) k.toNatClampNeg) (mI (sT 0 s) f.toNatClampNeg) else mRest (mL (sT 0 s) k.toNatClampNeg) (mI (sT 0 s) f.toNatClampNeg)) (sT 0 s))
theorem M_floorInt (k f r : Int32)  (hK : anM K x t (m_floorInt k f r s)) : M P n_M_floorInt [.ref 5, .int k, .int f, .int r] (hm s x t) 0 0 10 K := by
  refine Mgo ok_M_floorInt 80 rfl ?_
  have hG := an_gd hK
  refine ⟨_, _, _, L_isNo _ (fun a1 => ?_) (fun a1 => ?_), by decide, by decide, by decide⟩
  · refine ⟨fun _ => ?_, fun e => absurd rfl e⟩
    refine ⟨_, _, _, L_isNo _ (fun a2 => ?_) (fun a2 => ?_), by decide, by decide, by decide⟩
    · refine ⟨fun _ => ?_, fun e => absurd rfl e⟩
      have hK := hG.1 ⟨a1, a2⟩
      refine ⟨_, _, _, L_start0 ?_, by decide, by decide, by decide⟩
      refine ⟨fun _ => ?_, fun e => absurd rfl e⟩
      refine ⟨vp4 (n4_ok a2), ?_⟩
      refine ⟨fun q => ?_, fun q => ?_⟩
      · rw [if_pos q] at hK
        refine ⟨_, _, _, L_mno ?_, by decide, by decide, by decide⟩
        exact hK
      · rw [if_neg q] at hK
        refine ⟨fun q2 => ?_, fun q2 => ?_⟩
        · rw [if_pos q2] at hK
          refine ⟨vp4 (n4_ok a1), vp4 (n4_ok a2), ?_⟩
          refine ⟨_, _, _, L_mfloor _ _ q ?_, by decide, by decide, by decide⟩
          refine ⟨_, _, _, L_become _ _ _ (n4_ok a1) ?_, by decide, by decide, by decide⟩
          exact hK
        · rw [if_neg q2] at hK
          refine ⟨vp4 (n4_ok a1), vp4 (n4_ok a2), ?_⟩
          refine ⟨_, _, _, L_mrest _ _ q ?_, by decide, by decide, by decide⟩
          refine ⟨_, _, _, L_become _ _ _ (n4_ok a1) ?_, by decide, by decide, by decide⟩
          exact hK
    · refine ⟨fun e => absurd e (by decide), fun _ => ?_⟩
      have hK := hG.2 (fun e => a2 e.2)
      refine ⟨_, _, _, L_start1 ?_, by decide, by decide, by decide⟩
      refine ⟨fun e => absurd e (by decide), fun _ => ?_⟩
      exact hK
  · refine ⟨fun e => absurd e (by decide), fun _ => ?_⟩
    have hK := hG.2 (fun e => a1 e.1)
    refine ⟨_, _, _, L_start1 ?_, by decide, by decide, by decide⟩
    refine ⟨fun e => absurd e (by decide), fun _ => ?_⟩
    exact hK
def m_towards (l k f r : Int32) (s : MS) : MO := gd (n4 k ∧ n4 f) s (if (mNow l f (sT 0 s)) = 0 then mNo (sT 0 s) else mBecome l k (if r = 0 then (mNow l k (sT 0 s)) / (mNow l f (sT 0 s)) else wRem (mNow l k (sT 0 s)) (mNow l f (sT 0 s))) (sT 0 s))
theorem M_towards (l k f r : Int32)  (hK : anM K x t (m_towards l k f r s)) : M P n_M_towards [.ref 5, .int l, .int k, .int f, .int r] (hm s x t) 0 0 10 K := by
  refine Mgo ok_M_towards 80 rfl ?_
  have hG := an_gd hK
  refine ⟨_, _, _, L_isNo _ (fun a1 => ?_) (fun a1 => ?_), by decide, by decide, by decide⟩
  · refine ⟨fun _ => ?_, fun e => absurd rfl e⟩
    refine ⟨_, _, _, L_isNo _ (fun a2 => ?_) (fun a2 => ?_), by decide, by decide, by decide⟩
    · refine ⟨fun _ => ?_, fun e => absurd rfl e⟩
      have hK := hG.1 ⟨a1, a2⟩
      refine ⟨_, _, _, L_start0 ?_, by decide, by decide, by decide⟩
      refine ⟨fun _ => ?_, fun e => absurd rfl e⟩
      refine ⟨_, _, _, L_now _ _ (n4_ok a2) ?_, by decide, by decide, by decide⟩
      refine ⟨fun q => ?_, fun q => ?_⟩
      · rw [if_pos q] at hK
        refine ⟨_, _, _, L_mno ?_, by decide, by decide, by decide⟩
        exact hK
      · rw [if_neg q] at hK
        refine ⟨fun q2 => ?_, fun q2 => ?_⟩
        · rw [if_pos q2] at hK
          refine ⟨_, _, _, L_now _ _ (n4_ok a1) ?_, by decide, by decide, by decide⟩
          refine ⟨q, ?_⟩
          refine ⟨_, _, _, L_become _ _ _ (n4_ok a1) ?_, by decide, by decide, by decide⟩
          exact hK
        · rw [if_neg q2] at hK
          refine ⟨_, _, _, L_now _ _ (n4_ok a1) ?_, by decide, by decide, by decide⟩
          refine ⟨q, ?_⟩
          refine ⟨_, _, _, L_become _ _ _ (n4_ok a1) ?_, by decide, by decide, by decide⟩
          exact hK
    · refine ⟨fun e => absurd e (by decide), fun _ => ?_⟩
      have hK := hG.2 (fun e => a2 e.2)
      refine ⟨_, _, _, L_start1 ?_, by decide, by decide, by decide⟩
      refine ⟨fun e => absurd e (by decide), fun _ => ?_⟩
      exact hK
  · refine ⟨fun e => absurd e (by decide), fun _ => ?_⟩
    have hK := hG.2 (fun e => a1 e.1)
    refine ⟨_, _, _, L_start1 ?_, by decide, by decide, by decide⟩
    refine ⟨fun e => absurd e (by decide), fun _ => ?_⟩
    exact hK
def m_rest (l k m : Int32) (s : MS) : MO := gd (n4 k) s (rf (¬ m = 0) (sT 0 s) ((mRest (mNow l k (sT 0 s)) m.toInt64).toInt32, sT 0 s))
theorem M_rest (l k m : Int32)  (hK : anM K x t (m_rest l k m s)) : M P n_M_rest [.ref 5, .int l, .int k, .int m] (hm s x t) 0 0 10 K := by
  refine Mgo ok_M_rest 80 rfl ?_
  have hG := an_gd hK
  refine ⟨_, _, _, L_isNo _ (fun a1 => ?_) (fun a1 => ?_), by decide, by decide, by decide⟩
  · skip
    have hK := hG.1 a1
    refine ⟨_, _, _, L_start0 ?_, by decide, by decide, by decide⟩
    refine ⟨fun _ => ?_, fun e => absurd rfl e⟩
    have hR := an_rf hK
    refine ⟨fun w1 => ?_, fun w1 => ?_⟩
    · have hK := hR.2 (fun e => e w1)
      refine ⟨_, _, _, L_mrefuse1 2 rfl (by decide) ?_, by decide, by decide, by decide⟩
      refine ⟨fun e => absurd e (by decide), fun _ => ?_⟩
      exact hK
    · have hK := hR.1 w1
      refine ⟨_, _, _, L_mrefuse0 2 rfl ?_, by decide, by decide, by decide⟩
      refine ⟨fun _ => ?_, fun e => absurd rfl e⟩
      refine ⟨_, _, _, L_now _ _ (n4_ok a1) ?_, by decide, by decide, by decide⟩
      refine ⟨_, _, _, L_mrest _ _ (nz64 w1) ?_, by decide, by decide, by decide⟩
      exact hK
  · skip
    have hK := hG.2 a1
    refine ⟨_, _, _, L_start1 ?_, by decide, by decide, by decide⟩
    refine ⟨fun e => absurd e (by decide), fun _ => ?_⟩
    exact hK
def m_compare (l k f : Int32) (s : MS) : MO := gd (n4 k ∧ n4 f) s (if (mNow l k (sT 0 s)) < (mNow l f (sT 0 s)) then (-1, sT 0 s) else if (mNow l f (sT 0 s)) < (mNow l k (sT 0 s)) then (1, sT 0 s) else (0, sT 0 s))
theorem M_compare (l k f : Int32)  (hK : anM K x t (m_compare l k f s)) : M P n_M_compare [.ref 5, .int l, .int k, .int f] (hm s x t) 0 0 10 K := by
  refine Mgo ok_M_compare 80 rfl ?_
  have hG := an_gd hK
  refine ⟨_, _, _, L_isNo _ (fun a1 => ?_) (fun a1 => ?_), by decide, by decide, by decide⟩
  · refine ⟨fun _ => ?_, fun e => absurd rfl e⟩
    refine ⟨_, _, _, L_isNo _ (fun a2 => ?_) (fun a2 => ?_), by decide, by decide, by decide⟩
    · refine ⟨fun _ => ?_, fun e => absurd rfl e⟩
      have hK := hG.1 ⟨a1, a2⟩
      refine ⟨_, _, _, L_start0 ?_, by decide, by decide, by decide⟩
      refine ⟨fun _ => ?_, fun e => absurd rfl e⟩
      refine ⟨_, _, _, L_now _ _ (n4_ok a1) ?_, by decide, by decide, by decide⟩
      refine ⟨_, _, _, L_now _ _ (n4_ok a2) ?_, by decide, by decide, by decide⟩
      refine ⟨fun q => ?_, fun q => ?_⟩
      · rw [if_pos q] at hK
        exact hK
      · rw [if_neg q] at hK
        refine ⟨_, _, _, L_now _ _ (n4_ok a1) ?_, by decide, by decide, by decide⟩
        refine ⟨_, _, _, L_now _ _ (n4_ok a2) ?_, by decide, by decide, by decide⟩
        refine ⟨fun q2 => ?_, fun q2 => ?_⟩
        · rw [if_pos q2] at hK
          exact hK
        · rw [if_neg q2] at hK
          exact hK
    · refine ⟨fun e => absurd e (by decide), fun _ => ?_⟩
      have hK := hG.2 (fun e => a2 e.2)
      refine ⟨_, _, _, L_start1 ?_, by decide, by decide, by decide⟩
      refine ⟨fun e => absurd e (by decide), fun _ => ?_⟩
      exact hK
  · refine ⟨fun e => absurd e (by decide), fun _ => ?_⟩
    have hK := hG.2 (fun e => a1 e.1)
    refine ⟨_, _, _, L_start1 ?_, by decide, by decide, by decide⟩
    refine ⟨fun e => absurd e (by decide), fun _ => ?_⟩
    exact hK
def m_chain (k a b c : Int32) (s : MS) : MO := gd (n4 k) s (rf (okV a b c) (sT 0 s) (mBecome 1 k (mFloor (mFloor (mFloor (mL (sT 0 s) k.toNatClampNeg) a.toInt64) b.toInt64) c.toInt64) (sT 0 s)))
theorem M_chain (k a b c : Int32)  (hK : anM K x t (m_chain k a b c s)) : M P n_M_chain [.ref 5, .int k, .int a, .int b, .int c] (hm s x t) 0 0 10 K := by
  refine Mgo ok_M_chain 80 rfl ?_
  have hG := an_gd hK
  refine ⟨_, _, _, L_isNo _ (fun a1 => ?_) (fun a1 => ?_), by decide, by decide, by decide⟩
  · skip
    have hK := hG.1 a1
    refine ⟨_, _, _, L_start0 ?_, by decide, by decide, by decide⟩
    refine ⟨fun _ => ?_, fun e => absurd rfl e⟩
    have hR := an_rf hK
    refine ⟨_, _, _, L_areWrong _ _ _ (fun w1 => ?_) (fun w1 => ?_), by decide, by decide, by decide⟩
    · have hK := hR.1 w1
      refine ⟨_, _, _, L_mrefuse0 2 rfl ?_, by decide, by decide, by decide⟩
      refine ⟨fun _ => ?_, fun e => absurd rfl e⟩
      refine ⟨vp4 (n4_ok a1), ?_⟩
      have g1 : ¬ a = 0 := fun e => w1.1 (by rw [e]; decide)
      have g2 : ¬ b = 0 := fun e => w1.2.1 (by rw [e]; decide)
      have g3 : ¬ c = 0 := fun e => w1.2.2 (by rw [e]; decide)
      refine ⟨_, _, _, L_mfloor _ _ (nz64 g1) ?_, by decide, by decide, by decide⟩
      refine ⟨_, _, _, L_mfloor _ _ (nz64 g2) ?_, by decide, by decide, by decide⟩
      refine ⟨_, _, _, L_mfloor _ _ (nz64 g3) ?_, by decide, by decide, by decide⟩
      refine ⟨_, _, _, L_become _ _ _ (n4_ok a1) ?_, by decide, by decide, by decide⟩
      exact hK
    · have hK := hR.2 w1
      refine ⟨_, _, _, L_mrefuse1 2 rfl (by decide) ?_, by decide, by decide, by decide⟩
      refine ⟨fun e => absurd e (by decide), fun _ => ?_⟩
      exact hK
  · skip
    have hK := hG.2 a1
    refine ⟨_, _, _, L_start1 ?_, by decide, by decide, by decide⟩
    refine ⟨fun e => absurd e (by decide), fun _ => ?_⟩
    exact hK
def m_bring (r k l f : Int32) (s : MS) : MO := gd (n3 r ∧ n4 k ∧ n4 f) s (mCome r k (mNow l f (sT 0 s)) (sT 0 s))
theorem M_bring (r k l f : Int32) (hz : ¬ (mMod r s).toInt64 = 0) (hK : anM K x t (m_bring r k l f s)) : M P n_M_bring [.ref 5, .int r, .int k, .int l, .int f] (hm s x t) 0 0 10 K := by
  refine Mgo ok_M_bring 80 rfl ?_
  have hG := an_gd hK
  refine ⟨_, _, _, L_isNoRing _ (fun a1 => ?_) (fun a1 => ?_), by decide, by decide, by decide⟩
  · refine ⟨fun _ => ?_, fun e => absurd rfl e⟩
    refine ⟨_, _, _, L_isNo _ (fun a2 => ?_) (fun a2 => ?_), by decide, by decide, by decide⟩
    · refine ⟨fun _ => ?_, fun e => absurd rfl e⟩
      refine ⟨_, _, _, L_isNo _ (fun a3 => ?_) (fun a3 => ?_), by decide, by decide, by decide⟩
      · refine ⟨fun _ => ?_, fun e => absurd rfl e⟩
        have hK := hG.1 ⟨a1, a2, a3⟩
        refine ⟨_, _, _, L_start0 ?_, by decide, by decide, by decide⟩
        refine ⟨fun _ => ?_, fun e => absurd rfl e⟩
        refine ⟨_, _, _, L_now _ _ (n4_ok a3) ?_, by decide, by decide, by decide⟩
        refine ⟨_, _, _, L_come (s := sT 0 s) _ _ _ (n3_ok a1) (n4_ok a2) hz ?_, by decide, by decide, by decide⟩
        exact hK
      · refine ⟨fun e => absurd e (by decide), fun _ => ?_⟩
        have hK := hG.2 (fun e => a3 e.2.2)
        refine ⟨_, _, _, L_start1 ?_, by decide, by decide, by decide⟩
        refine ⟨fun e => absurd e (by decide), fun _ => ?_⟩
        exact hK
    · refine ⟨fun e => absurd e (by decide), fun _ => ?_⟩
      have hK := hG.2 (fun e => a2 e.2.1)
      refine ⟨_, _, _, L_start1 ?_, by decide, by decide, by decide⟩
      refine ⟨fun e => absurd e (by decide), fun _ => ?_⟩
      exact hK
  · refine ⟨fun e => absurd e (by decide), fun _ => ?_⟩
    have hK := hG.2 (fun e => a1 e.1)
    refine ⟨_, _, _, L_start1 ?_, by decide, by decide, by decide⟩
    refine ⟨fun e => absurd e (by decide), fun _ => ?_⟩
    exact hK
def m_lift (r i l k : Int32) (s : MS) : MO := gd (n3 r ∧ n4 i ∧ n4 k) s (mBecome l k (mRes r i s).toInt64 (sT 0 s))
theorem M_lift (r i l k : Int32)  (hK : anM K x t (m_lift r i l k s)) : M P n_M_lift [.ref 5, .int r, .int i, .int l, .int k] (hm s x t) 0 0 10 K := by
  refine Mgo ok_M_lift 80 rfl ?_
  have hG := an_gd hK
  refine ⟨_, _, _, L_isNoRing _ (fun a1 => ?_) (fun a1 => ?_), by decide, by decide, by decide⟩
  · refine ⟨fun _ => ?_, fun e => absurd rfl e⟩
    refine ⟨_, _, _, L_isNo _ (fun a2 => ?_) (fun a2 => ?_), by decide, by decide, by decide⟩
    · refine ⟨fun _ => ?_, fun e => absurd rfl e⟩
      refine ⟨_, _, _, L_isNo _ (fun a3 => ?_) (fun a3 => ?_), by decide, by decide, by decide⟩
      · refine ⟨fun _ => ?_, fun e => absurd rfl e⟩
        have hK := hG.1 ⟨a1, a2, a3⟩
        refine ⟨_, _, _, L_start0 ?_, by decide, by decide, by decide⟩
        refine ⟨fun _ => ?_, fun e => absurd rfl e⟩
        have hr := n3_ok a1
        rcases c3 hr with rfl | rfl | rfl
        · refine ⟨vp3 hr, fun q9 e9 => ?_, fun e9 => absurd e9 (Option.some_ne_none _)⟩
          obtain rfl := Option.some.inj e9
          refine ⟨vp4 (n4_ok a2), ?_⟩
          refine ⟨_, _, _, L_become _ _ _ (n4_ok a3) ?_, by decide, by decide, by decide⟩
          exact hK
        · refine ⟨vp3 hr, fun q9 e9 => ?_, fun e9 => absurd e9 (Option.some_ne_none _)⟩
          obtain rfl := Option.some.inj e9
          refine ⟨vp4 (n4_ok a2), ?_⟩
          refine ⟨_, _, _, L_become _ _ _ (n4_ok a3) ?_, by decide, by decide, by decide⟩
          exact hK
        · refine ⟨vp3 hr, fun q9 e9 => ?_, fun e9 => absurd e9 (Option.some_ne_none _)⟩
          obtain rfl := Option.some.inj e9
          refine ⟨vp4 (n4_ok a2), ?_⟩
          refine ⟨_, _, _, L_become _ _ _ (n4_ok a3) ?_, by decide, by decide, by decide⟩
          exact hK
      · refine ⟨fun e => absurd e (by decide), fun _ => ?_⟩
        have hK := hG.2 (fun e => a3 e.2.2)
        refine ⟨_, _, _, L_start1 ?_, by decide, by decide, by decide⟩
        refine ⟨fun e => absurd e (by decide), fun _ => ?_⟩
        exact hK
    · refine ⟨fun e => absurd e (by decide), fun _ => ?_⟩
      have hK := hG.2 (fun e => a2 e.2.1)
      refine ⟨_, _, _, L_start1 ?_, by decide, by decide, by decide⟩
      refine ⟨fun e => absurd e (by decide), fun _ => ?_⟩
      exact hK
  · refine ⟨fun e => absurd e (by decide), fun _ => ?_⟩
    have hK := hG.2 (fun e => a1 e.1)
    refine ⟨_, _, _, L_start1 ?_, by decide, by decide, by decide⟩
    refine ⟨fun e => absurd e (by decide), fun _ => ?_⟩
    exact hK
def m_residue (r k : Int32) (s : MS) : MO := gd (n3 r ∧ n4 k) s ((mRes r k s, sT 0 s))
theorem M_residue (r k : Int32)  (hK : anM K x t (m_residue r k s)) : M P n_M_residue [.ref 5, .int r, .int k] (hm s x t) 0 0 10 K := by
  refine Mgo ok_M_residue 80 rfl ?_
  have hG := an_gd hK
  refine ⟨_, _, _, L_isNoRing _ (fun a1 => ?_) (fun a1 => ?_), by decide, by decide, by decide⟩
  · refine ⟨fun _ => ?_, fun e => absurd rfl e⟩
    refine ⟨_, _, _, L_isNo _ (fun a2 => ?_) (fun a2 => ?_), by decide, by decide, by decide⟩
    · refine ⟨fun _ => ?_, fun e => absurd rfl e⟩
      have hK := hG.1 ⟨a1, a2⟩
      refine ⟨_, _, _, L_start0 ?_, by decide, by decide, by decide⟩
      refine ⟨fun _ => ?_, fun e => absurd rfl e⟩
      have hr := n3_ok a1
      rcases c3 hr with rfl | rfl | rfl
      · refine ⟨vp3 hr, fun q9 e9 => ?_, fun e9 => absurd e9 (Option.some_ne_none _)⟩
        obtain rfl := Option.some.inj e9
        exact ⟨vp4 (n4_ok a2), hK⟩
      · refine ⟨vp3 hr, fun q9 e9 => ?_, fun e9 => absurd e9 (Option.some_ne_none _)⟩
        obtain rfl := Option.some.inj e9
        exact ⟨vp4 (n4_ok a2), hK⟩
      · refine ⟨vp3 hr, fun q9 e9 => ?_, fun e9 => absurd e9 (Option.some_ne_none _)⟩
        obtain rfl := Option.some.inj e9
        exact ⟨vp4 (n4_ok a2), hK⟩
    · refine ⟨fun e => absurd e (by decide), fun _ => ?_⟩
      have hK := hG.2 (fun e => a2 e.2)
      refine ⟨_, _, _, L_start1 ?_, by decide, by decide, by decide⟩
      refine ⟨fun e => absurd e (by decide), fun _ => ?_⟩
      exact hK
  · refine ⟨fun e => absurd e (by decide), fun _ => ?_⟩
    have hK := hG.2 (fun e => a1 e.1)
    refine ⟨_, _, _, L_start1 ?_, by decide, by decide, by decide⟩
    refine ⟨fun e => absurd e (by decide), fun _ => ?_⟩
    exact hK
def m_isUnit (r k : Int32) (s : MS) : MO := gd (n3 r ∧ n4 k) s ((if mUnit r k (sT 0 s) = 0 then 0 else 1, sT 0 s))
theorem M_isUnit (r k : Int32)  (hK : anM K x t (m_isUnit r k s)) : M P n_M_isUnit [.ref 5, .int r, .int k] (hm s x t) 0 0 10 K := by
  refine Mgo ok_M_isUnit 80 rfl ?_
  have hG := an_gd hK
  refine ⟨_, _, _, L_isNoRing _ (fun a1 => ?_) (fun a1 => ?_), by decide, by decide, by decide⟩
  · refine ⟨fun _ => ?_, fun e => absurd rfl e⟩
    refine ⟨_, _, _, L_isNo _ (fun a2 => ?_) (fun a2 => ?_), by decide, by decide, by decide⟩
    · refine ⟨fun _ => ?_, fun e => absurd rfl e⟩
      have hK := hG.1 ⟨a1, a2⟩
      refine ⟨_, _, _, L_start0 ?_, by decide, by decide, by decide⟩
      refine ⟨fun _ => ?_, fun e => absurd rfl e⟩
      refine ⟨_, _, _, L_unitNow (s := sT 0 s) _ _ (n3_ok a1) (n4_ok a2) ?_, by decide, by decide, by decide⟩
      refine ⟨fun q => ?_, fun q => ?_⟩
      · rw [if_pos q] at hK
        exact ⟨rfl, hK⟩
      · rw [if_neg q] at hK
        exact ⟨rfl, hK⟩
    · refine ⟨fun e => absurd e (by decide), fun _ => ?_⟩
      have hK := hG.2 (fun e => a2 e.2)
      refine ⟨_, _, _, L_start1 ?_, by decide, by decide, by decide⟩
      refine ⟨fun e => absurd e (by decide), fun _ => ?_⟩
      exact ⟨rfl, hK⟩
  · refine ⟨fun e => absurd e (by decide), fun _ => ?_⟩
    have hK := hG.2 (fun e => a1 e.1)
    refine ⟨_, _, _, L_start1 ?_, by decide, by decide, by decide⟩
    refine ⟨fun e => absurd e (by decide), fun _ => ?_⟩
    exact ⟨rfl, hK⟩
def m_times (r k f : Int32) (s : MS) : MO := gd (n3 r ∧ n4 k ∧ n4 f) s (mCome r k ((mRes r k s).toInt64 * (mRes r f s).toInt64) (sT 0 s))
theorem M_times (r k f : Int32) (hz : ¬ (mMod r s).toInt64 = 0) (hK : anM K x t (m_times r k f s)) : M P n_M_times [.ref 5, .int r, .int k, .int f] (hm s x t) 0 0 10 K := by
  refine Mgo ok_M_times 80 rfl ?_
  have hG := an_gd hK
  refine ⟨_, _, _, L_isNoRing _ (fun a1 => ?_) (fun a1 => ?_), by decide, by decide, by decide⟩
  · refine ⟨fun _ => ?_, fun e => absurd rfl e⟩
    refine ⟨_, _, _, L_isNo _ (fun a2 => ?_) (fun a2 => ?_), by decide, by decide, by decide⟩
    · refine ⟨fun _ => ?_, fun e => absurd rfl e⟩
      refine ⟨_, _, _, L_isNo _ (fun a3 => ?_) (fun a3 => ?_), by decide, by decide, by decide⟩
      · refine ⟨fun _ => ?_, fun e => absurd rfl e⟩
        have hK := hG.1 ⟨a1, a2, a3⟩
        refine ⟨_, _, _, L_start0 ?_, by decide, by decide, by decide⟩
        refine ⟨fun _ => ?_, fun e => absurd rfl e⟩
        have hr := n3_ok a1
        rcases c3 hr with rfl | rfl | rfl
        · refine ⟨vp3 hr, fun q9 e9 => ?_, fun e9 => absurd e9 (Option.some_ne_none _)⟩
          obtain rfl := Option.some.inj e9
          refine ⟨vp4 (n4_ok a2), vp3 hr, fun q9 e9 => ?_, fun e9 => absurd e9 (Option.some_ne_none _)⟩
          obtain rfl := Option.some.inj e9
          refine ⟨vp4 (n4_ok a3), ?_⟩
          refine ⟨_, _, _, L_come (s := sT 0 s) _ _ _ hr (n4_ok a2) hz ?_, by decide, by decide, by decide⟩
          exact hK
        · refine ⟨vp3 hr, fun q9 e9 => ?_, fun e9 => absurd e9 (Option.some_ne_none _)⟩
          obtain rfl := Option.some.inj e9
          refine ⟨vp4 (n4_ok a2), vp3 hr, fun q9 e9 => ?_, fun e9 => absurd e9 (Option.some_ne_none _)⟩
          obtain rfl := Option.some.inj e9
          refine ⟨vp4 (n4_ok a3), ?_⟩
          refine ⟨_, _, _, L_come (s := sT 0 s) _ _ _ hr (n4_ok a2) hz ?_, by decide, by decide, by decide⟩
          exact hK
        · refine ⟨vp3 hr, fun q9 e9 => ?_, fun e9 => absurd e9 (Option.some_ne_none _)⟩
          obtain rfl := Option.some.inj e9
          refine ⟨vp4 (n4_ok a2), vp3 hr, fun q9 e9 => ?_, fun e9 => absurd e9 (Option.some_ne_none _)⟩
          obtain rfl := Option.some.inj e9
          refine ⟨vp4 (n4_ok a3), ?_⟩
          refine ⟨_, _, _, L_come (s := sT 0 s) _ _ _ hr (n4_ok a2) hz ?_, by decide, by decide, by decide⟩
          exact hK
      · refine ⟨fun e => absurd e (by decide), fun _ => ?_⟩
        have hK := hG.2 (fun e => a3 e.2.2)
        refine ⟨_, _, _, L_start1 ?_, by decide, by decide, by decide⟩
        refine ⟨fun e => absurd e (by decide), fun _ => ?_⟩
        exact hK
    · refine ⟨fun e => absurd e (by decide), fun _ => ?_⟩
      have hK := hG.2 (fun e => a2 e.2.1)
      refine ⟨_, _, _, L_start1 ?_, by decide, by decide, by decide⟩
      refine ⟨fun e => absurd e (by decide), fun _ => ?_⟩
      exact hK
  · refine ⟨fun e => absurd e (by decide), fun _ => ?_⟩
    have hK := hG.2 (fun e => a1 e.1)
    refine ⟨_, _, _, L_start1 ?_, by decide, by decide, by decide⟩
    refine ⟨fun e => absurd e (by decide), fun _ => ?_⟩
    exact hK
def m_plus (r k f m : Int32) (s : MS) : MO := gd (n3 r ∧ n4 k ∧ n4 f) s (mCome r k (if m = 0 then (mRes r k s).toInt64 + (mRes r f s).toInt64 else (mRes r k s).toInt64 + -(mRes r f s).toInt64) (sT 0 s))
theorem M_plus (r k f m : Int32) (hz : ¬ (mMod r s).toInt64 = 0) (hK : anM K x t (m_plus r k f m s)) : M P n_M_plus [.ref 5, .int r, .int k, .int f, .int m] (hm s x t) 0 0 10 K := by
  refine Mgo ok_M_plus 80 rfl ?_
  have hG := an_gd hK
  refine ⟨_, _, _, L_isNoRing _ (fun a1 => ?_) (fun a1 => ?_), by decide, by decide, by decide⟩
  · refine ⟨fun _ => ?_, fun e => absurd rfl e⟩
    refine ⟨_, _, _, L_isNo _ (fun a2 => ?_) (fun a2 => ?_), by decide, by decide, by decide⟩
    · refine ⟨fun _ => ?_, fun e => absurd rfl e⟩
      refine ⟨_, _, _, L_isNo _ (fun a3 => ?_) (fun a3 => ?_), by decide, by decide, by decide⟩
      · refine ⟨fun _ => ?_, fun e => absurd rfl e⟩
        have hK := hG.1 ⟨a1, a2, a3⟩
        refine ⟨_, _, _, L_start0 ?_, by decide, by decide, by decide⟩
        refine ⟨fun _ => ?_, fun e => absurd rfl e⟩
        have hr := n3_ok a1
        rcases c3 hr with rfl | rfl | rfl
        · refine ⟨vp3 hr, fun q9 e9 => ?_, fun e9 => absurd e9 (Option.some_ne_none _)⟩
          obtain rfl := Option.some.inj e9
          refine ⟨vp4 (n4_ok a3), vp3 hr, fun q9 e9 => ?_, fun e9 => absurd e9 (Option.some_ne_none _)⟩
          obtain rfl := Option.some.inj e9
          refine ⟨vp4 (n4_ok a2), ?_⟩
          refine ⟨fun q => ?_, fun q => ?_⟩
          · rw [if_pos q] at hK
            refine ⟨_, _, _, L_come (s := sT 0 s) _ _ _ hr (n4_ok a2) hz ?_, by decide, by decide, by decide⟩
            exact hK
          · rw [if_neg q] at hK
            refine ⟨_, _, _, L_come (s := sT 0 s) _ _ _ hr (n4_ok a2) hz ?_, by decide, by decide, by decide⟩
            exact hK
        · refine ⟨vp3 hr, fun q9 e9 => ?_, fun e9 => absurd e9 (Option.some_ne_none _)⟩
          obtain rfl := Option.some.inj e9
          refine ⟨vp4 (n4_ok a3), vp3 hr, fun q9 e9 => ?_, fun e9 => absurd e9 (Option.some_ne_none _)⟩
          obtain rfl := Option.some.inj e9
          refine ⟨vp4 (n4_ok a2), ?_⟩
          refine ⟨fun q => ?_, fun q => ?_⟩
          · rw [if_pos q] at hK
            refine ⟨_, _, _, L_come (s := sT 0 s) _ _ _ hr (n4_ok a2) hz ?_, by decide, by decide, by decide⟩
            exact hK
          · rw [if_neg q] at hK
            refine ⟨_, _, _, L_come (s := sT 0 s) _ _ _ hr (n4_ok a2) hz ?_, by decide, by decide, by decide⟩
            exact hK
        · refine ⟨vp3 hr, fun q9 e9 => ?_, fun e9 => absurd e9 (Option.some_ne_none _)⟩
          obtain rfl := Option.some.inj e9
          refine ⟨vp4 (n4_ok a3), vp3 hr, fun q9 e9 => ?_, fun e9 => absurd e9 (Option.some_ne_none _)⟩
          obtain rfl := Option.some.inj e9
          refine ⟨vp4 (n4_ok a2), ?_⟩
          refine ⟨fun q => ?_, fun q => ?_⟩
          · rw [if_pos q] at hK
            refine ⟨_, _, _, L_come (s := sT 0 s) _ _ _ hr (n4_ok a2) hz ?_, by decide, by decide, by decide⟩
            exact hK
          · rw [if_neg q] at hK
            refine ⟨_, _, _, L_come (s := sT 0 s) _ _ _ hr (n4_ok a2) hz ?_, by decide, by decide, by decide⟩
            exact hK
      · refine ⟨fun e => absurd e (by decide), fun _ => ?_⟩
        have hK := hG.2 (fun e => a3 e.2.2)
        refine ⟨_, _, _, L_start1 ?_, by decide, by decide, by decide⟩
        refine ⟨fun e => absurd e (by decide), fun _ => ?_⟩
        exact hK
    · refine ⟨fun e => absurd e (by decide), fun _ => ?_⟩
      have hK := hG.2 (fun e => a2 e.2.1)
      refine ⟨_, _, _, L_start1 ?_, by decide, by decide, by decide⟩
      refine ⟨fun e => absurd e (by decide), fun _ => ?_⟩
      exact hK
  · refine ⟨fun e => absurd e (by decide), fun _ => ?_⟩
    have hK := hG.2 (fun e => a1 e.1)
    refine ⟨_, _, _, L_start1 ?_, by decide, by decide, by decide⟩
    refine ⟨fun e => absurd e (by decide), fun _ => ?_⟩
    exact hK
def m_areAlike (r l f g : Int32) (s : MS) : MO := gd (n3 r ∧ n4 f ∧ n4 g) s ((if mRest (mNow l f (sT 0 s)) (mM (sT 0 s) r.toNatClampNeg).toInt64 = mRest (mNow l g (sT 0 s)) (mM (sT 0 s) r.toNatClampNeg).toInt64 then 1 else 0, sT 0 s))
theorem M_areAlike (r l f g : Int32) (hz : ¬ (mMod r s).toInt64 = 0) (hK : anM K x t (m_areAlike r l f g s)) : M P n_M_areAlike [.ref 5, .int r, .int l, .int f, .int g] (hm s x t) 0 0 10 K := by
  refine Mgo ok_M_areAlike 80 rfl ?_
  have hG := an_gd hK
  refine ⟨_, _, _, L_isNoRing _ (fun a1 => ?_) (fun a1 => ?_), by decide, by decide, by decide⟩
  · refine ⟨fun _ => ?_, fun e => absurd rfl e⟩
    refine ⟨_, _, _, L_isNo _ (fun a2 => ?_) (fun a2 => ?_), by decide, by decide, by decide⟩
    · refine ⟨fun _ => ?_, fun e => absurd rfl e⟩
      refine ⟨_, _, _, L_isNo _ (fun a3 => ?_) (fun a3 => ?_), by decide, by decide, by decide⟩
      · refine ⟨fun _ => ?_, fun e => absurd rfl e⟩
        have hK := hG.1 ⟨a1, a2, a3⟩
        refine ⟨_, _, _, L_start0 ?_, by decide, by decide, by decide⟩
        refine ⟨fun _ => ?_, fun e => absurd rfl e⟩
        refine ⟨_, _, _, L_now _ _ (n4_ok a2) ?_, by decide, by decide, by decide⟩
        refine ⟨vp3 (n3_ok a1), ?_⟩
        refine ⟨_, _, _, L_mrest _ _ hz ?_, by decide, by decide, by decide⟩
        refine ⟨_, _, _, L_now _ _ (n4_ok a3) ?_, by decide, by decide, by decide⟩
        refine ⟨vp3 (n3_ok a1), ?_⟩
        refine ⟨_, _, _, L_mrest _ _ hz ?_, by decide, by decide, by decide⟩
        refine ⟨fun q => ?_, fun q => ?_⟩
        · rw [if_pos q] at hK
          exact ⟨rfl, hK⟩
        · rw [if_neg q] at hK
          exact ⟨rfl, hK⟩
      · refine ⟨fun e => absurd e (by decide), fun _ => ?_⟩
        have hK := hG.2 (fun e => a3 e.2.2)
        refine ⟨_, _, _, L_start1 ?_, by decide, by decide, by decide⟩
        refine ⟨fun e => absurd e (by decide), fun _ => ?_⟩
        exact ⟨rfl, hK⟩
    · refine ⟨fun e => absurd e (by decide), fun _ => ?_⟩
      have hK := hG.2 (fun e => a2 e.2.1)
      refine ⟨_, _, _, L_start1 ?_, by decide, by decide, by decide⟩
      refine ⟨fun e => absurd e (by decide), fun _ => ?_⟩
      exact ⟨rfl, hK⟩
  · refine ⟨fun e => absurd e (by decide), fun _ => ?_⟩
    have hK := hG.2 (fun e => a1 e.1)
    refine ⟨_, _, _, L_start1 ?_, by decide, by decide, by decide⟩
    refine ⟨fun e => absurd e (by decide), fun _ => ?_⟩
    exact ⟨rfl, hK⟩
theorem nzabs {v : Int64} (h : ¬ v = 0) : ¬ lAbs v = 0 := by
  unfold lAbs
  by_cases q : v < 0
  · rw [if_pos q]
    exact fun e => h (by have := congrArg (fun z => -z) e; simpa using this)
  · rw [if_neg q]
    exact h
def m_inverse (r k : Int32) (s : MS) : MO := gd (n3 r ∧ n4 k) s (if mUnit r k (sT 0 s) = 0 then mNo (sT 0 s) else (1, (mCome r k (mAgainst (mRes r k s).toInt64 (lAbs (mMod r s).toInt64)) (sT 0 s)).2))
theorem M_inverse (r k : Int32) (hz : ¬ (mMod r s).toInt64 = 0) (hK : anM K x t (m_inverse r k s)) : M P n_M_inverse [.ref 5, .int r, .int k] (hm s x t) 0 0 10 K := by
  refine Mgo ok_M_inverse 80 rfl ?_
  have hG := an_gd hK
  refine ⟨_, _, _, L_isNoRing _ (fun a1 => ?_) (fun a1 => ?_), by decide, by decide, by decide⟩
  · refine ⟨fun _ => ?_, fun e => absurd rfl e⟩
    refine ⟨_, _, _, L_isNo _ (fun a2 => ?_) (fun a2 => ?_), by decide, by decide, by decide⟩
    · refine ⟨fun _ => ?_, fun e => absurd rfl e⟩
      have hK := hG.1 ⟨a1, a2⟩
      refine ⟨_, _, _, L_start0 ?_, by decide, by decide, by decide⟩
      refine ⟨fun _ => ?_, fun e => absurd rfl e⟩
      refine ⟨_, _, _, L_unitNow (s := sT 0 s) _ _ (n3_ok a1) (n4_ok a2) ?_, by decide, by decide, by decide⟩
      refine ⟨fun q => ?_, fun q => ?_⟩
      · rw [if_pos q] at hK
        refine ⟨_, _, _, L_mno ?_, by decide, by decide, by decide⟩
        exact hK
      · rw [if_neg q] at hK
        have hr := n3_ok a1
        rcases c3 hr with rfl | rfl | rfl
        · refine ⟨vp3 hr, fun q9 e9 => ?_, fun e9 => absurd e9 (Option.some_ne_none _)⟩
          obtain rfl := Option.some.inj e9
          refine ⟨vp4 (n4_ok a2), vp3 hr, ?_⟩
          refine ⟨_, _, _, L_absJ _ _ ?_, by decide, by decide, by decide⟩
          refine ⟨_, _, _, L_magainst _ _ (nzabs hz) ?_, by decide, by decide, by decide⟩
          refine ⟨_, _, _, L_come (s := sT 0 s) _ _ _ hr (n4_ok a2) hz ?_, by decide, by decide, by decide⟩
          exact hK
        · refine ⟨vp3 hr, fun q9 e9 => ?_, fun e9 => absurd e9 (Option.some_ne_none _)⟩
          obtain rfl := Option.some.inj e9
          refine ⟨vp4 (n4_ok a2), vp3 hr, ?_⟩
          refine ⟨_, _, _, L_absJ _ _ ?_, by decide, by decide, by decide⟩
          refine ⟨_, _, _, L_magainst _ _ (nzabs hz) ?_, by decide, by decide, by decide⟩
          refine ⟨_, _, _, L_come (s := sT 0 s) _ _ _ hr (n4_ok a2) hz ?_, by decide, by decide, by decide⟩
          exact hK
        · refine ⟨vp3 hr, fun q9 e9 => ?_, fun e9 => absurd e9 (Option.some_ne_none _)⟩
          obtain rfl := Option.some.inj e9
          refine ⟨vp4 (n4_ok a2), vp3 hr, ?_⟩
          refine ⟨_, _, _, L_absJ _ _ ?_, by decide, by decide, by decide⟩
          refine ⟨_, _, _, L_magainst _ _ (nzabs hz) ?_, by decide, by decide, by decide⟩
          refine ⟨_, _, _, L_come (s := sT 0 s) _ _ _ hr (n4_ok a2) hz ?_, by decide, by decide, by decide⟩
          exact hK
    · refine ⟨fun e => absurd e (by decide), fun _ => ?_⟩
      have hK := hG.2 (fun e => a2 e.2)
      refine ⟨_, _, _, L_start1 ?_, by decide, by decide, by decide⟩
      refine ⟨fun e => absurd e (by decide), fun _ => ?_⟩
      exact hK
  · refine ⟨fun e => absurd e (by decide), fun _ => ?_⟩
    have hK := hG.2 (fun e => a1 e.1)
    refine ⟨_, _, _, L_start1 ?_, by decide, by decide, by decide⟩
    refine ⟨fun e => absurd e (by decide), fun _ => ?_⟩
    exact hK
def m_knock (s : MS) : MO := (mK s + 1, (0, s.2.1, s.2.2.1, s.2.2.2.1, s.2.2.2.2.1, mF s, mK s + 1))
theorem M_knock (hK : anM K x t (m_knock s)) : M P n_M_knock [.ref 5] (hm s x t) 0 0 6 K := by
  refine Mgo ok_M_knock 60 rfl ?_
  exact hK
theorem M_isSound (hK : anM K x t (1, sT 0 s)) : M P n_M_isSound [.ref 5] (hm s x t) 0 0 6 K := by
  refine Mgo ok_M_isSound 60 rfl ?_
  exact ⟨rfl, hK⟩
end MODO
end
section
/-! THE MODEL: powers, moduli, meetings, its house -/
theorem once_nz {a b c : Int32} (h : okV a b c) (hq : ¬ 9223372036854775807 / c.toInt64 < a.toInt64 * b.toInt64) : ¬ a.toInt64 * b.toInt64 * c.toInt64 = 0 := by
  obtain ⟨h1, h2, h3⟩ := h
  rw [Int32.lt_iff_toInt_lt] at h1 h2 h3
  have e1 : (1 : Int32).toInt = 1 := by decide
  rw [e1] at h1 h2 h3
  have ua := a.toInt_lt
  have ub := b.toInt_lt
  have uc := c.toInt_lt
  have hab : (a.toInt64 * b.toInt64).toInt = a.toInt * b.toInt := by
    rw [Int64.toInt_mul, Int32.toInt_toInt64, Int32.toInt_toInt64]
    have k1 : a.toInt * b.toInt ≤ 2147483648 * 2147483648 := Int.mul_le_mul (by omega) (by omega) (by omega) (by omega)
    have k2 : 0 ≤ a.toInt * b.toInt := Int.mul_nonneg (by omega) (by omega)
    exact Int.bmod_eq_of_le (by omega) (by omega)
  have hdv : ((9223372036854775807 : Int64) / c.toInt64).toInt = 9223372036854775807 / c.toInt := by
    rw [Int64.toInt_div, Int32.toInt_toInt64]
    have e9 : (9223372036854775807 : Int64).toInt = 9223372036854775807 := by decide
    rw [e9, Int.tdiv_eq_ediv_of_nonneg (by decide)]
    have k1 : (9223372036854775807 : Int) / c.toInt ≤ 9223372036854775807 := Int.ediv_le_self _ (by decide)
    have k2 : 0 ≤ (9223372036854775807 : Int) / c.toInt := Int.ediv_nonneg (by decide) (by omega)
    exact Int.bmod_eq_of_le (by omega) (by omega)
  rw [Int64.lt_iff_toInt_lt, hab, hdv] at hq
  have hle : a.toInt * b.toInt ≤ 9223372036854775807 / c.toInt := by omega
  have hm : a.toInt * b.toInt * c.toInt ≤ 9223372036854775807 := (Int.le_ediv_iff_mul_le (by omega)).mp hle
  have hp : 0 < a.toInt * b.toInt := Int.mul_pos (by omega) (by omega)
  have hpp : 0 < a.toInt * b.toInt * c.toInt := Int.mul_pos hp (by omega)
  intro e
  have e2 := congrArg Int64.toInt e
  rw [Int64.toInt_mul, hab, Int32.toInt_toInt64, Int.bmod_eq_of_le (by omega) (by omega)] at e2
  have e0 : (0 : Int64).toInt = 0 := by decide
  omega
theorem half {e : Int32} (h : 0 < e) : (e / 2).toInt = e.toInt / 2 := by
  rw [Int32.lt_iff_toInt_lt] at h
  have e0 : (0 : Int32).toInt = 0 := by decide
  have e2 : (2 : Int32).toInt = 2 := by decide
  have u := e.toInt_lt
  rw [Int32.toInt_div, e2, Int.tdiv_eq_ediv_of_nonneg (by omega)]
  exact Int.bmod_eq_of_le (by omega) (by omega)
theorem gcdL_le : ∀ (n : Nat) (g l : Int64), 0 < g.toInt → l.toInt ≤ g.toInt → 0 < (mGcdL n g l).toInt ∧ (mGcdL n g l).toInt ≤ g.toInt
  | 0, g, l, h1, h2 => by
    rw [mGcdL]
    exact ⟨h1, Int.le_refl _⟩
  | n + 1, g, l, h1, h2 => by
    rw [mGcdL]
    by_cases q : 0 < l
    · rw [if_pos q]
      have hl : 0 < l.toInt := by
        rw [Int64.lt_iff_toInt_lt] at q
        have e0 : (0 : Int64).toInt = 0 := by decide
        omega
      have := gcdL_le n l (wRem g l) hl (Int.le_of_lt (wRem_lt q))
      exact ⟨this.1, by omega⟩
    · rw [if_neg q]
      exact ⟨h1, Int.le_refl _⟩
theorem abs_m {m : Int32} (h : ¬ m = 0) : 0 < (lAbs m.toInt64).toInt ∧ (lAbs m.toInt64).toInt ≤ 2147483648 := by
  have h0 : ¬ m.toInt = 0 := fun e => h (Int32.toInt_inj.mp (e.trans (by decide)))
  have u := m.toInt_lt
  have v := m.le_toInt
  have e0 : (0 : Int64).toInt = 0 := by decide
  unfold lAbs
  by_cases q : m.toInt64 < 0
  · rw [if_pos q]
    rw [Int64.lt_iff_toInt_lt, Int32.toInt_toInt64, e0] at q
    rw [Int64.toInt_neg, Int32.toInt_toInt64, Int.bmod_eq_of_le (by omega) (by omega)]
    omega
  · rw [if_neg q]
    rw [Int64.lt_iff_toInt_lt, Int32.toInt_toInt64, e0] at q
    rw [Int32.toInt_toInt64]
    omega
theorem abs_id {v : Int64} (h : 0 < v.toInt) : lAbs v = v := by
  unfold lAbs
  rw [if_neg]
  rw [Int64.lt_iff_toInt_lt]
  have e0 : (0 : Int64).toInt = 0 := by decide
  omega
theorem gcd_m {a b : Int64} (ha : 0 < a.toInt) (hb : 0 < b.toInt) : 0 < (mGcd a b).toInt ∧ (mGcd a b).toInt ≤ b.toInt := by
  unfold mGcd
  rw [abs_id ha, abs_id hb]
  obtain ⟨n, hn⟩ : ∃ n, b.toInt.toNat = n + 1 := ⟨b.toInt.toNat - 1, by omega⟩
  have e0 : (0 : Int64).toInt = 0 := by decide
  have q : 0 < b := by
    rw [Int64.lt_iff_toInt_lt]
    omega
  rw [hn, mGcdL, if_pos q]
  exact gcdL_le n b (wRem a b) hb (Int.le_of_lt (wRem_lt q))
theorem nz_pos {v : Int64} (h : 0 < v.toInt) : ¬ v = 0 := fun e => by
  rw [e] at h
  exact absurd h (by decide)
theorem div_pos {a b : Int64} (hb : 0 < b.toInt) (h : b.toInt ≤ a.toInt) : 0 < (a / b).toInt := by
  have ua := a.toInt_lt
  rw [Int64.toInt_div, Int.tdiv_eq_ediv_of_nonneg (by omega)]
  have k1 : a.toInt / b.toInt ≤ a.toInt := Int.ediv_le_self _ (by omega)
  have k2 : 1 ≤ a.toInt / b.toInt := (Int.le_ediv_iff_mul_le hb).mpr (by omega)
  rw [Int.bmod_eq_of_le (by omega) (by omega)]
  omega
def mPowL (m : Int64) : Nat → Int64 → Int64 → Int32 → Int64
  | 0, v, _, _ => v
  | n + 1, v, b, e => if 0 < e then mPowL m n (if e - e / 2 * 2 = 1 then mRest (v * b) m else v) (mRest (b * b) m) (e / 2) else v
termination_by n => n
def mgL (r : Int32) : Nat → Int32 → MS → MS
  | 0, _, s => s
  | n + 1, i, s => mgL r n (i + 1) (mCome r i (mRes r i s).toInt64 s).2
termination_by n => n
def sSetM (r m : Int32) (s : MS) : MS := (s.1, s.2.1, s.2.2.1, upd (mM s) r.toNatClampNeg m, s.2.2.2.2)
section MODP
variable {P : GP} {K : Kt} {x : XS} {t : mH}
theorem l_mpow {s : MS} {r k e0 : Int32} (hr : ok3 r) (hz : ¬ (mMod r s).toInt64 = 0) (hk : ok4 k) : ∀ (n : Nat) (v b : Int64) (e : Int32), e.toInt < 2 ^ n → anM K x t (mCome r k (mPowL (mMod r s).toInt64 n v b e) s) →
    G P n_M_power K 10 73 [some (.ref 5), some (.int r), some (.int k), some (.int e0), some (.long v), none, some (.long b), none, some (.int e)] [] (hm s x t) 0 0
  | 0, v, b, e, hb, hK => by
    refine go ok_M_power 80 ?_
    rw [mPowL] at hK
    have e1 : (0 : Int32).toInt = 0 := by decide
    refine ⟨fun q => ?_, fun q => ?_⟩
    · rw [Int32.lt_iff_toInt_lt] at q
      omega
    · exact ⟨_, _, _, L_come _ _ _ hr hk hz hK, by decide, by decide, by decide⟩
  | n + 1, v, b, e, hb, hK => by
    refine go ok_M_power 80 ?_
    rw [mPowL] at hK
    refine ⟨fun q => ?_, fun q => ?_⟩
    · rw [if_pos q] at hK
      have hh := half q
      have hn : (e / 2).toInt < 2 ^ n := by
        rw [hh]
        rw [Int.pow_succ] at hb
        omega
      refine ⟨by decide, ?_⟩
      refine ⟨fun q2 => ?_, fun q2 => ?_⟩
      · rw [if_pos q2] at hK
        refine ⟨vp3 hr, ?_⟩
        refine ⟨_, _, _, L_mrest _ _ hz ?_, by decide, by decide, by decide⟩
        refine ⟨vp3 hr, ?_⟩
        refine ⟨_, _, _, L_mrest _ _ hz ?_, by decide, by decide, by decide⟩
        refine ⟨by decide, ?_⟩
        exact l_mpow hr hz hk n _ _ _ hn hK
      · rw [if_neg q2] at hK
        refine ⟨vp3 hr, ?_⟩
        refine ⟨_, _, _, L_mrest _ _ hz ?_, by decide, by decide, by decide⟩
        refine ⟨by decide, ?_⟩
        exact l_mpow hr hz hk n _ _ _ hn hK
    · rw [if_neg q] at hK
      exact ⟨_, _, _, L_come _ _ _ hr hk hz hK, by decide, by decide, by decide⟩
theorem l_mmod {r m o : Int32} (hr : ok3 r) : ∀ (n : Nat) (i : Int32) (s : MS), ¬ (mMod r s).toInt64 = 0 → 0 ≤ i.toInt → i.toInt + n = 4 → anM K x t (o, mgL r n i s) →
    G P n_M_modulus K 10 48 [some (.ref 5), some (.int r), some (.int m), some (.int o), some (.int i)] [] (hm s x t) 0 0
  | 0, i, s, hz, h0, hb, hK => by
    refine go ok_M_modulus 80 ?_
    have hn := i32_nlt (m := 4) (by omega) 4 (by decide) (b := i)
    refine ⟨fun q => absurd q hn, fun q => ?_⟩
    rw [mgL] at hK
    exact hK
  | n + 1, i, s, hz, h0, hb, hK => by
    refine go ok_M_modulus 80 ?_
    have hn := i32_lt (b := i) (n := n) (m := 4) (by omega) 4 (by decide)
    have hs := i32_s (b := i) (n := n) (m := 4) h0 (by omega) (by decide)
    have hz0 : (0 : Int32).toInt = 0 := by decide
    have hi : ok4 i := ⟨fun e => by rw [Int32.lt_iff_toInt_lt] at e; omega, hn⟩
    refine ⟨fun q => ?_, fun q => absurd hn q⟩
    rw [mgL] at hK
    rcases c3 hr with rfl | rfl | rfl
    · refine ⟨vp3 hr, fun q9 e9 => ?_, fun e9 => absurd e9 (Option.some_ne_none _)⟩
      obtain rfl := Option.some.inj e9
      refine ⟨vp4 hi, ?_⟩
      refine ⟨_, _, _, L_come _ _ _ hr hi hz ?_, by decide, by decide, by decide⟩
      exact l_mmod hr n (i + 1) (mCome 0 i (mRes 0 i s).toInt64 s).2 hz (by omega) (by omega) hK
    · refine ⟨vp3 hr, fun q9 e9 => ?_, fun e9 => absurd e9 (Option.some_ne_none _)⟩
      obtain rfl := Option.some.inj e9
      refine ⟨vp4 hi, ?_⟩
      refine ⟨_, _, _, L_come _ _ _ hr hi hz ?_, by decide, by decide, by decide⟩
      exact l_mmod hr n (i + 1) (mCome 1 i (mRes 1 i s).toInt64 s).2 hz (by omega) (by omega) hK
    · refine ⟨vp3 hr, fun q9 e9 => ?_, fun e9 => absurd e9 (Option.some_ne_none _)⟩
      obtain rfl := Option.some.inj e9
      refine ⟨vp4 hi, ?_⟩
      refine ⟨_, _, _, L_come _ _ _ hr hi hz ?_, by decide, by decide, by decide⟩
      exact l_mmod hr n (i + 1) (mCome 2 i (mRes 2 i s).toInt64 s).2 hz (by omega) (by omega) hK
end MODP
end
section
/-! THE MODEL: the rest of what is asked of it, texts aside -/
theorem an_if {K : Kt} {x : XS} {t : mH} {c : Prop} [Decidable c] {r1 r2 : MO} (hK : anM K x t (if c then r1 else r2)) : (c → anM K x t r1) ∧ (¬ c → anM K x t r2) := by
  by_cases q : c
  · rw [if_pos q] at hK
    exact ⟨fun _ => hK, fun e => absurd q e⟩
  · rw [if_neg q] at hK
    exact ⟨fun e => absurd e q, fun _ => hK⟩
section MODQ
variable {P : GP} {K : Kt} {s : MS} {x : XS} {t : mH}
def m_atOnce (k a b c : Int32) (s : MS) : MO := gd (n4 k) s (rf (okV a b c) (sT 0 s) (if 9223372036854775807 / c.toInt64 < (a.toInt64 * b.toInt64) then mNo (sT 0 s) else mBecome 1 k (mFloor (mL (sT 0 s) k.toNatClampNeg) ((a.toInt64 * b.toInt64) * c.toInt64)) (sT 0 s)))
theorem M_atOnce (k a b c : Int32)  (hK : anM K x t (m_atOnce k a b c s)) : M P n_M_atOnce [.ref 5, .int k, .int a, .int b, .int c] (hm s x t) 0 0 10 K := by
  refine Mgo ok_M_atOnce 80 rfl ?_
  have hG := an_gd hK
  refine ⟨_, _, _, L_isNo _ (fun a1 => ?_) (fun a1 => ?_), by decide, by decide, by decide⟩
  · skip
    have hK := hG.1 a1
    refine ⟨_, _, _, L_start0 ?_, by decide, by decide, by decide⟩
    refine ⟨fun _ => ?_, fun e => absurd rfl e⟩
    have hR := an_rf hK
    refine ⟨_, _, _, L_areWrong _ _ _ (fun w1 => ?_) (fun w1 => ?_), by decide, by decide, by decide⟩
    · have hK := hR.1 w1
      refine ⟨_, _, _, L_mrefuse0 2 rfl ?_, by decide, by decide, by decide⟩
      refine ⟨fun _ => ?_, fun e => absurd rfl e⟩
      have g3 : ¬ c = 0 := fun e => w1.2.2 (by rw [e]; decide)
      refine ⟨nz64 g3, ?_⟩
      refine ⟨fun q => ?_, fun q => ?_⟩
      · rw [if_pos q] at hK
        refine ⟨_, _, _, L_mno ?_, by decide, by decide, by decide⟩
        exact hK
      · rw [if_neg q] at hK
        refine ⟨vp4 (n4_ok a1), ?_⟩
        refine ⟨_, _, _, L_mfloor _ _ (once_nz w1 q) ?_, by decide, by decide, by decide⟩
        refine ⟨_, _, _, L_become _ _ _ (n4_ok a1) ?_, by decide, by decide, by decide⟩
        exact hK
    · have hK := hR.2 w1
      refine ⟨_, _, _, L_mrefuse1 2 rfl (by decide) ?_, by decide, by decide, by decide⟩
      refine ⟨fun e => absurd e (by decide), fun _ => ?_⟩
      exact hK
  · skip
    have hK := hG.2 a1
    refine ⟨_, _, _, L_start1 ?_, by decide, by decide, by decide⟩
    refine ⟨fun e => absurd e (by decide), fun _ => ?_⟩
    exact hK
def m_power (r k e : Int32) (s : MS) : MO := gd (n3 r ∧ n4 k) s (rf (¬ e < 0) (sT 0 s) (mCome r k (mPowL (mMod r (sT 0 s)).toInt64 31 (mRest 1 (mMod r (sT 0 s)).toInt64) (mRes r k (sT 0 s)).toInt64 e) (sT 0 s)))
theorem M_power (r k e : Int32) (hz : ¬ (mMod r s).toInt64 = 0) (hK : anM K x t (m_power r k e s)) : M P n_M_power [.ref 5, .int r, .int k, .int e] (hm s x t) 0 0 10 K := by
  refine Mgo ok_M_power 80 rfl ?_
  have hG := an_gd hK
  refine ⟨_, _, _, L_isNoRing _ (fun a1 => ?_) (fun a1 => ?_), by decide, by decide, by decide⟩
  · refine ⟨fun _ => ?_, fun e => absurd rfl e⟩
    refine ⟨_, _, _, L_isNo _ (fun a2 => ?_) (fun a2 => ?_), by decide, by decide, by decide⟩
    · refine ⟨fun _ => ?_, fun e => absurd rfl e⟩
      have hK := hG.1 ⟨a1, a2⟩
      refine ⟨_, _, _, L_start0 ?_, by decide, by decide, by decide⟩
      refine ⟨fun _ => ?_, fun e => absurd rfl e⟩
      have hR := an_rf hK
      refine ⟨fun w1 => ?_, fun w1 => ?_⟩
      · have hK := hR.2 (fun e => e w1)
        refine ⟨_, _, _, L_mrefuse1 2 rfl (by decide) ?_, by decide, by decide, by decide⟩
        refine ⟨fun e => absurd e (by decide), fun _ => ?_⟩
        exact hK
      · have hK := hR.1 w1
        refine ⟨_, _, _, L_mrefuse0 2 rfl ?_, by decide, by decide, by decide⟩
        refine ⟨fun _ => ?_, fun e => absurd rfl e⟩
        have he := e.toInt_lt
        have he : e.toInt < 2 ^ 31 := by omega
        have hr := n3_ok a1
        rcases c3 hr with rfl | rfl | rfl
        · refine ⟨vp3 hr, ?_⟩
          refine ⟨_, _, _, L_mrest _ _ hz ?_, by decide, by decide, by decide⟩
          refine ⟨vp3 hr, fun q9 e9 => ?_, fun e9 => absurd e9 (Option.some_ne_none _)⟩
          obtain rfl := Option.some.inj e9
          refine ⟨vp4 (n4_ok a2), ?_⟩
          exact l_mpow (s := sT 0 s) hr hz (n4_ok a2) 31 _ _ _ he hK
        · refine ⟨vp3 hr, ?_⟩
          refine ⟨_, _, _, L_mrest _ _ hz ?_, by decide, by decide, by decide⟩
          refine ⟨vp3 hr, fun q9 e9 => ?_, fun e9 => absurd e9 (Option.some_ne_none _)⟩
          obtain rfl := Option.some.inj e9
          refine ⟨vp4 (n4_ok a2), ?_⟩
          exact l_mpow (s := sT 0 s) hr hz (n4_ok a2) 31 _ _ _ he hK
        · refine ⟨vp3 hr, ?_⟩
          refine ⟨_, _, _, L_mrest _ _ hz ?_, by decide, by decide, by decide⟩
          refine ⟨vp3 hr, fun q9 e9 => ?_, fun e9 => absurd e9 (Option.some_ne_none _)⟩
          obtain rfl := Option.some.inj e9
          refine ⟨vp4 (n4_ok a2), ?_⟩
          exact l_mpow (s := sT 0 s) hr hz (n4_ok a2) 31 _ _ _ he hK
    · refine ⟨fun e => absurd e (by decide), fun _ => ?_⟩
      have hK := hG.2 (fun e => a2 e.2)
      refine ⟨_, _, _, L_start1 ?_, by decide, by decide, by decide⟩
      refine ⟨fun e => absurd e (by decide), fun _ => ?_⟩
      exact hK
  · refine ⟨fun e => absurd e (by decide), fun _ => ?_⟩
    have hK := hG.2 (fun e => a1 e.1)
    refine ⟨_, _, _, L_start1 ?_, by decide, by decide, by decide⟩
    refine ⟨fun e => absurd e (by decide), fun _ => ?_⟩
    exact hK
def m_modulus (r m : Int32) (s : MS) : MO := gd (n3 r) s (rf (¬ m = 0) (sT 0 s) (mMod r (sT 0 s), mgL r 4 0 (sSetM r m (sT 0 s))))
theorem M_modulus (r m : Int32)  (hK : anM K x t (m_modulus r m s)) : M P n_M_modulus [.ref 5, .int r, .int m] (hm s x t) 0 0 10 K := by
  refine Mgo ok_M_modulus 80 rfl ?_
  have hG := an_gd hK
  refine ⟨_, _, _, L_isNoRing _ (fun a1 => ?_) (fun a1 => ?_), by decide, by decide, by decide⟩
  · skip
    have hK := hG.1 a1
    refine ⟨_, _, _, L_start0 ?_, by decide, by decide, by decide⟩
    refine ⟨fun _ => ?_, fun e => absurd rfl e⟩
    have hR := an_rf hK
    refine ⟨fun w1 => ?_, fun w1 => ?_⟩
    · have hK := hR.2 (fun e => e w1)
      refine ⟨_, _, _, L_mrefuse1 2 rfl (by decide) ?_, by decide, by decide, by decide⟩
      refine ⟨fun e => absurd e (by decide), fun _ => ?_⟩
      exact hK
    · have hK := hR.1 w1
      refine ⟨_, _, _, L_mrefuse0 2 rfl ?_, by decide, by decide, by decide⟩
      refine ⟨fun _ => ?_, fun e => absurd rfl e⟩
      have hr := n3_ok a1
      have hz : ¬ (mMod r (sSetM r m (sT 0 s))).toInt64 = 0 := by
        have e9 : mMod r (sSetM r m (sT 0 s)) = m := by
          show upd (mM (sT 0 s)) r.toNatClampNeg m r.toNatClampNeg = m
          simp [upd]
        rw [e9]
        exact nz64 w1
      refine ⟨vp3 hr, vp3 hr, ?_⟩
      exact l_mmod hr 4 0 (sSetM r m (sT 0 s)) hz (by decide) (by decide) hK
  · skip
    have hK := hG.2 a1
    refine ⟨_, _, _, L_start1 ?_, by decide, by decide, by decide⟩
    refine ⟨fun e => absurd e (by decide), fun _ => ?_⟩
    exact hK
def m_together (k r f q g : Int32) (s : MS) : MO := gd (n4 k ∧ n3 r ∧ n4 f ∧ n3 q ∧ n4 g) s (if wRem (mRest (mRes q g (sT 0 s)).toInt64 (lAbs (mMod q (sT 0 s)).toInt64) - (mRest (mRes r f (sT 0 s)).toInt64 (lAbs (mMod r (sT 0 s)).toInt64))) (mGcd (lAbs (mMod r (sT 0 s)).toInt64) (lAbs (mMod q (sT 0 s)).toInt64)) = 0 then mBecome 1 k ((mRest (mRes r f (sT 0 s)).toInt64 (lAbs (mMod r (sT 0 s)).toInt64)) + (lAbs (mMod r (sT 0 s)).toInt64) * mRest (mRest ((mRest (mRes q g (sT 0 s)).toInt64 (lAbs (mMod q (sT 0 s)).toInt64) - (mRest (mRes r f (sT 0 s)).toInt64 (lAbs (mMod r (sT 0 s)).toInt64))) / (mGcd (lAbs (mMod r (sT 0 s)).toInt64) (lAbs (mMod q (sT 0 s)).toInt64))) ((lAbs (mMod q (sT 0 s)).toInt64) / (mGcd (lAbs (mMod r (sT 0 s)).toInt64) (lAbs (mMod q (sT 0 s)).toInt64))) * mAgainst ((lAbs (mMod r (sT 0 s)).toInt64) / (mGcd (lAbs (mMod r (sT 0 s)).toInt64) (lAbs (mMod q (sT 0 s)).toInt64))) ((lAbs (mMod q (sT 0 s)).toInt64) / (mGcd (lAbs (mMod r (sT 0 s)).toInt64) (lAbs (mMod q (sT 0 s)).toInt64)))) ((lAbs (mMod q (sT 0 s)).toInt64) / (mGcd (lAbs (mMod r (sT 0 s)).toInt64) (lAbs (mMod q (sT 0 s)).toInt64)))) (sT 0 s) else mNo (sT 0 s))
theorem M_together (k r f q g : Int32) (hz : ¬ mMod r s = 0) (hz2 : ¬ mMod q s = 0) (hK : anM K x t (m_together k r f q g s)) : M P n_M_together [.ref 5, .int k, .int r, .int f, .int q, .int g] (hm s x t) 0 0 10 K := by
  refine Mgo ok_M_together 130 rfl ?_
  have hG := an_gd hK
  refine ⟨_, _, _, L_isNo _ (fun a1 => ?_) (fun a1 => ?_), by decide, by decide, by decide⟩
  · refine ⟨fun _ => ?_, fun e => absurd rfl e⟩
    refine ⟨_, _, _, L_isNoRing _ (fun a2 => ?_) (fun a2 => ?_), by decide, by decide, by decide⟩
    · refine ⟨fun _ => ?_, fun e => absurd rfl e⟩
      refine ⟨_, _, _, L_isNo _ (fun a3 => ?_) (fun a3 => ?_), by decide, by decide, by decide⟩
      · refine ⟨fun _ => ?_, fun e => absurd rfl e⟩
        refine ⟨_, _, _, L_isNoRing _ (fun a4 => ?_) (fun a4 => ?_), by decide, by decide, by decide⟩
        · refine ⟨fun _ => ?_, fun e => absurd rfl e⟩
          refine ⟨_, _, _, L_isNo _ (fun a5 => ?_) (fun a5 => ?_), by decide, by decide, by decide⟩
          · refine ⟨fun _ => ?_, fun e => absurd rfl e⟩
            have hK := hG.1 ⟨a1, a2, a3, a4, a5⟩
            refine ⟨_, _, _, L_start0 ?_, by decide, by decide, by decide⟩
            refine ⟨fun _ => ?_, fun e => absurd rfl e⟩
            have p1 := abs_m hz
            have p2 := abs_m hz2
            have pg := gcd_m p1.1 p2.1
            have ng := nz_pos pg.1
            have nr := nz_pos (div_pos pg.1 pg.2)
            have n1 := nz_pos p1.1
            have n2 := nz_pos p2.1
            have hr := n3_ok a2
            have hq := n3_ok a4
            rcases c3 hr with rfl | rfl | rfl <;> rcases c3 hq with rfl | rfl | rfl
            · refine ⟨vp3 hr, ?_⟩
              refine ⟨_, _, _, L_absJ _ _ ?_, by decide, by decide, by decide⟩
              refine ⟨vp3 hq, ?_⟩
              refine ⟨_, _, _, L_absJ _ _ ?_, by decide, by decide, by decide⟩
              refine ⟨_, _, _, L_mgcd _ _ ?_, by decide, by decide, by decide⟩
              refine ⟨vp3 hr, fun q9 e9 => ?_, fun e9 => absurd e9 (Option.some_ne_none _)⟩
              obtain rfl := Option.some.inj e9
              refine ⟨vp4 (n4_ok a3), ?_⟩
              refine ⟨_, _, _, L_mrest _ _ n1 ?_, by decide, by decide, by decide⟩
              refine ⟨vp3 hq, fun q9 e9 => ?_, fun e9 => absurd e9 (Option.some_ne_none _)⟩
              obtain rfl := Option.some.inj e9
              refine ⟨vp4 (n4_ok a5), ?_⟩
              refine ⟨_, _, _, L_mrest _ _ n2 ?_, by decide, by decide, by decide⟩
              refine ⟨ng, ?_⟩
              have hI := an_if hK
              refine ⟨fun q7 => ?_, fun q7 => ?_⟩
              · have hK := hI.1 q7
                refine ⟨ng, ng, ?_⟩
                refine ⟨_, _, _, L_mrest _ _ nr ?_, by decide, by decide, by decide⟩
                refine ⟨ng, ?_⟩
                refine ⟨_, _, _, L_magainst _ _ nr ?_, by decide, by decide, by decide⟩
                refine ⟨_, _, _, L_mrest _ _ nr ?_, by decide, by decide, by decide⟩
                refine ⟨_, _, _, L_become _ _ _ (n4_ok a1) ?_, by decide, by decide, by decide⟩
                exact hK
              · have hK := hI.2 q7
                refine ⟨_, _, _, L_mno ?_, by decide, by decide, by decide⟩
                exact hK
            · refine ⟨vp3 hr, ?_⟩
              refine ⟨_, _, _, L_absJ _ _ ?_, by decide, by decide, by decide⟩
              refine ⟨vp3 hq, ?_⟩
              refine ⟨_, _, _, L_absJ _ _ ?_, by decide, by decide, by decide⟩
              refine ⟨_, _, _, L_mgcd _ _ ?_, by decide, by decide, by decide⟩
              refine ⟨vp3 hr, fun q9 e9 => ?_, fun e9 => absurd e9 (Option.some_ne_none _)⟩
              obtain rfl := Option.some.inj e9
              refine ⟨vp4 (n4_ok a3), ?_⟩
              refine ⟨_, _, _, L_mrest _ _ n1 ?_, by decide, by decide, by decide⟩
              refine ⟨vp3 hq, fun q9 e9 => ?_, fun e9 => absurd e9 (Option.some_ne_none _)⟩
              obtain rfl := Option.some.inj e9
              refine ⟨vp4 (n4_ok a5), ?_⟩
              refine ⟨_, _, _, L_mrest _ _ n2 ?_, by decide, by decide, by decide⟩
              refine ⟨ng, ?_⟩
              have hI := an_if hK
              refine ⟨fun q7 => ?_, fun q7 => ?_⟩
              · have hK := hI.1 q7
                refine ⟨ng, ng, ?_⟩
                refine ⟨_, _, _, L_mrest _ _ nr ?_, by decide, by decide, by decide⟩
                refine ⟨ng, ?_⟩
                refine ⟨_, _, _, L_magainst _ _ nr ?_, by decide, by decide, by decide⟩
                refine ⟨_, _, _, L_mrest _ _ nr ?_, by decide, by decide, by decide⟩
                refine ⟨_, _, _, L_become _ _ _ (n4_ok a1) ?_, by decide, by decide, by decide⟩
                exact hK
              · have hK := hI.2 q7
                refine ⟨_, _, _, L_mno ?_, by decide, by decide, by decide⟩
                exact hK
            · refine ⟨vp3 hr, ?_⟩
              refine ⟨_, _, _, L_absJ _ _ ?_, by decide, by decide, by decide⟩
              refine ⟨vp3 hq, ?_⟩
              refine ⟨_, _, _, L_absJ _ _ ?_, by decide, by decide, by decide⟩
              refine ⟨_, _, _, L_mgcd _ _ ?_, by decide, by decide, by decide⟩
              refine ⟨vp3 hr, fun q9 e9 => ?_, fun e9 => absurd e9 (Option.some_ne_none _)⟩
              obtain rfl := Option.some.inj e9
              refine ⟨vp4 (n4_ok a3), ?_⟩
              refine ⟨_, _, _, L_mrest _ _ n1 ?_, by decide, by decide, by decide⟩
              refine ⟨vp3 hq, fun q9 e9 => ?_, fun e9 => absurd e9 (Option.some_ne_none _)⟩
              obtain rfl := Option.some.inj e9
              refine ⟨vp4 (n4_ok a5), ?_⟩
              refine ⟨_, _, _, L_mrest _ _ n2 ?_, by decide, by decide, by decide⟩
              refine ⟨ng, ?_⟩
              have hI := an_if hK
              refine ⟨fun q7 => ?_, fun q7 => ?_⟩
              · have hK := hI.1 q7
                refine ⟨ng, ng, ?_⟩
                refine ⟨_, _, _, L_mrest _ _ nr ?_, by decide, by decide, by decide⟩
                refine ⟨ng, ?_⟩
                refine ⟨_, _, _, L_magainst _ _ nr ?_, by decide, by decide, by decide⟩
                refine ⟨_, _, _, L_mrest _ _ nr ?_, by decide, by decide, by decide⟩
                refine ⟨_, _, _, L_become _ _ _ (n4_ok a1) ?_, by decide, by decide, by decide⟩
                exact hK
              · have hK := hI.2 q7
                refine ⟨_, _, _, L_mno ?_, by decide, by decide, by decide⟩
                exact hK
            · refine ⟨vp3 hr, ?_⟩
              refine ⟨_, _, _, L_absJ _ _ ?_, by decide, by decide, by decide⟩
              refine ⟨vp3 hq, ?_⟩
              refine ⟨_, _, _, L_absJ _ _ ?_, by decide, by decide, by decide⟩
              refine ⟨_, _, _, L_mgcd _ _ ?_, by decide, by decide, by decide⟩
              refine ⟨vp3 hr, fun q9 e9 => ?_, fun e9 => absurd e9 (Option.some_ne_none _)⟩
              obtain rfl := Option.some.inj e9
              refine ⟨vp4 (n4_ok a3), ?_⟩
              refine ⟨_, _, _, L_mrest _ _ n1 ?_, by decide, by decide, by decide⟩
              refine ⟨vp3 hq, fun q9 e9 => ?_, fun e9 => absurd e9 (Option.some_ne_none _)⟩
              obtain rfl := Option.some.inj e9
              refine ⟨vp4 (n4_ok a5), ?_⟩
              refine ⟨_, _, _, L_mrest _ _ n2 ?_, by decide, by decide, by decide⟩
              refine ⟨ng, ?_⟩
              have hI := an_if hK
              refine ⟨fun q7 => ?_, fun q7 => ?_⟩
              · have hK := hI.1 q7
                refine ⟨ng, ng, ?_⟩
                refine ⟨_, _, _, L_mrest _ _ nr ?_, by decide, by decide, by decide⟩
                refine ⟨ng, ?_⟩
                refine ⟨_, _, _, L_magainst _ _ nr ?_, by decide, by decide, by decide⟩
                refine ⟨_, _, _, L_mrest _ _ nr ?_, by decide, by decide, by decide⟩
                refine ⟨_, _, _, L_become _ _ _ (n4_ok a1) ?_, by decide, by decide, by decide⟩
                exact hK
              · have hK := hI.2 q7
                refine ⟨_, _, _, L_mno ?_, by decide, by decide, by decide⟩
                exact hK
            · refine ⟨vp3 hr, ?_⟩
              refine ⟨_, _, _, L_absJ _ _ ?_, by decide, by decide, by decide⟩
              refine ⟨vp3 hq, ?_⟩
              refine ⟨_, _, _, L_absJ _ _ ?_, by decide, by decide, by decide⟩
              refine ⟨_, _, _, L_mgcd _ _ ?_, by decide, by decide, by decide⟩
              refine ⟨vp3 hr, fun q9 e9 => ?_, fun e9 => absurd e9 (Option.some_ne_none _)⟩
              obtain rfl := Option.some.inj e9
              refine ⟨vp4 (n4_ok a3), ?_⟩
              refine ⟨_, _, _, L_mrest _ _ n1 ?_, by decide, by decide, by decide⟩
              refine ⟨vp3 hq, fun q9 e9 => ?_, fun e9 => absurd e9 (Option.some_ne_none _)⟩
              obtain rfl := Option.some.inj e9
              refine ⟨vp4 (n4_ok a5), ?_⟩
              refine ⟨_, _, _, L_mrest _ _ n2 ?_, by decide, by decide, by decide⟩
              refine ⟨ng, ?_⟩
              have hI := an_if hK
              refine ⟨fun q7 => ?_, fun q7 => ?_⟩
              · have hK := hI.1 q7
                refine ⟨ng, ng, ?_⟩
                refine ⟨_, _, _, L_mrest _ _ nr ?_, by decide, by decide, by decide⟩
                refine ⟨ng, ?_⟩
                refine ⟨_, _, _, L_magainst _ _ nr ?_, by decide, by decide, by decide⟩
                refine ⟨_, _, _, L_mrest _ _ nr ?_, by decide, by decide, by decide⟩
                refine ⟨_, _, _, L_become _ _ _ (n4_ok a1) ?_, by decide, by decide, by decide⟩
                exact hK
              · have hK := hI.2 q7
                refine ⟨_, _, _, L_mno ?_, by decide, by decide, by decide⟩
                exact hK
            · refine ⟨vp3 hr, ?_⟩
              refine ⟨_, _, _, L_absJ _ _ ?_, by decide, by decide, by decide⟩
              refine ⟨vp3 hq, ?_⟩
              refine ⟨_, _, _, L_absJ _ _ ?_, by decide, by decide, by decide⟩
              refine ⟨_, _, _, L_mgcd _ _ ?_, by decide, by decide, by decide⟩
              refine ⟨vp3 hr, fun q9 e9 => ?_, fun e9 => absurd e9 (Option.some_ne_none _)⟩
              obtain rfl := Option.some.inj e9
              refine ⟨vp4 (n4_ok a3), ?_⟩
              refine ⟨_, _, _, L_mrest _ _ n1 ?_, by decide, by decide, by decide⟩
              refine ⟨vp3 hq, fun q9 e9 => ?_, fun e9 => absurd e9 (Option.some_ne_none _)⟩
              obtain rfl := Option.some.inj e9
              refine ⟨vp4 (n4_ok a5), ?_⟩
              refine ⟨_, _, _, L_mrest _ _ n2 ?_, by decide, by decide, by decide⟩
              refine ⟨ng, ?_⟩
              have hI := an_if hK
              refine ⟨fun q7 => ?_, fun q7 => ?_⟩
              · have hK := hI.1 q7
                refine ⟨ng, ng, ?_⟩
                refine ⟨_, _, _, L_mrest _ _ nr ?_, by decide, by decide, by decide⟩
                refine ⟨ng, ?_⟩
                refine ⟨_, _, _, L_magainst _ _ nr ?_, by decide, by decide, by decide⟩
                refine ⟨_, _, _, L_mrest _ _ nr ?_, by decide, by decide, by decide⟩
                refine ⟨_, _, _, L_become _ _ _ (n4_ok a1) ?_, by decide, by decide, by decide⟩
                exact hK
              · have hK := hI.2 q7
                refine ⟨_, _, _, L_mno ?_, by decide, by decide, by decide⟩
                exact hK
            · refine ⟨vp3 hr, ?_⟩
              refine ⟨_, _, _, L_absJ _ _ ?_, by decide, by decide, by decide⟩
              refine ⟨vp3 hq, ?_⟩
              refine ⟨_, _, _, L_absJ _ _ ?_, by decide, by decide, by decide⟩
              refine ⟨_, _, _, L_mgcd _ _ ?_, by decide, by decide, by decide⟩
              refine ⟨vp3 hr, fun q9 e9 => ?_, fun e9 => absurd e9 (Option.some_ne_none _)⟩
              obtain rfl := Option.some.inj e9
              refine ⟨vp4 (n4_ok a3), ?_⟩
              refine ⟨_, _, _, L_mrest _ _ n1 ?_, by decide, by decide, by decide⟩
              refine ⟨vp3 hq, fun q9 e9 => ?_, fun e9 => absurd e9 (Option.some_ne_none _)⟩
              obtain rfl := Option.some.inj e9
              refine ⟨vp4 (n4_ok a5), ?_⟩
              refine ⟨_, _, _, L_mrest _ _ n2 ?_, by decide, by decide, by decide⟩
              refine ⟨ng, ?_⟩
              have hI := an_if hK
              refine ⟨fun q7 => ?_, fun q7 => ?_⟩
              · have hK := hI.1 q7
                refine ⟨ng, ng, ?_⟩
                refine ⟨_, _, _, L_mrest _ _ nr ?_, by decide, by decide, by decide⟩
                refine ⟨ng, ?_⟩
                refine ⟨_, _, _, L_magainst _ _ nr ?_, by decide, by decide, by decide⟩
                refine ⟨_, _, _, L_mrest _ _ nr ?_, by decide, by decide, by decide⟩
                refine ⟨_, _, _, L_become _ _ _ (n4_ok a1) ?_, by decide, by decide, by decide⟩
                exact hK
              · have hK := hI.2 q7
                refine ⟨_, _, _, L_mno ?_, by decide, by decide, by decide⟩
                exact hK
            · refine ⟨vp3 hr, ?_⟩
              refine ⟨_, _, _, L_absJ _ _ ?_, by decide, by decide, by decide⟩
              refine ⟨vp3 hq, ?_⟩
              refine ⟨_, _, _, L_absJ _ _ ?_, by decide, by decide, by decide⟩
              refine ⟨_, _, _, L_mgcd _ _ ?_, by decide, by decide, by decide⟩
              refine ⟨vp3 hr, fun q9 e9 => ?_, fun e9 => absurd e9 (Option.some_ne_none _)⟩
              obtain rfl := Option.some.inj e9
              refine ⟨vp4 (n4_ok a3), ?_⟩
              refine ⟨_, _, _, L_mrest _ _ n1 ?_, by decide, by decide, by decide⟩
              refine ⟨vp3 hq, fun q9 e9 => ?_, fun e9 => absurd e9 (Option.some_ne_none _)⟩
              obtain rfl := Option.some.inj e9
              refine ⟨vp4 (n4_ok a5), ?_⟩
              refine ⟨_, _, _, L_mrest _ _ n2 ?_, by decide, by decide, by decide⟩
              refine ⟨ng, ?_⟩
              have hI := an_if hK
              refine ⟨fun q7 => ?_, fun q7 => ?_⟩
              · have hK := hI.1 q7
                refine ⟨ng, ng, ?_⟩
                refine ⟨_, _, _, L_mrest _ _ nr ?_, by decide, by decide, by decide⟩
                refine ⟨ng, ?_⟩
                refine ⟨_, _, _, L_magainst _ _ nr ?_, by decide, by decide, by decide⟩
                refine ⟨_, _, _, L_mrest _ _ nr ?_, by decide, by decide, by decide⟩
                refine ⟨_, _, _, L_become _ _ _ (n4_ok a1) ?_, by decide, by decide, by decide⟩
                exact hK
              · have hK := hI.2 q7
                refine ⟨_, _, _, L_mno ?_, by decide, by decide, by decide⟩
                exact hK
            · refine ⟨vp3 hr, ?_⟩
              refine ⟨_, _, _, L_absJ _ _ ?_, by decide, by decide, by decide⟩
              refine ⟨vp3 hq, ?_⟩
              refine ⟨_, _, _, L_absJ _ _ ?_, by decide, by decide, by decide⟩
              refine ⟨_, _, _, L_mgcd _ _ ?_, by decide, by decide, by decide⟩
              refine ⟨vp3 hr, fun q9 e9 => ?_, fun e9 => absurd e9 (Option.some_ne_none _)⟩
              obtain rfl := Option.some.inj e9
              refine ⟨vp4 (n4_ok a3), ?_⟩
              refine ⟨_, _, _, L_mrest _ _ n1 ?_, by decide, by decide, by decide⟩
              refine ⟨vp3 hq, fun q9 e9 => ?_, fun e9 => absurd e9 (Option.some_ne_none _)⟩
              obtain rfl := Option.some.inj e9
              refine ⟨vp4 (n4_ok a5), ?_⟩
              refine ⟨_, _, _, L_mrest _ _ n2 ?_, by decide, by decide, by decide⟩
              refine ⟨ng, ?_⟩
              have hI := an_if hK
              refine ⟨fun q7 => ?_, fun q7 => ?_⟩
              · have hK := hI.1 q7
                refine ⟨ng, ng, ?_⟩
                refine ⟨_, _, _, L_mrest _ _ nr ?_, by decide, by decide, by decide⟩
                refine ⟨ng, ?_⟩
                refine ⟨_, _, _, L_magainst _ _ nr ?_, by decide, by decide, by decide⟩
                refine ⟨_, _, _, L_mrest _ _ nr ?_, by decide, by decide, by decide⟩
                refine ⟨_, _, _, L_become _ _ _ (n4_ok a1) ?_, by decide, by decide, by decide⟩
                exact hK
              · have hK := hI.2 q7
                refine ⟨_, _, _, L_mno ?_, by decide, by decide, by decide⟩
                exact hK
          · refine ⟨fun e => absurd e (by decide), fun _ => ?_⟩
            have hK := hG.2 (fun e => a5 e.2.2.2.2)
            refine ⟨_, _, _, L_start1 ?_, by decide, by decide, by decide⟩
            refine ⟨fun e => absurd e (by decide), fun _ => ?_⟩
            exact hK
        · refine ⟨fun e => absurd e (by decide), fun _ => ?_⟩
          have hK := hG.2 (fun e => a4 e.2.2.2.1)
          refine ⟨_, _, _, L_start1 ?_, by decide, by decide, by decide⟩
          refine ⟨fun e => absurd e (by decide), fun _ => ?_⟩
          exact hK
      · refine ⟨fun e => absurd e (by decide), fun _ => ?_⟩
        have hK := hG.2 (fun e => a3 e.2.2.1)
        refine ⟨_, _, _, L_start1 ?_, by decide, by decide, by decide⟩
        refine ⟨fun e => absurd e (by decide), fun _ => ?_⟩
        exact hK
    · refine ⟨fun e => absurd e (by decide), fun _ => ?_⟩
      have hK := hG.2 (fun e => a2 e.2.1)
      refine ⟨_, _, _, L_start1 ?_, by decide, by decide, by decide⟩
      refine ⟨fun e => absurd e (by decide), fun _ => ?_⟩
      exact hK
  · refine ⟨fun e => absurd e (by decide), fun _ => ?_⟩
    have hK := hG.2 (fun e => a1 e.1)
    refine ⟨_, _, _, L_start1 ?_, by decide, by decide, by decide⟩
    refine ⟨fun e => absurd e (by decide), fun _ => ?_⟩
    exact hK
end MODQ
end
section
/-! THE MODEL: its house -/
def b01 (v : Int64) : Int32 := if v = 0 then 1 else 0
def mzL (s : MS) : Nat → Int32 → Int32 → Int32
  | 0, _, c => c
  | n + 1, i, c => mzL s n (i + 1) (c + (b01 (mI s i.toNatClampNeg) + b01 (mL s i.toNatClampNeg)))
termination_by n => n
def muI (s : MS) (r : Int32) : Nat → Int32 → Int32 → Int32
  | 0, _, c => c
  | n + 1, i, c => muI s r n (i + 1) (c + (if mUnit r i s = 0 then 0 else 1))
termination_by n => n
def muO (s : MS) : Nat → Int32 → Int32 → Int32
  | 0, _, c => c
  | n + 1, r, c => muO s n (r + 1) (muI s r 4 0 c)
termination_by n => n
def mHs (w : Int32) (s : MS) : Int32 := if w = 0 then mF s else if w = 1 then mK s else if w = 2 then mzL s 4 0 0 else muO s 3 0 0
def m_house (w : Int32) (s : MS) : MO := gd (¬ w < 0 ∧ ¬ 3 < w) s (mHs w (sT 0 s), sT 0 s)
section MODH
variable {P : GP} {K : Kt} {s : MS} {x : XS} {t : mH}
theorem l_muI {w c0 r : Int32} (hr : ok3 r) : ∀ (n : Nat) (i c : Int32), 0 ≤ i.toInt → i.toInt + n = 4 → (∀ y, G P n_M_houseNow K 9 60 [some (.ref 5), some (.int w), some (.int c0), some (.int (muI s r n i c)), some (.int (r + 1)), y] [] (hm s x t) 0 0) →
    G P n_M_houseNow K 9 69 [some (.ref 5), some (.int w), some (.int c0), some (.int c), some (.int r), some (.int i)] [] (hm s x t) 0 0
  | 0, i, c, h0, hb, hK => by
    refine go ok_M_houseNow 80 ?_
    have hn := i32_nlt (m := 4) (by omega) 4 (by decide) (b := i)
    refine ⟨fun q => absurd q hn, fun q => ?_⟩
    rw [muI] at hK
    exact hK _
  | n + 1, i, c, h0, hb, hK => by
    refine go ok_M_houseNow 80 ?_
    have hn := i32_lt (b := i) (n := n) (m := 4) (by omega) 4 (by decide)
    have hs := i32_s (b := i) (n := n) (m := 4) h0 (by omega) (by decide)
    have hz0 : (0 : Int32).toInt = 0 := by decide
    have hi : ok4 i := ⟨fun e => by rw [Int32.lt_iff_toInt_lt] at e; omega, hn⟩
    refine ⟨fun q => ?_, fun q => absurd hn q⟩
    rw [muI] at hK
    refine ⟨_, _, _, L_unitNow _ _ hr hi ?_, by decide, by decide, by decide⟩
    refine ⟨fun q => ?_, fun q => ?_⟩
    · rw [if_pos q] at hK
      exact l_muI hr n (i + 1) _ (by omega) (by omega) hK
    · rw [if_neg q] at hK
      exact l_muI hr n (i + 1) _ (by omega) (by omega) hK
theorem l_muO {w c0 : Int32} : ∀ (n : Nat) (r c : Int32) (y : Option Value), 0 ≤ r.toInt → r.toInt + n = 3 → K (.inl (some (.int (if w = 0 then mF s else if w = 1 then mK s else if w = 2 then c0 else muO s n r c)))) (hm s x t) →
    G P n_M_houseNow K 9 60 [some (.ref 5), some (.int w), some (.int c0), some (.int c), some (.int r), y] [] (hm s x t) 0 0
  | 0, r, c, y, h0, hb, hK => by
    have hn := i32_nlt (m := 3) (by omega) 3 (by decide) (b := r)
    rw [muO] at hK
    refine go ok_M_houseNow 80 ?_
    refine ⟨fun q => absurd q hn, fun q => ?_⟩
    refine ⟨fun q0 => ?_, fun q0 => ?_⟩
    · rw [if_pos q0] at hK
      exact hK
    · rw [if_neg q0] at hK
      refine ⟨fun q1 => ?_, fun q1 => ?_⟩
      · rw [if_pos q1] at hK
        exact hK
      · rw [if_neg q1] at hK
        refine ⟨fun q2 => ?_, fun q2 => ?_⟩
        · rw [if_pos q2] at hK
          exact hK
        · rw [if_neg q2] at hK
          exact hK
  | n + 1, r, c, y, h0, hb, hK => by
    refine go ok_M_houseNow 80 ?_
    have hn := i32_lt (b := r) (n := n) (m := 3) (by omega) 3 (by decide)
    have hs := i32_s (b := r) (n := n) (m := 3) h0 (by omega) (by decide)
    have hz0 : (0 : Int32).toInt = 0 := by decide
    have hr : ok3 r := ⟨fun e => by rw [Int32.lt_iff_toInt_lt] at e; omega, hn⟩
    refine ⟨fun q => ?_, fun q => absurd hn q⟩
    rw [muO] at hK
    exact l_muI hr 4 0 c (by decide) (by decide) (fun y => l_muO n (r + 1) _ y (by omega) (by omega) hK)
theorem l_mz {w : Int32} : ∀ (n : Nat) (i c : Int32) (y : Option Value), 0 ≤ i.toInt → i.toInt + n = 4 → K (.inl (some (.int (if w = 0 then mF s else if w = 1 then mK s else if w = 2 then mzL s n i c else muO s 3 0 0)))) (hm s x t) →
    G P n_M_houseNow K 9 7 [some (.ref 5), some (.int w), some (.int c), some (.int 0), some (.int i), y] [] (hm s x t) 0 0
  | 0, i, c, y, h0, hb, hK => by
    refine go ok_M_houseNow 80 ?_
    have hn := i32_nlt (m := 4) (by omega) 4 (by decide) (b := i)
    refine ⟨fun q => absurd q hn, fun q => ?_⟩
    rw [mzL] at hK
    exact l_muO 3 0 0 y (by decide) (by decide) hK
  | n + 1, i, c, y, h0, hb, hK => by
    refine go ok_M_houseNow 80 ?_
    have hn := i32_lt (b := i) (n := n) (m := 4) (by omega) 4 (by decide)
    have hs := i32_s (b := i) (n := n) (m := 4) h0 (by omega) (by decide)
    have hz0 : (0 : Int32).toInt = 0 := by decide
    have hi : ok4 i := ⟨fun e => by rw [Int32.lt_iff_toInt_lt] at e; omega, hn⟩
    refine ⟨fun q => ⟨vp4 hi, ?_⟩, fun q => absurd hn q⟩
    rw [mzL] at hK
    unfold b01 at hK
    refine ⟨fun qa => ?_, fun qa => ?_⟩
    · rw [if_pos (c := mI s i.toNatClampNeg = 0) qa] at hK
      refine ⟨vp4 hi, ?_⟩
      refine ⟨fun qb => ?_, fun qb => ?_⟩
      · rw [if_pos (c := mL s i.toNatClampNeg = 0) qb] at hK
        exact l_mz n (i + 1) _ y (by omega) (by omega) hK
      · rw [if_neg (c := mL s i.toNatClampNeg = 0) qb] at hK
        exact l_mz n (i + 1) _ y (by omega) (by omega) hK
    · rw [if_neg (c := mI s i.toNatClampNeg = 0) qa] at hK
      refine ⟨vp4 hi, ?_⟩
      refine ⟨fun qb => ?_, fun qb => ?_⟩
      · rw [if_pos (c := mL s i.toNatClampNeg = 0) qb] at hK
        exact l_mz n (i + 1) _ y (by omega) (by omega) hK
      · rw [if_neg (c := mL s i.toNatClampNeg = 0) qb] at hK
        exact l_mz n (i + 1) _ y (by omega) (by omega) hK
theorem M_houseNow (w : Int32) (hK : K (.inl (some (.int (mHs w s)))) (hm s x t)) : M P n_M_houseNow [.ref 5, .int w] (hm s x t) 0 0 9 K := by
  refine Mgo ok_M_houseNow 80 rfl ?_
  exact l_mz 4 0 0 none (by decide) (by decide) hK
theorem M_house (w : Int32) (hK : anM K x t (m_house w s)) : M P n_M_house [.ref 5, .int w] (hm s x t) 0 0 10 K := by
  refine Mgo ok_M_house 80 rfl ?_
  have hG := an_gd hK
  refine ⟨fun q1 => ?_, fun q1 => ?_⟩
  · have hK := hG.2 (fun e => e.1 q1)
    refine ⟨_, _, _, L_start1 ?_, by decide, by decide, by decide⟩
    refine ⟨fun e => absurd e (by decide), fun _ => ?_⟩
    exact hK
  · refine ⟨fun q2 => ?_, fun q2 => ?_⟩
    · have hK := hG.2 (fun e => e.2 q2)
      refine ⟨_, _, _, L_start1 ?_, by decide, by decide, by decide⟩
      refine ⟨fun e => absurd e (by decide), fun _ => ?_⟩
      exact hK
    · have hK := hG.1 ⟨q1, q2⟩
      refine ⟨_, _, _, L_start0 ?_, by decide, by decide, by decide⟩
      refine ⟨fun _ => ?_, fun e => absurd rfl e⟩
      refine ⟨_, _, _, M_houseNow (s := sT 0 s) _ ?_, by decide, by decide, by decide⟩
      exact hK
end MODH
end
section
/-! steps that no run takes: bytes copied, bytes cloned, a cast, rows of rows made at once -/
theorem wN_ac : Cond.native arraycopyName ∈ TB := TB_in ⟨nth_mem (n := 619) (by decide +kernel), by decide +kernel⟩
theorem wS_ac : Cond.static arraycopyName ∈ TB := TB_in ⟨nth_mem (n := 618) (by decide +kernel), by decide +kernel⟩
theorem wI_ac : Cond.initialized "java/lang/System" ∈ TB := TB_in ⟨nth_mem (n := 42) (by decide +kernel), by decide +kernel⟩
theorem wA_ac : Cond.methodLink rc_ARR 150 arraycopyName ∈ TB := TB_in ⟨nth_mem (n := 617) (by decide +kernel), by decide +kernel⟩
theorem wT_ac : Cond.methodLink rc_STR 212 arraycopyName ∈ TB := TB_in ⟨nth_mem (n := 817) (by decide +kernel), by decide +kernel⟩
theorem nnI (z : Int32) (hz : ¬ z < 0) : z.toInt = (z.toNatClampNeg : Int) := by
  have hz0 : (0 : Int) ≤ z.toInt := by
    have := Int32.not_lt.mp hz
    simpa using Int32.le_iff_toInt_le.mp this
  show z.toInt = ((z.toInt.toNat : Nat) : Int)
  omega
def BF (g : Nat → Int32) : Prop := ∀ j, fits .byte (.int (g j)) = true
section SPC
variable {P : GP} {a : Nat} {K : Kt} {d : Nat}
variable {pc : Nat} {L : mLs} {st : List Value} {h : mH} {cb sb : Nat}
/-- bytes that stand somewhere: in a cell of ours, or fixed -/
def SrcB (P : GP) (h : mH) (w : Value) (n0 : Nat) (f : Nat → Int32) : Prop := ∃ b : Nat, mV P w = .ref b ∧ ∀ (s : State) (H : Heap) (locs : List Loc), Env P s → va_S (gF P) s.heap H locs → Wd P h H →
  ∃ scr : Cell, H[b]? = some scr ∧ (∀ k, scr.vm ≠ .statics k) ∧ scr.vm ≠ .unknown ∧ (∃ (k0 : Class) (cm : ClassId), s.vm.classes[scr.cls]? = some k0 ∧ k0.kind = .array cm .byte) ∧ n0 ≤ scr.slots.size ∧ ∀ j : Nat, j < n0 → scr.slots[j]? = some (.int (f j))
theorem src_h {i n0 : Nat} {f : Nat → Int32} (hi : nth h i = some (.inl (0, n0, .inl f))) : SrcB P h (.ref i) n0 f := by
  refine ⟨_, rfl, fun s H locs hE hS hWd => ?_⟩
  obtain ⟨-, k0, hk0, cm0, hkk0⟩ := ((Env_K hE).2 0 _ rfl).1 n0 (fun j => .int (f j))
  have hc : H[gN P + i]? = some (vp_cell (gC P 0) (n0, .inl f)) := wd_arr hWd hi
  refine ⟨vp_cell (gC P 0) (n0, .inl f), hc, ?_, ?_, ⟨k0, cm0, hk0, hkk0⟩, ?_, ?_⟩
  · intro k h
    cases h
  · intro h
    cases h
  · exact Nat.le_of_eq (arrV_size _ _ _).symm
  · intro j hj
    exact arrV_read _ _ hj
theorem src_c {c n0 : Nat} {f : Nat → Int32} (hc : cBy c = some (n0, f)) : SrcB P h (.retAddr c) n0 f := by
  refine ⟨_, rfl, fun s H locs hE hS hWd => ?_⟩
  obtain ⟨scr, hs1, hs2, hs3, hs4, -, hs5, hs7⟩ := cBy_of hc hE
  obtain ⟨hs6, k0, hk0, cm0, hkk0⟩ := hs2
  exact ⟨scr, by rw [hS.2.1 _ (Array.getElem?_eq_some_iff.mp hs1).1 hs7]; exact hs1, hs6, hs3, ⟨k0, cm0, hk0, hkk0⟩, hs4, hs5⟩
theorem s_acp {ix j n0 n1 : Nat} {w : Value} {f g : Nat → Int32} {sp dp n : Int32} (hd : decode (mCode a) pc = .ok (.invokestatic ix, 3)) (w1 : Cond.methodLink (mOwn a) ix arraycopyName ∈ TB)
    (hsrc : SrcB P h w n0 f) (hj : nth h j = some (.inl (0, n1, .inl g))) (h1 : ¬ sp < 0) (h2 : ¬ dp < 0) (h3 : ¬ n < 0) (h4 : sp.toNatClampNeg + n.toNatClampNeg ≤ n0) (h5 : dp.toNatClampNeg + n.toNatClampNeg ≤ n1) (hfit : BF f) (hc8 : catS st ≤ 8) (hd1 : 1 ≤ d)
    (q : G P a K d (pc + 3) L st (h.set j (.inl (0, n1, .inl (va_cpy f g sp.toNatClampNeg dp.toNatClampNeg n.toNatClampNeg)))) cb sb) : G P a K d pc L (.int n :: .int dp :: .ref j :: .int sp :: w :: st) h cb sb := by
  obtain ⟨b, hwb, hsrc⟩ := hsrc
  refine G_of fun p e R s m args below meth c H locs cells slots ls F Y V hx hb => ?_
  obtain ⟨-, -, hml, hr, hown, hts, hE, hlocks, -, htab, hfr, hlo⟩ := id F
  obtain ⟨hY1, hY2, hS, hWd⟩ := id Y
  obtain ⟨scr, hc0, hs6, hs3, ⟨k0, cm0, hk0, hkk0⟩, hs4, hs5⟩ := hsrc s H locs hE hS hWd
  have hc1 : H[gN P + j]? = some (vp_cell (gC P 0) (n1, .inl g)) := wd_arr hWd hj
  obtain ⟨-, k1, hk1, cm1, hkk1⟩ := ((Env_K hE).2 0 _ rfl).1 n1 (fun j => .int (g j))
  intro T hT X
  obtain ⟨vm', X', step⟩ := X.arraycopy hx hown (hts _ w1) (hts _ wN_ac) (hts _ wS_ac) (hts _ wI_ac) (src := b) (dst := gN P + j) (cs := scr) (cd := vp_cell (gC P 0) (n1, .inl g)) (srcPos := sp) (destPos := dp) (n := n) (by rw [hT]; exact hc0) (by rw [hT]; exact hc1)
    hs6 (fun _ h => by cases h) hs3 (fun h => by cases h) hk0 hk1 hkk0 hkk1 (by simp [refKind]) h1 h2 h3
    (by rw [nnI sp h1, nnI n h3]; omega)
    (by rw [nnI dp h2, nnI n h3]; show ¬ _ > ((arrV (gC P 0) n1 (fun j => .int (g j))).slots.size : Int); rw [arrV_size]; omega)
    (fun vm₁ _ i hi => by
      have e : scr.slots.getD (sp.toNatClampNeg + i) .null = .int (f (sp.toNatClampNeg + i)) := by
        rw [Array.getD_eq_getD_getElem?, hs5 _ (by omega)]
        rfl
      refine ⟨?_, ?_⟩
      · rw [e]
        exact hfit _
      · rw [e]
        exact trivial)
    (g := F0 m pc ls ((.int n :: .int dp :: .ref j :: .int sp :: w :: st : List Value).map (mV P))) rfl (by show ls.size = _; rw [hml]; exact V.1.1) (rest := st.map (mV P)) (by show mV P (.int n) :: mV P (.int dp) :: mV P (.ref j) :: mV P (.int sp) :: mV P w :: st.map (mV P) = _; rw [hwb]; rfl) (by rw [hb]; exact hd) (by omega)
    (by
      have hz : nativeFrameWords "java/lang/System" "arraycopy" 5 + 11 ≤ 92 := by decide +kernel
      have := cat_room (P := P) (pc := pc) (ls := ls) (m := m) (stv := []) hc8
      show 2 * 0 + _ + _ ≤ _
      have h0 : 2 * (F0 m pc ls []).monitorRoom = 0 := rfl
      omega)
  have e1 : copied scr (vp_cell (gC P 0) (n1, .inl g)) sp dp n = vp_cell (gC P 0) (n1, .inl (va_cpy f g sp.toNatClampNeg dp.toNatClampNeg n.toNatClampNeg)) := va_copiedX (fun z => .int z) scr (gC P 0) f g hs5 h4
  rw [e1] at X' step
  have hl : gN P + j < H.size := (Array.getElem?_eq_some_iff.mp hc1).1
  have hheap : ((T.setVm vm').setCell (gN P + j) (vp_cell (gC P 0) (n1, .inl (va_cpy f g sp.toNatClampNeg dp.toNatClampNeg n.toNatClampNeg)))).heap = H.setIfInBounds (gN P + j) (vp_cell (gC P 0) (n1, .inl (va_cpy f g sp.toNatClampNeg dp.toNatClampNeg n.toNatClampNeg))) := by rw [← hT]; rfl
  have oq : ∀ q : Nat, q ≠ gN P + j → (H.setIfInBounds (gN P + j) (vp_cell (gC P 0) (n1, .inl (va_cpy f g sp.toNatClampNeg dp.toNatClampNeg n.toNatClampNeg))))[q]? = H[q]? := fun q hq => by simp [Array.getElem?_setIfInBounds, Ne.symm hq]
  have hz : (H.setIfInBounds (gN P + j) (vp_cell (gC P 0) (n1, .inl (va_cpy f g sp.toNatClampNeg dp.toNatClampNeg n.toNatClampNeg)))).size = H.size := by simp
  obtain ⟨t, a1, b1⟩ := q p e R s m args below meth c _ _ cells slots ls F ⟨hY1, hY2, ⟨by rw [hz]; exact hS.1, fun q g1 g2 => by
      rw [oq q (fun e => g2 (by rw [e]; show gN P ≤ gN P + j; omega))]
      exact hS.2.1 q g1 g2, fun q hq => by
      rcases List.mem_append.mp hq with h | h
      · exact hS.2.2 q h
      · obtain ⟨z, -, hz⟩ := List.mem_map.mp h
        rw [← hz]
        show gN P ≤ gN P + j
        omega⟩, wd_set hWd hj hz (show (H.setIfInBounds (gN P + j) _)[gN P + j]? = some _ by simp [Array.getElem?_setIfInBounds, hl]; rfl) oq⟩ V _ hheap X'
  exact ⟨t, step t a1, b1⟩
theorem w_c1 : Cond.methodLink rc_ARR 310 ⟨"[B", "clone", "()Ljava/lang/Object;"⟩ ∈ TB := TB_in ⟨nth_mem (n := 607) (by decide +kernel), by decide +kernel⟩
theorem w_c2 : Cond.sameMethod "[B" "java/lang/Object" "clone" "()Ljava/lang/Object;" ∈ TB := TB_in ⟨nth_mem (n := 608) (by decide +kernel), by decide +kernel⟩
theorem w_c3 : Cond.native ⟨"java/lang/Object", "clone", "()Ljava/lang/Object;"⟩ ∈ TB := TB_in ⟨nth_mem (n := 609) (by decide +kernel), by decide +kernel⟩
theorem w_c4 : Cond.instanceMethod ⟨"java/lang/Object", "clone", "()Ljava/lang/Object;"⟩ ∈ TB := TB_in ⟨nth_mem (n := 610) (by decide +kernel), by decide +kernel⟩
theorem w_c5 : Cond.selects "[B" ⟨"[B", "clone", "()Ljava/lang/Object;"⟩ ⟨"java/lang/Object", "clone", "()Ljava/lang/Object;"⟩ ∈ TB := TB_in ⟨nth_mem (n := 611) (by decide +kernel), by decide +kernel⟩
theorem w_c6 : Cond.castable "[B" "java/lang/Cloneable" ∈ WF := List.mem_filter.mpr ⟨nth_mem (n := 612) (by decide +kernel), by decide +kernel⟩
theorem w_c7 : Cond.classLink rc_ARR 311 "[B" ∈ TB := TB_in ⟨nth_mem (n := 613) (by decide +kernel), by decide +kernel⟩
theorem find_B {s : State} (hE : Env P s) : s.vm.findClass "[B" = some (gC P 0) := ((Env_K hE).2 0 _ rfl).2
theorem s_clone {i n0 : Nat} {f : Nat → Int32} (hd : decode (mCode a) pc = .ok (.invokevirtual 310, 3)) (ho : mOwn a = rc_ARR) (hi : nth h i = some (.inl (0, n0, .inl f))) (hfit : BF f) (hc8 : catS st ≤ 8) (hd1 : 1 ≤ d) (hcb : 1 ≤ cb) (hsb : n0 ≤ sb)
    (q : G P a K d (pc + 3) L (.ref h.length :: st) (h ++ [.inl (0, n0, .inl f)]) (cb - 1) (sb - n0)) : G P a K d pc L (.ref i :: st) h cb sb := by
  refine G_of fun p e R s m args below meth c H locs cells slots ls F Y V hx hb => ?_
  obtain ⟨-, -, hml, hr, hown, hts, hE, hlocks, -, htab, hfr, hlo⟩ := id F
  obtain ⟨hY1, hY2, hS, hWd⟩ := id Y
  have hc0 : H[gN P + i]? = some (vp_cell (gC P 0) (n0, .inl f)) := wd_arr hWd hi
  have hsz : (vp_cell (gC P 0) (n0, .inl f)).slots.size = n0 := arrV_size _ _ _
  have hcl := hE.2.2.2.2.1 _ w_c6
  obtain ⟨c0, t0', f1, f2, f3⟩ := Cond.castable_spec hcl
  cases (find_B hE).symm.trans f1
  intro T hT X
  obtain ⟨-, kA, hkA, comp, hkind⟩ := State.isArrayOf_alike X.warmed.alike (((Env_K hE).2 0 _ rfl).1 0 (fun _ => .null))
  obtain ⟨-, kS, hkS, compS, hkindS⟩ := ((Env_K hE).2 0 _ rfl).1 0 (fun _ => .null)
  rw [ho] at hown
  obtain ⟨vm', X', stp⟩ := X.cloneArray hx hown (hts _ w_c1) (hts _ w_c2) (hts _ w_c3) (hts _ w_c4) (hts _ w_c5) (a := gN P + i) (cell := vp_cell (gC P 0) (n0, .inl f)) (by rw [hT]; exact hc0) (fun k h => by cases h) (fun h => by cases h) (find_B hE) f2 f3
    (fun i v hv => by
      have hk' : T.vm.classes[gC P 0]? = some kA := hkA
      have hi9 : i < n0 := by
        have := (Array.getElem?_eq_some_iff.mp hv).1
        rw [hsz] at this
        exact this
      have hv2 : (vp_cell (gC P 0) (n0, .inl f)).slots[i]? = some (.int (f i)) := arrV_read _ _ hi9
      rw [hv2] at hv
      cases hv
      have hcls : (vp_cell (gC P 0) (n0, .inl f)).cls = gC P 0 := rfl
      rw [hcls]
      simpa [State.fitsSlot, State.slotType?, hk', hkind] using hfit i)
    (g := F0 m pc ls ((.ref i :: st : List Value).map (mV P))) rfl (by show ls.size = _; rw [hml]; exact V.1.1) (rest := st.map (mV P)) rfl (by rw [hb]; exact hd) (by omega)
    (by
      have := cat_room (P := P) (pc := pc) (ls := ls) (m := m) (stv := []) hc8
      have h0 : 2 * (F0 m pc ls []).monitorRoom = 0 := rfl
      show 2 * 0 + _ + 14 ≤ _
      omega) (by omega) (by rw [hsz]; omega) (hloader := Vm.clonesLoader_of_array hkS hkindS)
  have hcellE : ({ cls := (vp_cell (gC P 0) (n0, .inl f)).cls, slots := (vp_cell (gC P 0) (n0, .inl f)).slots } : Cell) = vp_cell (gC P 0) (n0, .inl f) := rfl
  rw [hcellE, hsz] at X'
  rw [hcellE] at stp
  have hz : H.size = gN P + h.length := hWd.1
  have z1 : (H.push (vp_cell (gC P 0) (n0, .inl f))).size = H.size + 1 := Array.size_push _
  have e1 : (H.push (vp_cell (gC P 0) (n0, .inl f)))[H.size]? = some (vp_cell (gC P 0) (n0, .inl f)) := Array.getElem?_push_size
  have o1 : ∀ q : Nat, q < H.size → (H.push (vp_cell (gC P 0) (n0, .inl f)))[q]? = H[q]? := fun q hq => by rw [Array.getElem?_push, if_neg (Nat.ne_of_lt hq)]
  obtain ⟨t, a1, b1⟩ := q p e R s m args below meth c (H.push (vp_cell (gC P 0) (n0, .inl f))) locs (cells + 1) (slots + n0) ls F ⟨by omega, by omega, ⟨Nat.le_trans hS.1 (by omega), fun x h1 h2 => (o1 x (Nat.lt_of_lt_of_le h1 hS.1)).trans (hS.2.1 x h1 h2), hS.2.2⟩, wd_push hWd z1 (by show (H.push _)[gN P + h.length]? = some _; rw [← hz]; exact e1) o1⟩ V
    ((T.setVm vm').pushCell (vp_cell (gC P 0) (n0, .inl f))) (by rw [← hT]; rfl) X'
  refine ⟨t, stp t ?_, b1⟩
  show Steps p.tables e below (((T.setVm vm').pushCell (vp_cell (gC P 0) (n0, .inl f))).setTop (F0 m (pc + 3) ls (.ref T.heap.size :: st.map (mV P)))) t
  rw [hT, hz]
  exact a1
theorem s_castA {i n0 : Nat} {f : Nat → Int32} (hd : decode (mCode a) pc = .ok (.checkcast 311, 3)) (ho : mOwn a = rc_ARR) (hi : nth h i = some (.inl (0, n0, .inl f))) (q : G P a K d (pc + 3) L (.ref i :: st) h cb sb) : G P a K d pc L (.ref i :: st) h cb sb := by
  refine G_of fun p e R s m args below meth c H locs cells slots ls F Y V hx hb => ?_
  have hown := F.2.2.2.2.1
  rw [ho] at hown
  exact va_castA (ws := [(gN P + i, .inl (gC P 0, n0, .inl f))]) hx hb hown (F.2.2.2.2.2.1 _ w_c7) (one_P (wd_arr Y.2.2.2 hi)) 0 rfl (find_B F.2.2.2.2.2.2.1) hd (q p e R s m args below meth c H locs cells slots ls F Y V)
end SPC
end
section
/-! rows of rows, made at once; the three objects made -/
theorem oOut (c : ClassId) (N h0 : Nat) (i : Nat) : Jvm.Free.Multi.outerC c N h0 i = arrV c N (fun j => va_rf (if j < i then some (h0 + 1 + j) else none)) := by
  induction i with
  | zero =>
    show ({ cls := c, slots := Array.replicate N .null, vm := .none } : Cell) = _
    rw [arrV_new]
    exact congrArg (arrV c N) (funext fun j => by simp [va_rf])
  | succ i ih =>
    show (Jvm.Free.Multi.outerC c N h0 i).setSlot i (.ref (h0 + 1 + i)) = _
    rw [ih, arrV_store]
    refine congrArg (arrV c N) (funext fun j => ?_)
    by_cases e : j = i
    · subst e
      simp [updV, va_rf]
    · by_cases h : j < i
      · simp [updV, e, h, Nat.lt_succ_of_lt h]
      · simp [updV, e, h, show ¬ j < i + 1 by omega]
def oRow (M : Nat) : va_E := .inl (1, M, .inl (fun _ => 0))
def oOut9 (N b : Nat) : va_E := .inl (3, N, .inr (.inr (.inr (.inr (fun i => if i < N then some (b + 1 + i) else none)))))
theorem nth_rep {α : Type} (x : α) : ∀ (n j : Nat) (y : α), nth (List.replicate n x) j = some y → y = x ∧ j < n
  | 0, _, _, h => by cases h
  | _ + 1, 0, _, h => by
    cases h
    exact ⟨rfl, Nat.succ_pos _⟩
  | n + 1, j + 1, y, h => by
    obtain ⟨h1, h2⟩ := nth_rep x n j y h
    exact ⟨h1, Nat.succ_lt_succ h2⟩
section MNA
variable {P : GP} {K : Kt} {d cb sb : Nat} {L : mLs} {st : List Value} {h : mH}
theorem wd_app {l : mH} {H H1 : Heap} (w : Wd P h H) (hz : H1.size = H.size + l.length) (hc : ∀ j c, nth l j = some c → mC P (h.length + j) c H1) (ho : ∀ q : Nat, q < H.size → H1[q]? = H[q]?) : Wd P (h ++ l) H1 := by
  refine ⟨by rw [hz, w.1, List.length_append]; omega, fun j x hj => ?_⟩
  rw [nth_app] at hj
  by_cases e : j < h.length
  · rw [if_pos e] at hj
    exact mC_kept (w.2 j x hj) (ho _ (by rw [w.1]; omega))
  · rw [if_neg e] at hj
    have := hc _ _ hj
    rw [show h.length + (j - h.length) = j by omega] at this
    exact this
theorem w_m1 : Cond.classLink rc_M 20 "[[I" ∈ TB := TB_in ⟨nth_mem (n := 998) (by decide +kernel), by decide +kernel⟩
theorem w_m3 : Cond.arrayClass .int ∈ TB := TB_in ⟨nth_mem (n := 78) (by decide +kernel), by decide +kernel⟩
theorem d_m43 : decode (mCode n_M_new) 43 = .ok (.multianewarray 20 2, 4) := by decide +kernel
theorem s_mna {n k : Int32} {N M : Nat} (hnn : ¬ n < 0) (hkk : ¬ k < 0) (hN : n.toNatClampNeg = N) (hM : k.toNatClampNeg = M) (hN2 : N ≤ 100) (hM2 : M ≤ 100) (hcb : 1 + N ≤ cb) (hsb : N + N * M ≤ sb)
    (q : G P n_M_new K d 47 L (.ref h.length :: st) (h ++ (oOut9 N h.length :: List.replicate N (oRow M))) (cb - (1 + N)) (sb - (N + N * M))) : G P n_M_new K d 43 L (.int k :: .int n :: st) h cb sb := by
  refine G_of fun p e R s m args below meth c H locs cells slots ls F Y V hx hb => ?_
  obtain ⟨hY1, hY2, hS, hWd⟩ := id Y
  have hE := F.2.2.2.2.2.2.1
  intro T hT Xs
  obtain ⟨vm₁, cA, comp, -, fA, fC, -, -, X', stp⟩ := Xs.multianewarray2F (own := rc_M) (index := 20) (ty := .int) hx F.2.2.2.2.1 (F.2.2.2.2.2.1 _ w_m1) (over_moved (Vm.Alike.refl _) hE.2.2.2.2.2.2.2.2.2.2.2.2.2.2.2.2) (F.2.2.2.2.2.1 _ w_m3) (g := F0 m 43 ls ((.int k :: .int n :: st : List Value).map (mV P))) rfl (by rw [hb]; exact d_m43) (n := n) (k := k) (rest := st.map (mV P)) rfl hnn hkk (by rw [hN]; omega) (by rw [hM]; show M * 4 ≤ _; omega) (by rw [hM]; omega) rfl rfl (by rw [hN]; omega) (by rw [hN, hM]; omega)
  rw [hN, hM] at X' stp
  have g3 : gC P 3 = cA := arrK hE (k9 := 3) (ty := .array .int) rfl fA (fun _ e => by cases e)
  have g1 : gC P 1 = comp := arrK hE (k9 := 1) (ty := .int) rfl fC (fun _ e => by cases e)
  have hTh : (T.setVm vm₁).heap = H := hT
  obtain ⟨f1, f2, -, -⟩ := Jvm.Free.Multi.fill_facts (T.setVm vm₁) cA comp N M (defaultValue .int) N
  have hold := fun (x : Nat) (hx : x < (T.setVm vm₁).heap.size) => Jvm.Free.Multi.fill_old (T.setVm vm₁) cA comp N M (defaultValue .int) (a := x) hx N
  have hrow := fun (j : Nat) (hj : j < N) => Jvm.Free.Multi.fill_inner (T.setVm vm₁) cA comp N M (defaultValue .int) N j hj
  generalize Jvm.Free.Multi.fill (T.setVm vm₁) cA comp N M (defaultValue .int) N = Fs at X' stp f1 f2 hold hrow
  rw [hTh] at f1 f2 hold hrow
  have hz : H.size = gN P + h.length := hWd.1
  have hW2 : Wd P (h ++ (oOut9 N h.length :: List.replicate N (oRow M))) Fs.heap := by
    refine wd_app hWd (by rw [f1, List.length_cons, List.length_replicate]; omega) (fun j c9 hj => ?_) hold
    cases j with
    | zero =>
      cases hj
      show Fs.heap[gN P + (h.length + 0)]? = some (vp_cell (gC P 3) (N, .inr (.inr (.inr (.inr (fun i => (if i < N then some (h.length + 1 + i) else none : Option Nat).map (fun i => gN P + i)))))))
      rw [show gN P + (h.length + 0) = H.size by omega, f2, oOut, g3, vp_cell_q]
      refine congrArg (fun f => some (arrV cA N f)) (funext fun i => ?_)
      by_cases hi : i < N
      · rw [if_pos hi, if_pos hi]
        show Value.ref (H.size + 1 + i) = Value.ref (gN P + (h.length + 1 + i))
        rw [show H.size + 1 + i = gN P + (h.length + 1 + i) by omega]
      · rw [if_neg hi, if_neg hi]
        rfl
    | succ j =>
      obtain ⟨rfl, h9⟩ := nth_rep _ _ _ _ (show nth (List.replicate N (oRow M)) j = some c9 from hj)
      show Fs.heap[gN P + (h.length + (j + 1))]? = some (vp_cell (gC P 1) (M, .inl (fun _ => 0)))
      have := hrow j h9
      rw [show gN P + (h.length + (j + 1)) = H.size + 1 + j by omega, this, g1]
      show some ({ cls := comp, slots := Array.replicate M (.int 0), vm := .none } : Cell) = _
      rw [arrV_new, vp_cell_i]
  obtain ⟨t, a1, b1⟩ := q p e R s m args below meth c Fs.heap locs (cells + 1 + N) (slots + N + N * M) ls F ⟨by omega, by omega, ⟨by rw [f1]; have := hS.1; omega, fun x h1 h2 => (hold x (Nat.lt_of_lt_of_le h1 hS.1)).trans (hS.2.1 x h1 h2), hS.2.2⟩, hW2⟩ V Fs rfl X'
  refine ⟨t, stp t ?_, b1⟩
  show Steps p.tables e below (Fs.setTop (F0 m 47 ls (.ref T.heap.size :: st.map (mV P)))) t
  rw [show T.heap.size = gN P + h.length by rw [hT, hz]]
  exact a1
def mod0 : Nat → Int32 := upd (upd (upd (fun _ => 0) 0 7) 1 10) 2 (-12)
def xs0 : XS := (fun _ => 0, fun _ => 0, mod0, fun _ => 0, 0, 0)
def ms0 : MS := (0, fun _ => 0, fun _ => 0, mod0, fun _ _ => 0, 0, 0)
theorem L_Xnew (hK : K (.inl none) (hx xs0 [])) : M P n_X_new [.ref 0] [.inr (2, mDf 2)] 4 23 9 K := by
  refine Mgo ok_X_new 60 rfl ?_
  refine ⟨by decide, ?_⟩
  refine ⟨by decide, ?_⟩
  refine ⟨by decide, ?_⟩
  refine ⟨by rw [vp_in_iff]; decide, ?_⟩
  refine ⟨by rw [vp_in_iff]; decide, ?_⟩
  refine ⟨by rw [vp_in_iff]; decide, ?_⟩
  refine ⟨by decide, ?_⟩
  exact hK
theorem L_Onew {b : Nat} (hK : K (.inl none) h) : M P n_O_new [.ref b] h 0 0 9 K := by
  refine Mgo ok_O_new 60 rfl ?_
  exact hK
theorem L_Mnew {x : XS} (hK : K (.inl none) (hm ms0 x [])) : M P n_M_new [.ref 5] (hx x [.inr (4, mDf 4)]) 7 26 9 K := by
  refine Mgo ok_M_new 29 rfl ?_
  refine ⟨by decide, ?_⟩
  refine ⟨by decide, ?_⟩
  refine ⟨by decide, ?_⟩
  refine ⟨by rw [vp_in_iff]; decide, ?_⟩
  refine ⟨by rw [vp_in_iff]; decide, ?_⟩
  refine ⟨by rw [vp_in_iff]; decide, ?_⟩
  refine s_mna (N := 3) (M := 4) (by decide) (by decide) (by decide) (by decide) (by decide) (by decide) (by decide) (by decide) ?_
  refine go ok_M_new 80 ?_
  exact hK
end MNA
end
section
/-! TEXTS: a builder and its bytes stand somewhere behind the first p cells, which stay -/
theorem nth_se {h : mH} {i : Nat} {c0 c : va_E} (hi : nth h i = some c0) : nth (h.set i c) i = some c := by rw [nth_set, if_pos rfl, if_pos (nth_lt hi)]
theorem nth_sn {h : mH} {i j : Nat} {c : va_E} (hn : i ≠ j) : nth (h.set i c) j = nth h j := by rw [nth_set, if_neg hn]
theorem nth_al {h l : mH} {i : Nat} {c : va_E} (hi : nth h i = some c) : nth (h ++ l) i = some c := by rw [nth_app, if_pos (nth_lt hi)]; exact hi
theorem nth_ar {h l : mH} {c : va_E} : nth (h ++ (c :: l)) h.length = some c := by rw [nth_app, if_neg (Nat.lt_irrefl _), Nat.sub_self]; rfl
theorem set_last (h : mH) (x y : va_E) : (h ++ [x]).set h.length y = h ++ [y] := by simp
abbrev isB (h : mH) (b v : Nat) (q : Value) (c : Nat) : Prop := nth h b = some (.inr (1, [.ref v, .int 0, q, .int (Int32.ofNat c)]))
abbrev isA (h : mH) (v n : Nat) (g : Nat → Int32) : Prop := nth h v = some (.inl (0, n, .inl g))
def Kp (p : Nat) (h h' : mH) : Prop := p ≤ h'.length ∧ ∀ i, i < p → nth h' i = nth h i
def SB (p b c m : Nat) (h : mH) : Prop := p ≤ b ∧ ∃ (v n : Nat) (g : Nat → Int32) (q : Value), p ≤ v ∧ v ≠ b ∧ isB h b v q c ∧ isA h v n g ∧ BF g ∧ m ≤ n ∧ n ≤ 200
def ST (p s c : Nat) (h : mH) : Prop := p ≤ s ∧ ∃ (w : Nat) (g : Nat → Int32), nth h s = some (.inr (0, [.ref w, .int 0, .int 0, .int 0])) ∧ isA h w c g
theorem Kp.rf {p : Nat} {h : mH} (hp : p ≤ h.length) : Kp p h h := ⟨hp, fun _ _ => rfl⟩
theorem Kp.tr {p : Nat} {h h1 h2 : mH} (a : Kp p h h1) (b : Kp p h1 h2) : Kp p h h2 := ⟨b.1, fun i hi => (b.2 i hi).trans (a.2 i hi)⟩
theorem Kp.st {p i : Nat} {h h1 : mH} {c : va_E} (a : Kp p h h1) (hi : p ≤ i) : Kp p h (h1.set i c) := ⟨by rw [List.length_set]; exact a.1, fun j hj => (nth_sn (by omega)).trans (a.2 j hj)⟩
theorem Kp.ap {p : Nat} {h h1 l : mH} (a : Kp p h h1) : Kp p h (h1 ++ l) := ⟨by rw [List.length_append]; have := a.1; omega, fun j hj => by
  rw [nth_app, if_pos (Nat.lt_of_lt_of_le hj a.1)]
  exact a.2 j hj⟩
theorem SB.len {p b c m : Nat} {h : mH} (a : SB p b c m h) : p ≤ h.length := by
  obtain ⟨h1, v, n, g, q, -, -, h2, -⟩ := a
  have := nth_lt h2
  omega
theorem SB.mono {p b c m m' : Nat} {h : mH} (a : SB p b c m h) (hm : m' ≤ m) : SB p b c m' h := by
  obtain ⟨h1, v, n, g, q, h2, h3, h4, h5, h6, h7, h8⟩ := a
  exact ⟨h1, v, n, g, q, h2, h3, h4, h5, h6, Nat.le_trans hm h7, h8⟩
theorem oN {n : Nat} (h : n < 2147483648) : (Int32.ofNat n).toInt = n := Int32.toInt_ofNat_of_lt h
theorem oNn {n : Nat} (h : n < 2147483648) : (Int32.ofNat n).toNatClampNeg = n := Int32.toNatClampNeg_ofNat_of_lt h
theorem oN0 {n : Nat} (h : n < 2147483648) : ¬ Int32.ofNat n < 0 := by
  rw [Int32.lt_iff_toInt_lt, oN h]
  have : (0 : Int32).toInt = 0 := by decide
  omega
theorem oNl {m n : Nat} (hm : m < 2147483648) (hn : n < 2147483648) : Int32.ofNat m < Int32.ofNat n ↔ m < n := by
  rw [Int32.lt_iff_toInt_lt, oN hm, oN hn]
  omega
theorem oNi {m n : Nat} (hm : m < 2147483648) (hn : n < 2147483648) : Int32.ofNat m = Int32.ofNat n ↔ m = n := by
  refine ⟨fun e => ?_, fun e => by rw [e]⟩
  have := congrArg Int32.toInt e
  rw [oN hm, oN hn] at this
  omega
theorem gt_sub {m n : Nat} (hm : m < 1000) (hn : n < 1000) : (0 : Int32) < Int32.ofNat m - Int32.ofNat n ↔ n < m := by
  rw [Int32.lt_iff_toInt_lt, Int32.toInt_sub, oN (by omega), oN (by omega), Int.bmod_eq_of_le (by omega) (by omega)]
  have : (0 : Int32).toInt = 0 := by decide
  omega
def nCap (m n : Nat) : Nat := if m - n < n + 2 then n + (n + 2) else n + (m - n)
theorem ncap {m n : Nat} (hm : m ≤ 100) (hn : n < m) : Int32.ofNat n + iMax (Int32.ofNat m <<< ((0 : Int32) &&& 31) - Int32.ofNat n) (Int32.ofNat n + 2 <<< ((0 : Int32) &&& 31)) = Int32.ofNat (nCap m n) := by
  rw [sb_shl0, sb_shl0]
  have e1 : Int32.ofNat m - Int32.ofNat n = Int32.ofNat (m - n) := (Int32.ofNat_sub m n (by omega)).symm
  have e2 : Int32.ofNat n + 2 = Int32.ofNat (n + 2) := (Int32.ofNat_add n 2).symm
  rw [e1, e2]
  unfold iMax nCap
  by_cases h : m - n < n + 2
  · rw [if_pos ((oNl (by omega) (by omega)).mpr h), if_pos h, ← Int32.ofNat_add]
  · rw [if_neg (fun e => h ((oNl (by omega) (by omega)).mp e)), if_neg h, ← Int32.ofNat_add]
section TXT
variable {P : GP} {K : Kt} {h : mH}
theorem L_newLength (o g pr : Int32) (h1 : 0 < o + iMax g pr) (h2 : ¬ 2147483639 < o + iMax g pr) (hK : K (.inl (some (.int (o + iMax g pr)))) h) : M P n_AS_newLength [.int o, .int g, .int pr] h 0 0 7 K := by
  refine Mgo ok_AS_newLength 60 rfl ?_
  refine ⟨_, _, _, L_maxI _ _ _ ?_, by decide, by decide, by decide⟩
  refine ⟨fun _ => ?_, fun e => absurd h1 e⟩
  refine ⟨fun e => absurd e h2, fun _ => ?_⟩
  exact hK
theorem L_newCapacity {b v c m n : Nat} {g : Nat → Int32} {q : Value} (hb : isB h b v q c) (ha : isA h v n g) (hm : m ≤ 100) (hn : n < m) (hK : K (.inl (some (.int (Int32.ofNat (nCap m n))))) h) : M P n_ASB_newCapacity [.ref b, .int (Int32.ofNat m)] h 0 0 8 K := by
  have hnc : nCap m n ≤ 200 := by
    unfold nCap
    split <;> omega
  have hnc0 : 0 < nCap m n := by
    unfold nCap
    split <;> omega
  have e := ncap hm hn
  refine Mgo ok_ASB_newCapacity 60 rfl ?_
  conv => whnf
  rw [hb]
  conv => whnf
  rw [ha]
  conv => whnf
  rw [hb]
  conv => whnf
  rw [hb]
  refine ⟨_, _, _, L_newLength _ _ _ (by rw [e]; exact (oNl (m := 0) (by omega) (by omega)).mpr hnc0) (by rw [e]; exact fun q => absurd ((oNl (m := 2147483639) (by omega) (by omega)).mp q) (by omega)) ?_, by decide, by decide, by decide⟩
  refine ⟨fun q => ?_, fun _ => ?_⟩
  · rw [e] at q
    exact absurd ((oNi (n := 2147483647) (by omega) (by omega)).mp q) (by omega)
  · conv => whnf
    rw [hb]
    have hK2 : K (.inl (some (.int ((Int32.ofNat n + iMax (Int32.ofNat m <<< ((0 : Int32) &&& 31) - Int32.ofNat n) (Int32.ofNat n + 2 <<< ((0 : Int32) &&& 31))) >>> ((0 : Int32) &&& 31))))) h := by
      rw [sb_shr0, e]
      exact hK
    exact hK2
theorem d_cO28 : decode (mCode n_ARR_copyOf) 28 = .ok (.invokestatic 150, 3) := by decide +kernel
theorem d_cR27 : decode (mCode n_ARR_copyOfRangeByte) 27 = .ok (.invokestatic 150, 3) := by decide +kernel
theorem d_cR18 : decode (mCode n_ARR_copyOfRange) 18 = .ok (.invokevirtual 310, 3) := by decide +kernel
theorem d_cR21 : decode (mCode n_ARR_copyOfRange) 21 = .ok (.checkcast 311, 3) := by decide +kernel
theorem d_gB22 : decode (mCode n_STR_getBytes) 22 = .ok (.invokestatic 212, 3) := by decide +kernel
theorem BF0 : BF (fun _ => 0) := fun _ => rfl
theorem BF_cpy {f g : Nat → Int32} (hf : BF f) (hg : BF g) (a b c : Nat) : BF (va_cpy f g a b c) := fun j => by
  unfold va_cpy
  by_cases e : b ≤ j ∧ j < b + c
  · rw [if_pos e]
    exact hf _
  · rw [if_neg e]
    exact hg _
theorem BF_upd {g : Nat → Int32} (hg : BF g) (k : Nat) (x : Int32) : BF (upd g k (vp_nar .byte x)) := fun j => by
  unfold upd
  by_cases e : j = k
  · rw [if_pos e]
    exact pk_fb x
  · rw [if_neg e]
    exact hg _
theorem L_copyOf {v n k : Nat} {g : Nat → Int32} (x : Int32) (hx : x = Int32.ofNat k) (ha : isA h v n g) (hg : BF g) (hn : n < k) (hk : k ≤ 200) (hK : ∀ g', BF g' → K (.inl (some (.ref h.length))) (h ++ [.inl (0, k, .inl g')])) : M P n_ARR_copyOf [.ref v, .int x] h 1 k 8 K := by
  subst hx
  have hN : (Int32.ofNat k).toNatClampNeg = k := oNn (by omega)
  refine Mgo ok_ARR_copyOf 15 rfl ?_
  conv => whnf
  rw [ha]
  refine ⟨fun q => absurd ((oNi (by omega) (by omega)).mp q) (by omega), fun _ => ?_⟩
  refine ⟨⟨oN0 (by omega), Nat.le_refl _, Nat.le_of_eq hN, by rw [hN]; omega⟩, ?_⟩
  conv => whnf
  rw [(nth_al ha)]
  refine ⟨_, _, _, L_minI _ _ _ ?_, Nat.zero_le _, Nat.zero_le _, by decide⟩
  have hmin : iMin (Int32.ofNat n) (Int32.ofNat k) = Int32.ofNat n := by
    unfold iMin
    rw [if_neg (fun e => absurd ((oNl (by omega) (by omega)).mp e) (by omega))]
  have ha2 : isA (h ++ [.inl (0, (Int32.ofNat k).toNatClampNeg, .inl (fun _ => 0))]) v n g := nth_al ha
  have hj2 : nth (h ++ [.inl (0, (Int32.ofNat k).toNatClampNeg, .inl (fun _ => 0))]) h.length = some (.inl (0, (Int32.ofNat k).toNatClampNeg, .inl (fun _ => 0))) := nth_ar
  refine s_acp d_cO28 wA_ac (src_h ha2) hj2 (by decide) (by decide) (by rw [hmin]; exact oN0 (by omega)) (by rw [hmin, oNn (by omega)]; show 0 + n ≤ n; omega) (by rw [hmin, oNn (by omega), hN]; show 0 + n ≤ k; omega) hg (by decide) (by decide) ?_
  refine go ok_ARR_copyOf 20 ?_
  rw [set_last]
  have hK2 := hK _ (BF_cpy hg BF0 (0 : Int32).toNatClampNeg (0 : Int32).toNatClampNeg (iMin (Int32.ofNat n) (Int32.ofNat k)).toNatClampNeg)
  have hK3 : K (.inl (some (.ref h.length))) (h ++ [.inl (0, (Int32.ofNat k).toNatClampNeg, .inl (va_cpy g (fun _ => 0) (0 : Int32).toNatClampNeg (0 : Int32).toNatClampNeg (iMin (Int32.ofNat n) (Int32.ofNat k)).toNatClampNeg))]) := by
    rw [hN]
    exact hK2
  exact hK3
theorem L_ensure {p b c m m0 : Nat} (x : Int32) (hx : x = Int32.ofNat m) (hS : SB p b c m0 h) (hm : m ≤ 100) (hK : ∀ h', Kp p h h' → SB p b c m h' → K (.inl none) h') : M P n_ASB_ensureCapacityInternal [.ref b, .int x] h 1 200 9 K := by
  subst hx
  have hlen := hS.len
  obtain ⟨hp, v, n, g, q, hv, hne, hb, ha, hg, hm0, hn⟩ := hS
  refine Mgo ok_ASB_ensureCapacityInternal 60 rfl ?_
  conv => whnf
  rw [hb]
  conv => whnf
  rw [ha]
  conv => whnf
  rw [hb]
  refine ⟨fun e => ?_, fun e => ?_⟩
  · rw [sb_shr0] at e
    have hlt := (gt_sub (by omega) (by omega)).mp e
    conv => whnf
    rw [hb]
    conv => whnf
    rw [hb]
    refine ⟨_, _, _, L_newCapacity hb ha hm hlt ?_, by decide, by decide, by decide⟩
    conv => whnf
    rw [hb]
    have hc1 : n < nCap m n := by
      unfold nCap
      split <;> omega
    have hc2 : nCap m n ≤ 200 := by
      unfold nCap
      split <;> omega
    have hc3 : m ≤ nCap m n := by
      unfold nCap
      split <;> omega
    refine ⟨_, _, _, L_copyOf _ (sb_shl0 _) ha hg hc1 hc2 (fun g' hg' => ?_), by decide, by omega, by decide⟩
    conv => whnf
    rw [(nth_al hb)]
    refine hK _ ((Kp.rf hlen).ap.st hp) ⟨hp, h.length, nCap m n, g', q, hlen, ?_, nth_se (nth_al hb), ?_, hg', hc3, hc2⟩
    · have := nth_lt hb
      omega
    · have := nth_lt hb
      rw [isA, nth_sn (by omega)]
      exact nth_ar
  · rw [sb_shr0] at e
    have hle : ¬ n < m := fun h => e ((gt_sub (by omega) (by omega)).mpr h)
    exact hK h (Kp.rf hlen) ⟨hp, v, n, g, q, hv, hne, hb, ha, hg, by omega, hn⟩
end TXT
end
section
/-! TEXTS: what is added to a builder, one sign or a fixed text; turned round; told as a text */ -/
section TXA
variable {P : GP} {K : Kt} {h : mH}
theorem L_canEnc (x : Int32) (hx : ¬ 255 < x) (hK : K (.inl (some (.int 1))) h) : M P n_L1_canEncode [.int x] h 0 0 6 K := by
  refine Mgo ok_L1_canEncode 60 rfl ?_
  refine ⟨fun e => absurd e hx, fun _ => ?_⟩
  exact ⟨rfl, hK⟩
theorem L_isLatin1 {b v c : Nat} {q : Value} (hb : isB h b v q c) (hK : K (.inl (some (.int 1))) h) : M P n_ASB_isLatin1 [.ref b] h 0 0 6 K := by
  refine Mgo ok_ASB_isLatin1 60 rfl ?_
  refine ⟨fun e => absurd e (by decide), fun _ => ?_⟩
  conv => whnf
  rw [hb]
  refine ⟨fun _ => ?_, fun e => absurd rfl e⟩
  exact ⟨rfl, hK⟩
theorem L_getValue {b v c : Nat} {q : Value} (hb : isB h b v q c) (hK : K (.inl (some (.ref v))) h) : M P n_ASB_getValue [.ref b] h 0 0 6 K := by
  refine Mgo ok_ASB_getValue 60 rfl ?_
  conv => whnf
  rw [hb]
  exact hK
theorem L_ASBlen {b v c : Nat} {q : Value} (hb : isB h b v q c) (hK : K (.inl (some (.int (Int32.ofNat c)))) h) : M P n_ASB_length [.ref b] h 0 0 6 K := by
  refine Mgo ok_ASB_length 60 rfl ?_
  conv => whnf
  rw [hb]
  exact hK
theorem L_SBlen {b v c : Nat} {q : Value} (hb : isB h b v q c) (hK : K (.inl (some (.int (Int32.ofNat c)))) h) : M P n_SB_length [.ref b] h 0 0 7 K := by
  refine Mgo ok_SB_length 60 rfl ?_
  conv => whnf
  rw [hb]
  refine ⟨_, _, _, L_ASBlen hb ?_, by decide, by decide, by decide⟩
  exact hK
theorem L_ASBnew {p b : Nat} (hb : nth h b = some (.inr (1, mDf 1))) (hp : p ≤ b) (hK : ∀ h', Kp p h h' → SB p b 0 16 h' → K (.inl none) h') : M P n_ASB_new [.ref b, .int 16] h 1 16 6 K := by
  have hl := nth_lt hb
  have hpl : p ≤ h.length := by omega
  refine Mgo ok_ASB_new 60 rfl ?_
  refine ⟨fun e => absurd e (by decide), fun _ => ?_⟩
  refine ⟨by decide, ?_⟩
  conv => whnf
  rw [(nth_al hb)]
  conv => whnf
  rw [(nth_se (nth_al hb))]
  refine ⟨⟨rfl, rfl⟩, ?_⟩
  refine hK _ (((Kp.rf hpl).ap.st hp).st hp) ⟨hp, h.length, 16, fun _ => 0, .int 0, hpl, by omega, nth_se (nth_se (nth_al hb)), ?_, BF0, Nat.le_refl _, by decide⟩
  rw [isA, nth_sn (by omega), nth_sn (by omega)]
  exact nth_ar
theorem L_SBnew {p b : Nat} (hb : nth h b = some (.inr (1, mDf 1))) (hp : p ≤ b) (hK : ∀ h', Kp p h h' → SB p b 0 16 h' → K (.inl none) h') : M P n_SB_new [.ref b] h 1 16 7 K := by
  refine Mgo ok_SB_new 60 rfl ?_
  exact ⟨_, _, _, L_ASBnew hb hp hK, by decide, by decide, by decide⟩
theorem o1 (c : Nat) : Int32.ofNat c + 1 = Int32.ofNat (c + 1) := (Int32.ofNat_add c 1).symm
theorem vpO {c n : Nat} (h : c < n) (hn : n ≤ 200) : vp_in (Int32.ofNat c) n := by
  rw [vp_in_iff, oN (by omega)]
  omega
theorem L_ASBappC {p b c m0 : Nat} (x : Int32) (hx : ¬ 255 < x) (hS : SB p b c m0 h) (hc : c < 100) (hK : ∀ h', Kp p h h' → SB p b (c + 1) (c + 1) h' → K (.inl (some (.ref b))) h') : M P n_ASB_append_C [.ref b, .int x] h 1 200 10 K := by
  have hS0 := hS
  obtain ⟨hp, v0, n0, g0, q0, -, -, hb0, -, -, -, -⟩ := hS0
  refine Mgo ok_ASB_append_C 60 rfl ?_
  conv => whnf
  rw [hb0]
  conv => whnf
  rw [hb0]
  refine ⟨_, _, _, L_ensure _ (o1 c) hS (by omega) (fun h' hk' hS' => ?_), by decide, by decide, by decide⟩
  obtain ⟨-, v, n, g, q, hv, hne, hb, ha, hg, hm, hn⟩ := hS'
  conv => whnf
  rw [hb]
  refine ⟨_, _, _, L_isLatin1 hb ?_, by decide, by decide, by decide⟩
  refine ⟨fun e => absurd e (by decide), fun _ => ?_⟩
  refine ⟨_, _, _, L_canEnc _ hx ?_, by decide, by decide, by decide⟩
  refine ⟨fun e => absurd e (by decide), fun _ => ?_⟩
  conv => whnf
  rw [hb]
  conv => whnf
  rw [hb]
  conv => whnf
  rw [hb]
  have ha2 : ∀ cc, isA (h'.set b cc) v n g := fun cc => by
    rw [isA, nth_sn (Ne.symm hne)]
    exact ha
  conv => whnf
  rw [(ha2 _)]
  refine ⟨vpO (by omega) hn, ?_⟩
  refine hK _ ((hk'.st hp).st hv) ⟨hp, v, n, _, q, hv, hne, ?_, nth_se (ha2 _), BF_upd hg _ _, hm, hn⟩
  rw [isB, nth_sn hne, nth_se hb, ← o1 c]
  rfl
theorem L_appC {p b c m0 : Nat} (x : Int32) (hx : ¬ 255 < x) (hS : SB p b c m0 h) (hc : c < 100) (hK : ∀ h', Kp p h h' → SB p b (c + 1) (c + 1) h' → K (.inl (some (.ref b))) h') : M P n_SB_append_C [.ref b, .int x] h 1 200 11 K := by
  have hS0 := hS
  obtain ⟨hp, v0, n0, g0, q0, -, -, hb0, -, -, -, -⟩ := hS0
  refine Mgo ok_SB_append_C 60 rfl ?_
  conv => whnf
  rw [hb0]
  refine ⟨_, _, _, L_ASBappC x hx hS hc (fun h' hk' hS' => ?_), by decide, by decide, by decide⟩
  exact hK h' hk' hS'
theorem rv_0 {j : Int32} (e : ¬ j < 0) : 0 ≤ j.toInt := by
  rw [Int32.lt_iff_toInt_lt] at e
  have e0 : (0 : Int32).toInt = 0 := by decide
  omega
theorem rv_d {j : Int32} (e : ¬ j < 0) : (j + -1).toInt = j.toInt - 1 := by
  have h := rv_0 e
  have u := j.toInt_lt
  have em : (-1 : Int32).toInt = -1 := by decide
  rw [Int32.toInt_add, em]
  exact Int.bmod_eq_of_le (by omega) (by omega)
theorem rv_a {j : Int32} (e : ¬ j < 0) : -1 ≤ (j + -1).toInt := by
  have h := rv_0 e
  rw [rv_d e]
  omega
theorem rv_b {j : Int32} {f : Nat} (e : ¬ j < 0) (h2 : j.toInt < ((f + 1 : Nat) : Int)) : (j + -1).toInt < (f : Int) := by
  rw [rv_d e]
  omega
theorem rv_c {j : Int32} {c : Nat} (e : ¬ j < 0) (h3 : 2 * j.toInt ≤ (c : Int) - 2) : 2 * (j + -1).toInt ≤ (c : Int) - 2 := by
  rw [rv_d e]
  omega
theorem rv_1 {j : Int32} {c n : Nat} (e : ¬ j < 0) (hcn : c ≤ n) (h3 : 2 * j.toInt ≤ (c : Int) - 2) : vp_in j n := by
  have h := rv_0 e
  rw [vp_in_iff]
  omega
theorem rv_2 {j m : Int32} {c n : Nat} (e : ¬ j < 0) (hcn : c ≤ n) (h3 : 2 * j.toInt ≤ (c : Int) - 2) (hm : m.toInt = (c : Int) - 1) : vp_in (m - j) n := by
  have h := rv_0 e
  have u := m.toInt_lt
  have hsub : (m - j).toInt = m.toInt - j.toInt := by
    rw [Int32.toInt_sub]
    exact Int.bmod_eq_of_le (by omega) (by omega)
  rw [vp_in_iff, hsub]
  omega
theorem l_rev {p b v n c : Nat} {q : Value} (hp : p ≤ b) (hv : p ≤ v) (hne : v ≠ b) (hn : n ≤ 200) (hcn : c ≤ n) (hc : 1 ≤ c) {m : Int32} (hm : m.toInt = (c : Int) - 1) {h0 : mH} (hK : ∀ h', Kp p h0 h' → SB p b c c h' → K (.inl (some (.ref b))) h') :
    ∀ (f : Nat) (j : Int32) (y z : Option Value) (h : mH) (g : Nat → Int32), Kp p h0 h → isB h b v q c → isA h v n g → BF g → -1 ≤ j.toInt → j.toInt < f → 2 * j.toInt ≤ (c : Int) - 2 →
    G P n_ASB_reverse K 7 28 [some (.ref b), some (.ref v), some (.int (Int32.ofNat c)), some (.int m), some (.int j), y, z] [] h 0 0
  | 0, j, y, z, h, g, hk, hb, ha, hg, h1, h2, h3 => by
    have e0 : (0 : Int32).toInt = 0 := by decide
    refine go ok_ASB_reverse 80 ?_
    refine ⟨fun _ => ?_, fun e => absurd (by rw [Int32.lt_iff_toInt_lt]; omega) e⟩
    exact hK _ hk ⟨hp, v, n, g, q, hv, hne, hb, ha, hg, hcn, hn⟩
  | f + 1, j, y, z, h, g, hk, hb, ha, hg, h1, h2, h3 => by
    have e0 : (0 : Int32).toInt = 0 := by decide
    refine go ok_ASB_reverse 80 ?_
    refine ⟨fun _ => ?_, fun e => ?_⟩
    · exact hK _ hk ⟨hp, v, n, g, q, hv, hne, hb, ha, hg, hcn, hn⟩
    · have hi1 := rv_1 e hcn h3
      have hi2 := rv_2 e hcn h3 hm
      have a1 := rv_a e
      have a2 := rv_b e h2
      have a3 := rv_c e h3
      conv => whnf
      rw [ha]
      refine ⟨hi1, ?_⟩
      conv => whnf
      rw [ha]
      refine ⟨hi2, ?_⟩
      conv => whnf
      rw [ha]
      refine ⟨hi1, ?_⟩
      have ha2 := nth_se (c := .inl (0, n, .inl (upd g j.toNatClampNeg (vp_nar .byte (g (m - j).toNatClampNeg))))) ha
      conv => whnf
      rw [ha2]
      refine ⟨hi2, ?_⟩
      refine l_rev (q := q) hp hv hne hn hcn hc hm hK f (j + -1) _ _ _ _ ((hk.st hv).st hv) ?_ (nth_se ha2) (BF_upd (BF_upd hg _ _) _ _) a1 a2 a3
      rw [isB, nth_sn hne, nth_sn hne]
      exact hb
theorem L_reverse {p b c m0 : Nat} (hS : SB p b c m0 h) (hcm : c ≤ m0) (hc : 1 ≤ c) (hc2 : c ≤ 100) (hK : ∀ h', Kp p h h' → SB p b c c h' → K (.inl (some (.ref b))) h') : M P n_SB_reverse [.ref b] h 0 0 8 K := by
  have hlen := hS.len
  obtain ⟨hp, v, n, g, q, hv, hne, hb, ha, hg, hm, hn⟩ := hS
  refine Mgo ok_SB_reverse 60 rfl ?_
  conv => whnf
  rw [hb]
  refine ⟨_, _, _, (?_ : M P n_ASB_reverse [.ref b] h 0 0 7 _), by decide, by decide, by decide⟩
  refine Mgo ok_ASB_reverse 60 rfl ?_
  conv => whnf
  rw [hb]
  conv => whnf
  rw [hb]
  conv => whnf
  rw [hb]
  refine ⟨_, _, _, L_isLatin1 hb ?_, by decide, by decide, by decide⟩
  refine ⟨fun e => absurd e (by decide), fun _ => ?_⟩
  have e1 : (1 : Int32).toInt = 1 := by decide
  have hm1 : (Int32.ofNat c - 1).toInt = (c : Int) - 1 := by
    rw [Int32.toInt_sub, oN (by omega), e1]
    exact Int.bmod_eq_of_le (by omega) (by omega)
  have hm2 : (Int32.ofNat c - 1 - 1).toInt = (c : Int) - 2 := by
    rw [Int32.toInt_sub, hm1, e1]
    have : (c : Int) - 1 - 1 = c - 2 := by omega
    rw [this]
    exact Int.bmod_eq_of_le (by omega) (by omega)
  have hj : ((Int32.ofNat c - 1 - 1) >>> ((1 : Int32) &&& 31)).toInt = ((c : Int) - 2) >>> 1 := by
    rw [pk_shr _ _ 1 (by decide), hm2]
  have hj2 : ((c : Int) - 2) >>> 1 = ((c : Int) - 2) / 2 := by
    rw [Int.shiftRight_eq_div_pow]
    rfl
  refine l_rev hp hv hne hn (Nat.le_trans hcm hm) hc hm1 (fun h' hk' hS' => ?_) 100 _ none none h g (Kp.rf hlen) hb ha hg (by rw [hj, hj2]; omega) (by rw [hj, hj2]; omega) (by rw [hj, hj2]; omega)
  exact hK h' hk' hS'
theorem L_chkLen (x : Int32) (hx : ¬ x < 0) (hK : K (.inl none) h) : M P n_ARR_checkLength [.int 0, .int x] h 0 0 6 K := by
  refine Mgo ok_ARR_checkLength 60 rfl ?_
  exact ⟨fun e => absurd e hx, fun _ => hK⟩
theorem L_cpRangeB {v n c : Nat} {g : Nat → Int32} (ha : isA h v n g) (hg : BF g) (hc : c ≤ n) (hn : n ≤ 200) (hK : ∀ g', BF g' → K (.inl (some (.ref h.length))) (h ++ [.inl (0, c, .inl g')])) : M P n_ARR_copyOfRangeByte [.ref v, .int 0, .int (Int32.ofNat c)] h 1 c 7 K := by
  have e0 : ∀ x : Int32, x - 0 = x := fun x => by simp
  have hN : (Int32.ofNat c - 0).toNatClampNeg = c := by rw [e0]; exact oNn (by omega)
  have hmin : iMin (Int32.ofNat n - 0) (Int32.ofNat c - 0) = Int32.ofNat c := by
    rw [e0, e0]
    unfold iMin
    by_cases e : Int32.ofNat c < Int32.ofNat n
    · rw [if_pos e]
    · rw [if_neg e]
      rw [oNl (by omega) (by omega)] at e
      rw [show n = c by omega]
  refine Mgo ok_ARR_copyOfRangeByte 20 rfl ?_
  refine ⟨_, _, _, L_chkLen _ (oN0 (by omega)) ?_, by decide, Nat.zero_le _, by decide⟩
  refine ⟨⟨by rw [e0]; exact oN0 (by omega), by decide, by rw [hN]; exact Nat.le_refl _, by rw [hN]; omega⟩, ?_⟩
  conv => whnf
  rw [(nth_al ha)]
  refine ⟨_, _, _, L_minI _ _ _ ?_, by decide, Nat.zero_le _, by decide⟩
  refine s_acp d_cR27 wA_ac (src_h (nth_al ha)) (nth_ar (l := [])) (by decide) (by decide) (by rw [hmin]; exact oN0 (by omega)) (by rw [hmin, oNn (by omega)]; show 0 + c ≤ n; omega) (by rw [hmin, oNn (by omega), hN]; show 0 + c ≤ c; omega) hg (by decide) (by decide) ?_
  refine go ok_ARR_copyOfRangeByte 20 ?_
  rw [set_last]
  have hK2 := hK _ (BF_cpy hg BF0 (0 : Int32).toNatClampNeg (0 : Int32).toNatClampNeg (iMin (Int32.ofNat n - 0) (Int32.ofNat c - 0)).toNatClampNeg)
  have hK3 : K (.inl (some (.ref h.length))) (h ++ [.inl (0, (Int32.ofNat c - 0).toNatClampNeg, .inl (va_cpy g (fun _ => 0) (0 : Int32).toNatClampNeg (0 : Int32).toNatClampNeg (iMin (Int32.ofNat n - 0) (Int32.ofNat c - 0)).toNatClampNeg))]) := by
    rw [hN]
    exact hK2
  exact hK3
theorem L_cpRange {v n c : Nat} {g : Nat → Int32} (ha : isA h v n g) (hg : BF g) (hc : c ≤ n) (hn : n ≤ 200) (hK : ∀ g', BF g' → K (.inl (some (.ref h.length))) (h ++ [.inl (0, c, .inl g')])) : M P n_ARR_copyOfRange [.ref v, .int 0, .int (Int32.ofNat c)] h 1 c 8 K := by
  refine Mgo ok_ARR_copyOfRange 7 rfl ?_
  refine ⟨fun _ => ?_, fun e => absurd rfl e⟩
  conv => whnf
  rw [ha]
  refine ⟨fun e => ?_, fun _ => ?_⟩
  · have hcn : c = n := (oNi (by omega) (by omega)).mp e
    subst hcn
    refine s_clone d_cR18 rfl ha hg (by decide) (by decide) (Nat.le_refl _) (Nat.le_refl _) ?_
    refine s_castA d_cR21 rfl (nth_ar (l := [])) ?_
    refine go ok_ARR_copyOfRange 20 ?_
    exact hK _ hg
  · refine go ok_ARR_copyOfRange 20 ?_
    refine ⟨_, _, _, L_cpRangeB ha hg hc hn (fun g' hg' => ?_), Nat.le_refl _, Nat.le_refl _, by decide⟩
    exact hK _ hg'
theorem L_STRnew {p b s c m0 : Nat} (hs : nth h s = some (.inr (0, mDf 0))) (hps : p ≤ s) (hS : SB p b c m0 h) (hcm : c ≤ m0) (hc : c ≤ 100) (hK : ∀ h', Kp p h h' → ST p s c h' → K (.inl none) h') : M P n_STR_new_QN [.ref s, .ref b, .null] h 1 c 9 K := by
  have hlen := hS.len
  obtain ⟨hp, v, n, g, q, hv, hne, hb, ha, hg, hm, hn⟩ := hS
  have hsb : s ≠ b := fun e => by
    subst e
    cases hs.symm.trans hb
  have hsv : s ≠ v := fun e => by
    subst e
    cases hs.symm.trans ha
  refine Mgo ok_STR_new_QN 60 rfl ?_
  conv => whnf
  rw [hb]
  refine ⟨_, _, _, L_getValue hb ?_, by decide, Nat.zero_le _, by decide⟩
  conv => whnf
  rw [hb]
  refine ⟨_, _, _, L_SBlen hb ?_, by decide, Nat.zero_le _, by decide⟩
  conv => whnf
  rw [hb]
  refine ⟨_, _, _, L_isLatin1 hb ?_, by decide, Nat.zero_le _, by decide⟩
  refine ⟨fun e => absurd e (by decide), fun _ => ?_⟩
  conv => whnf
  rw [hs]
  refine ⟨⟨rfl, rfl⟩, ?_⟩
  have hs2 := nth_se (c := .inr (0, (mDf 0).set 1 (.int 0))) hs
  have ha2 : isA (h.set s (.inr (0, (mDf 0).set 1 (.int 0)))) v n g := by
    rw [isA, nth_sn hsv]
    exact ha
  refine ⟨_, _, _, L_cpRange ha2 hg (Nat.le_trans hcm hm) hn (fun g' hg' => ?_), by decide, Nat.le_refl _, by decide⟩
  conv => whnf
  rw [(nth_al hs2)]
  refine hK _ (((Kp.rf hlen).st hps).ap.st hps) ⟨hps, _, g', nth_se (nth_al hs2), ?_⟩
  rw [isA, nth_sn (by have := nth_lt hs2; omega)]
  exact nth_ar (l := [])
theorem L_toString {p b c m0 : Nat} (hS : SB p b c m0 h) (hcm : c ≤ m0) (hc : c ≤ 100) (hK : ∀ h' s, Kp p h h' → ST p s c h' → K (.inl (some (.ref s))) h') : M P n_SB_toString [.ref b] h 2 (c + 4) 11 K := by
  have hlen := hS.len
  obtain ⟨hp, v, n, g, q, hv, hne, hb, ha, hg, hm, hn⟩ := hS
  refine Mgo ok_SB_toString 60 rfl ?_
  refine ⟨⟨by decide, by omega⟩, ?_⟩
  refine ⟨_, _, _, (?_ : M P n_STR_new_Q [.ref h.length, .ref b] (h ++ [.inr (0, mDf 0)]) 1 c 10 _), by decide, by omega, by decide⟩
  refine Mgo ok_STR_new_Q 60 rfl ?_
  refine ⟨_, _, _, L_STRnew (p := p) (m0 := m0) (nth_ar (l := [])) hlen ⟨hp, v, n, g, q, hv, hne, nth_al hb, nth_al ha, hg, hm, hn⟩ hcm hc (fun h' hk' hT' => ?_), by decide, Nat.le_refl _, by decide⟩
  exact hK h' h.length ((Kp.rf hlen).ap.tr hk') hT'
end TXA
end
section
/-! TEXTS: a fixed text is added -/
section TXC
variable {P : GP} {K : Kt} {h : mH}
theorem oA (a b : Nat) : Int32.ofNat a + Int32.ofNat b = Int32.ofNat (a + b) := (Int32.ofNat_add a b).symm
theorem BFc0 : BF (fun j => (([] : List Int32)).getD j 0) := fun j => by
  match j with
  | 0 => rfl
  | 1 => rfl
  | _ + 2 => rfl
theorem L_coder0 (hK : K (.inl (some (.int 0))) h) : M P n_STR_coder [.retAddr 10] h 0 0 6 K := by
  refine Mgo ok_STR_coder 60 rfl ?_
  refine ⟨fun e => absurd e (by decide), fun _ => ?_⟩
  exact ⟨rfl, hK⟩
theorem L_slen0 (hK : K (.inl (some (.int (Int32.ofNat 0 >>> ((0 : Int32) &&& 31))))) h) : M P n_STR_length [.retAddr 10] h 0 0 7 K := by
  refine Mgo ok_STR_length 60 rfl ?_
  refine ⟨_, _, _, L_coder0 ?_, by decide, by decide, by decide⟩
  exact hK
theorem L_getBytes0 {v n c : Nat} {g : Nat → Int32} (ha : isA h v n g) (hg : BF g) (hc : c + 0 ≤ n) (hn : n ≤ 200) (hK : ∀ g', BF g' → K (.inl none) (h.set v (.inl (0, n, .inl g')))) : M P n_STR_getBytes [.retAddr 10, .ref v, .int (Int32.ofNat c), .int 0] h 0 0 7 K := by
  refine Mgo ok_STR_getBytes 14 rfl ?_
  refine ⟨_, _, _, L_coder0 ?_, by decide, by decide, by decide⟩
  refine ⟨fun _ => ?_, fun e => absurd rfl e⟩
  have hN : (Int32.ofNat c <<< ((0 : Int32) &&& 31)).toNatClampNeg = c := by rw [sb_shl0]; exact oNn (by omega)
  refine s_acp d_gB22 wT_ac (src_c (c := 30) (n0 := 0) (f := fun j => (([] : List Int32)).getD j 0) rfl) ha (by decide) (by rw [sb_shl0]; exact oN0 (by omega)) (by decide) (by decide) (by rw [hN]; exact hc) BFc0 (by decide) (by decide) ?_
  refine go ok_STR_getBytes 20 ?_
  exact hK _ (BF_cpy BFc0 hg _ _ _)
theorem L_inflate0 {b v c : Nat} {q : Value} (hb : isB h b v q c) (hK : K (.inl none) h) : M P n_ASB_inflateIfNeededFor [.ref b, .retAddr 10] h 0 0 7 K := by
  refine Mgo ok_ASB_inflateIfNeededFor 60 rfl ?_
  refine ⟨fun e => absurd e (by decide), fun _ => ?_⟩
  conv => whnf
  rw [hb]
  refine ⟨_, _, _, L_coder0 ?_, by decide, by decide, by decide⟩
  exact ⟨fun _ => hK, fun e => absurd rfl e⟩
theorem L_putS0 {b v n c : Nat} {g : Nat → Int32} {q : Value} (hb : isB h b v q c) (ha : isA h v n g) (hg : BF g) (hc : c + 0 ≤ n) (hn : n ≤ 200) (hK : ∀ g', BF g' → K (.inl none) (h.set v (.inl (0, n, .inl g')))) : M P n_ASB_putStringAt [.ref b, .int (Int32.ofNat c), .retAddr 10] h 0 0 8 K := by
  refine Mgo ok_ASB_putStringAt 60 rfl ?_
  conv => whnf
  rw [hb]
  refine ⟨_, _, _, L_inflate0 hb ?_, by decide, by decide, by decide⟩
  conv => whnf
  rw [hb]
  conv => whnf
  rw [hb]
  refine ⟨_, _, _, L_getBytes0 ha hg hc hn (fun g' hg' => ?_), by decide, by decide, by decide⟩
  exact hK g' hg'
theorem L_ASBappT0 {p b c m0 : Nat} (hS : SB p b c m0 h) (hc : c < 90) (hK : ∀ h', Kp p h h' → SB p b (c + 0) (c + 0) h' → K (.inl (some (.ref b))) h') : M P n_ASB_append_T [.ref b, .retAddr 10] h 1 200 10 K := by
  have hS0 := hS
  obtain ⟨hp, v0, n0, g0, q0, -, -, hb0, -, -, -, -⟩ := hS0
  refine Mgo ok_ASB_append_T 60 rfl ?_
  refine ⟨_, _, _, L_slen0 ?_, by decide, by decide, by decide⟩
  conv => whnf
  rw [hb0]
  conv => whnf
  rw [hb0]
  refine ⟨_, _, _, L_ensure (m := c + 0) _ (by rw [sb_shr0]; exact oA c 0) hS (by omega) (fun h' hk' hS' => ?_), by decide, by decide, by decide⟩
  obtain ⟨-, v, n, g, q, hv, hne, hb, ha, hg, hm, hn⟩ := hS'
  conv => whnf
  rw [hb]
  conv => whnf
  rw [hb]
  refine ⟨_, _, _, L_putS0 hb ha hg hm hn (fun g' hg' => ?_), by decide, by decide, by decide⟩
  have hb2 : ∀ cc, isB (h'.set v cc) b v q c := fun cc => by
    rw [isB, nth_sn hne]
    exact hb
  conv => whnf
  rw [(hb2 _)]
  conv => whnf
  rw [(hb2 _)]
  refine hK _ ((hk'.st hv).st hp) ⟨hp, v, n, g', q, hv, hne, ?_, ?_, hg', hm, hn⟩
  · rw [isB, nth_se (hb2 _), sb_shr0, oA]
    rfl
  · rw [isA, nth_sn (Ne.symm hne)]
    exact nth_se ha
theorem L_appT0 {p b c m0 : Nat} (hS : SB p b c m0 h) (hc : c < 90) (hK : ∀ h', Kp p h h' → SB p b (c + 0) (c + 0) h' → K (.inl (some (.ref b))) h') : M P n_SB_append_T [.ref b, .retAddr 10] h 1 200 11 K := by
  have hS0 := hS
  obtain ⟨hp, v0, n0, g0, q0, -, -, hb0, -, -, -, -⟩ := hS0
  refine Mgo ok_SB_append_T 60 rfl ?_
  conv => whnf
  rw [hb0]
  refine ⟨_, _, _, L_ASBappT0 hS hc (fun h' hk' hS' => ?_), by decide, by decide, by decide⟩
  exact hK h' hk' hS'
theorem BFc1 : BF (fun j => (([58, 32] : List Int32)).getD j 0) := fun j => by
  match j with
  | 0 => rfl
  | 1 => rfl
  | _ + 2 => rfl
theorem L_coder1 (hK : K (.inl (some (.int 0))) h) : M P n_STR_coder [.retAddr 11] h 0 0 6 K := by
  refine Mgo ok_STR_coder 60 rfl ?_
  refine ⟨fun e => absurd e (by decide), fun _ => ?_⟩
  exact ⟨rfl, hK⟩
theorem L_slen1 (hK : K (.inl (some (.int (Int32.ofNat 2 >>> ((0 : Int32) &&& 31))))) h) : M P n_STR_length [.retAddr 11] h 0 0 7 K := by
  refine Mgo ok_STR_length 60 rfl ?_
  refine ⟨_, _, _, L_coder1 ?_, by decide, by decide, by decide⟩
  exact hK
theorem L_getBytes1 {v n c : Nat} {g : Nat → Int32} (ha : isA h v n g) (hg : BF g) (hc : c + 2 ≤ n) (hn : n ≤ 200) (hK : ∀ g', BF g' → K (.inl none) (h.set v (.inl (0, n, .inl g')))) : M P n_STR_getBytes [.retAddr 11, .ref v, .int (Int32.ofNat c), .int 0] h 0 0 7 K := by
  refine Mgo ok_STR_getBytes 14 rfl ?_
  refine ⟨_, _, _, L_coder1 ?_, by decide, by decide, by decide⟩
  refine ⟨fun _ => ?_, fun e => absurd rfl e⟩
  have hN : (Int32.ofNat c <<< ((0 : Int32) &&& 31)).toNatClampNeg = c := by rw [sb_shl0]; exact oNn (by omega)
  refine s_acp d_gB22 wT_ac (src_c (c := 31) (n0 := 2) (f := fun j => (([58, 32] : List Int32)).getD j 0) rfl) ha (by decide) (by rw [sb_shl0]; exact oN0 (by omega)) (by decide) (by decide) (by rw [hN]; exact hc) BFc1 (by decide) (by decide) ?_
  refine go ok_STR_getBytes 20 ?_
  exact hK _ (BF_cpy BFc1 hg _ _ _)
theorem L_inflate1 {b v c : Nat} {q : Value} (hb : isB h b v q c) (hK : K (.inl none) h) : M P n_ASB_inflateIfNeededFor [.ref b, .retAddr 11] h 0 0 7 K := by
  refine Mgo ok_ASB_inflateIfNeededFor 60 rfl ?_
  refine ⟨fun e => absurd e (by decide), fun _ => ?_⟩
  conv => whnf
  rw [hb]
  refine ⟨_, _, _, L_coder1 ?_, by decide, by decide, by decide⟩
  exact ⟨fun _ => hK, fun e => absurd rfl e⟩
theorem L_putS1 {b v n c : Nat} {g : Nat → Int32} {q : Value} (hb : isB h b v q c) (ha : isA h v n g) (hg : BF g) (hc : c + 2 ≤ n) (hn : n ≤ 200) (hK : ∀ g', BF g' → K (.inl none) (h.set v (.inl (0, n, .inl g')))) : M P n_ASB_putStringAt [.ref b, .int (Int32.ofNat c), .retAddr 11] h 0 0 8 K := by
  refine Mgo ok_ASB_putStringAt 60 rfl ?_
  conv => whnf
  rw [hb]
  refine ⟨_, _, _, L_inflate1 hb ?_, by decide, by decide, by decide⟩
  conv => whnf
  rw [hb]
  conv => whnf
  rw [hb]
  refine ⟨_, _, _, L_getBytes1 ha hg hc hn (fun g' hg' => ?_), by decide, by decide, by decide⟩
  exact hK g' hg'
theorem L_ASBappT1 {p b c m0 : Nat} (hS : SB p b c m0 h) (hc : c < 90) (hK : ∀ h', Kp p h h' → SB p b (c + 2) (c + 2) h' → K (.inl (some (.ref b))) h') : M P n_ASB_append_T [.ref b, .retAddr 11] h 1 200 10 K := by
  have hS0 := hS
  obtain ⟨hp, v0, n0, g0, q0, -, -, hb0, -, -, -, -⟩ := hS0
  refine Mgo ok_ASB_append_T 60 rfl ?_
  refine ⟨_, _, _, L_slen1 ?_, by decide, by decide, by decide⟩
  conv => whnf
  rw [hb0]
  conv => whnf
  rw [hb0]
  refine ⟨_, _, _, L_ensure (m := c + 2) _ (by rw [sb_shr0]; exact oA c 2) hS (by omega) (fun h' hk' hS' => ?_), by decide, by decide, by decide⟩
  obtain ⟨-, v, n, g, q, hv, hne, hb, ha, hg, hm, hn⟩ := hS'
  conv => whnf
  rw [hb]
  conv => whnf
  rw [hb]
  refine ⟨_, _, _, L_putS1 hb ha hg hm hn (fun g' hg' => ?_), by decide, by decide, by decide⟩
  have hb2 : ∀ cc, isB (h'.set v cc) b v q c := fun cc => by
    rw [isB, nth_sn hne]
    exact hb
  conv => whnf
  rw [(hb2 _)]
  conv => whnf
  rw [(hb2 _)]
  refine hK _ ((hk'.st hv).st hp) ⟨hp, v, n, g', q, hv, hne, ?_, ?_, hg', hm, hn⟩
  · rw [isB, nth_se (hb2 _), sb_shr0, oA]
    rfl
  · rw [isA, nth_sn (Ne.symm hne)]
    exact nth_se ha
theorem L_appT1 {p b c m0 : Nat} (hS : SB p b c m0 h) (hc : c < 90) (hK : ∀ h', Kp p h h' → SB p b (c + 2) (c + 2) h' → K (.inl (some (.ref b))) h') : M P n_SB_append_T [.ref b, .retAddr 11] h 1 200 11 K := by
  have hS0 := hS
  obtain ⟨hp, v0, n0, g0, q0, -, -, hb0, -, -, -, -⟩ := hS0
  refine Mgo ok_SB_append_T 60 rfl ?_
  conv => whnf
  rw [hb0]
  refine ⟨_, _, _, L_ASBappT1 hS hc (fun h' hk' hS' => ?_), by decide, by decide, by decide⟩
  exact hK h' hk' hS'
theorem BFc2 : BF (fun j => (([32] : List Int32)).getD j 0) := fun j => by
  match j with
  | 0 => rfl
  | 1 => rfl
  | _ + 2 => rfl
theorem L_coder2 (hK : K (.inl (some (.int 0))) h) : M P n_STR_coder [.retAddr 12] h 0 0 6 K := by
  refine Mgo ok_STR_coder 60 rfl ?_
  refine ⟨fun e => absurd e (by decide), fun _ => ?_⟩
  exact ⟨rfl, hK⟩
theorem L_slen2 (hK : K (.inl (some (.int (Int32.ofNat 1 >>> ((0 : Int32) &&& 31))))) h) : M P n_STR_length [.retAddr 12] h 0 0 7 K := by
  refine Mgo ok_STR_length 60 rfl ?_
  refine ⟨_, _, _, L_coder2 ?_, by decide, by decide, by decide⟩
  exact hK
theorem L_getBytes2 {v n c : Nat} {g : Nat → Int32} (ha : isA h v n g) (hg : BF g) (hc : c + 1 ≤ n) (hn : n ≤ 200) (hK : ∀ g', BF g' → K (.inl none) (h.set v (.inl (0, n, .inl g')))) : M P n_STR_getBytes [.retAddr 12, .ref v, .int (Int32.ofNat c), .int 0] h 0 0 7 K := by
  refine Mgo ok_STR_getBytes 14 rfl ?_
  refine ⟨_, _, _, L_coder2 ?_, by decide, by decide, by decide⟩
  refine ⟨fun _ => ?_, fun e => absurd rfl e⟩
  have hN : (Int32.ofNat c <<< ((0 : Int32) &&& 31)).toNatClampNeg = c := by rw [sb_shl0]; exact oNn (by omega)
  refine s_acp d_gB22 wT_ac (src_c (c := 32) (n0 := 1) (f := fun j => (([32] : List Int32)).getD j 0) rfl) ha (by decide) (by rw [sb_shl0]; exact oN0 (by omega)) (by decide) (by decide) (by rw [hN]; exact hc) BFc2 (by decide) (by decide) ?_
  refine go ok_STR_getBytes 20 ?_
  exact hK _ (BF_cpy BFc2 hg _ _ _)
theorem L_inflate2 {b v c : Nat} {q : Value} (hb : isB h b v q c) (hK : K (.inl none) h) : M P n_ASB_inflateIfNeededFor [.ref b, .retAddr 12] h 0 0 7 K := by
  refine Mgo ok_ASB_inflateIfNeededFor 60 rfl ?_
  refine ⟨fun e => absurd e (by decide), fun _ => ?_⟩
  conv => whnf
  rw [hb]
  refine ⟨_, _, _, L_coder2 ?_, by decide, by decide, by decide⟩
  exact ⟨fun _ => hK, fun e => absurd rfl e⟩
theorem L_putS2 {b v n c : Nat} {g : Nat → Int32} {q : Value} (hb : isB h b v q c) (ha : isA h v n g) (hg : BF g) (hc : c + 1 ≤ n) (hn : n ≤ 200) (hK : ∀ g', BF g' → K (.inl none) (h.set v (.inl (0, n, .inl g')))) : M P n_ASB_putStringAt [.ref b, .int (Int32.ofNat c), .retAddr 12] h 0 0 8 K := by
  refine Mgo ok_ASB_putStringAt 60 rfl ?_
  conv => whnf
  rw [hb]
  refine ⟨_, _, _, L_inflate2 hb ?_, by decide, by decide, by decide⟩
  conv => whnf
  rw [hb]
  conv => whnf
  rw [hb]
  refine ⟨_, _, _, L_getBytes2 ha hg hc hn (fun g' hg' => ?_), by decide, by decide, by decide⟩
  exact hK g' hg'
theorem L_ASBappT2 {p b c m0 : Nat} (hS : SB p b c m0 h) (hc : c < 90) (hK : ∀ h', Kp p h h' → SB p b (c + 1) (c + 1) h' → K (.inl (some (.ref b))) h') : M P n_ASB_append_T [.ref b, .retAddr 12] h 1 200 10 K := by
  have hS0 := hS
  obtain ⟨hp, v0, n0, g0, q0, -, -, hb0, -, -, -, -⟩ := hS0
  refine Mgo ok_ASB_append_T 60 rfl ?_
  refine ⟨_, _, _, L_slen2 ?_, by decide, by decide, by decide⟩
  conv => whnf
  rw [hb0]
  conv => whnf
  rw [hb0]
  refine ⟨_, _, _, L_ensure (m := c + 1) _ (by rw [sb_shr0]; exact oA c 1) hS (by omega) (fun h' hk' hS' => ?_), by decide, by decide, by decide⟩
  obtain ⟨-, v, n, g, q, hv, hne, hb, ha, hg, hm, hn⟩ := hS'
  conv => whnf
  rw [hb]
  conv => whnf
  rw [hb]
  refine ⟨_, _, _, L_putS2 hb ha hg hm hn (fun g' hg' => ?_), by decide, by decide, by decide⟩
  have hb2 : ∀ cc, isB (h'.set v cc) b v q c := fun cc => by
    rw [isB, nth_sn hne]
    exact hb
  conv => whnf
  rw [(hb2 _)]
  conv => whnf
  rw [(hb2 _)]
  refine hK _ ((hk'.st hv).st hp) ⟨hp, v, n, g', q, hv, hne, ?_, ?_, hg', hm, hn⟩
  · rw [isB, nth_se (hb2 _), sb_shr0, oA]
    rfl
  · rw [isA, nth_sn (Ne.symm hne)]
    exact nth_se ha
theorem L_appT2 {p b c m0 : Nat} (hS : SB p b c m0 h) (hc : c < 90) (hK : ∀ h', Kp p h h' → SB p b (c + 1) (c + 1) h' → K (.inl (some (.ref b))) h') : M P n_SB_append_T [.ref b, .retAddr 12] h 1 200 11 K := by
  have hS0 := hS
  obtain ⟨hp, v0, n0, g0, q0, -, -, hb0, -, -, -, -⟩ := hS0
  refine Mgo ok_SB_append_T 60 rfl ?_
  conv => whnf
  rw [hb0]
  refine ⟨_, _, _, L_ASBappT2 hS hc (fun h' hk' hS' => ?_), by decide, by decide, by decide⟩
  exact hK h' hk' hS'
end TXC
end
section
/-! TEXTS: how many digits a number has; numbers are added -/
def ndg (a : Nat) : Nat := if a < 10 then 1 else ndg (a / 10) + 1
termination_by a
theorem ndg_s {a : Nat} (h : a < 10) : ndg a = 1 := by rw [ndg, if_pos h]
theorem ndg_g {a : Nat} (h : ¬ a < 10) : ndg a = ndg (a / 10) + 1 := by rw [ndg, if_neg h]
theorem ndg_pos (a : Nat) : 1 ≤ ndg a := by
  by_cases h : a < 10
  · rw [ndg_s h]
    exact Nat.le_refl _
  · rw [ndg_g h]
    omega
theorem ndg_up : ∀ (j a : Nat), a < 10 ^ (j + 1) → ndg a ≤ j + 1
  | 0, a, h => by
    rw [ndg_s (by simpa using h)]
    exact Nat.le_refl _
  | j + 1, a, h => by
    by_cases h1 : a < 10
    · rw [ndg_s h1]
      omega
    · rw [ndg_g h1]
      rw [Nat.pow_succ] at h
      have := ndg_up j (a / 10) (by omega)
      omega
theorem ndg_lo : ∀ (j a : Nat), 10 ^ j ≤ a → j + 1 ≤ ndg a
  | 0, a, _ => ndg_pos a
  | j + 1, a, h => by
    rw [Nat.pow_succ] at h
    have hp : 0 < 10 ^ j := Nat.pow_pos (by decide)
    rw [ndg_g (by omega)]
    have := ndg_lo j (a / 10) (by omega)
    omega
theorem ndg_eq {j a : Nat} (h1 : j = 0 ∨ 10 ^ j ≤ a) (h2 : a < 10 ^ (j + 1)) : ndg a = j + 1 := by
  have u := ndg_up j a h2
  rcases h1 with rfl | h1
  · have := ndg_pos a
    omega
  · have := ndg_lo j a h1
    omega
theorem i10 : (10 : Int32).toInt = 10 := by decide
theorem i0 : (0 : Int32).toInt = 0 := by decide
theorem i1 : (1 : Int32).toInt = 1 := by decide
theorem im1 : (-1 : Int32).toInt = -1 := by decide
theorem i100 : (100 : Int32).toInt = 100 := by decide
theorem im100 : (-100 : Int32).toInt = -100 := by decide
theorem im9 : (-9 : Int32).toInt = -9 := by decide
theorem l0 : (0 : Int64).toInt = 0 := by decide
theorem l10 : (10 : Int64).toInt = 10 := by decide
theorem l100 : (100 : Int64).toInt = 100 := by decide
theorem lmi : (-2147483648 : Int64).toInt = -2147483648 := by decide
def sgN (x : Int) : Nat := if x < 0 then 1 else 0
def tl (x : Int) : Nat := ndg x.natAbs + sgN x
def Ks (v : Nat) (h h' : mH) : Prop := h'.length = h.length ∧ ∀ i, i ≠ v → nth h' i = nth h i
theorem Ks.rf {v : Nat} {h : mH} : Ks v h h := ⟨rfl, fun _ _ => rfl⟩
theorem Ks.st {v : Nat} {h h1 : mH} {c : va_E} (a : Ks v h h1) : Ks v h (h1.set v c) := ⟨by rw [List.length_set]; exact a.1, fun i hi => (nth_sn (Ne.symm hi)).trans (a.2 i hi)⟩
theorem Ks.kp {p v : Nat} {h h1 : mH} (a : Ks v h h1) (hv : p ≤ v) (hp : p ≤ h.length) : Kp p h h1 := ⟨by rw [a.1]; exact hp, fun i hi => a.2 i (by omega)⟩
theorem p10 {p : Int32} {T : Nat} (hp : p.toInt = -(T : Int)) (hb : T ≤ 100000000) : (10 * p).toInt = -((T * 10 : Nat) : Int) := by
  rw [Int32.toInt_mul, i10, hp, Int.bmod_eq_of_le (by omega) (by omega)]
  omega
theorem p10l {p : Int64} {T : Nat} (hp : p.toInt = -(T : Int)) (hb : T ≤ 100000000000000000) : (10 * p).toInt = -((T * 10 : Nat) : Int) := by
  rw [Int64.toInt_mul, l10, hp, Int.bmod_eq_of_le (by omega) (by omega)]
  omega
def wk : mLs → mLs → Prop
  | [], [] => True
  | none :: t, _ :: r => wk t r
  | some v :: t, x :: r => x = some v ∧ wk t r
  | _, _ => False
theorem wk_of : ∀ (L' L : mLs), wk L' L → L'.length = L.length ∧ ∀ j w, nth L' j = some (some w) → nth L j = some (some w)
  | [], [], _ => ⟨rfl, fun _ _ h => by cases h⟩
  | none :: t, x :: r, h => by
    have ih := wk_of t r h
    refine ⟨by rw [List.length_cons, List.length_cons, ih.1], fun j w hj => ?_⟩
    cases j with
    | zero => cases hj
    | succ j => exact ih.2 j w hj
  | some v :: t, x :: r, h => by
    have ih := wk_of t r h.2
    refine ⟨by rw [List.length_cons, List.length_cons, ih.1], fun j w hj => ?_⟩
    cases j with
    | zero =>
      cases hj
      exact congrArg some h.1
    | succ j => exact ih.2 j w hj
  | [], _ :: _, h => h.elim
  | none :: _, [], h => h.elim
  | some _ :: _, [], h => h.elim
/-- what is known of the locals may be forgotten -/
theorem G_wk {P : GP} {a : Nat} {K : Kt} {d pc : Nat} {L L' : mLs} {st : List Value} {h : mH} {cb sb : Nat} (hw : wk L' L) (q : G P a K d pc L' st h cb sb) : G P a K d pc L st h cb sb := by
  obtain ⟨h1, h2⟩ := wk_of L' L hw
  intro p e R s m args below meth c H locs cells slots ls F Y V
  refine q p e R s m args below meth c H locs cells slots ls F Y ⟨⟨V.1.1, V.1.2.1, fun x hx => ?_⟩, by rw [h1]; exact V.2⟩
  obtain ⟨j, v, hj, rfl⟩ := lvl_of P _ _ _ hx
  refine V.1.2.2 _ ?_
  have := lvl_mem P _ 0 _ _ (h2 j v hj)
  rw [Nat.add_comm] at this
  rw [Nat.add_comm]
  exact this
section TXN
variable {P : GP} {K : Kt} {h : mH}
theorem l_iss {i : Int32} {a sg : Nat} (ha : i.toInt = -(a : Int)) (hs : sg ≤ 1) (hK : K (.inl (some (.int (Int32.ofNat (ndg a + sg))))) h) : ∀ (n J : Nat) (p : Int32), J + n = 9 → (J < 9 → p.toInt = -((10 ^ (J + 1) : Nat) : Int)) → (J = 0 ∨ 10 ^ J ≤ a) →
    G P n_INT_stringSize K 6 16 [some (.int i), some (.int (Int32.ofNat sg)), some (.int p), some (.int (Int32.ofNat (J + 1)))] [] h 0 0
  | 0, J, p, hJ, hp, hl => by
    have hJ : J = 9 := by omega
    subst hJ
    refine go ok_INT_stringSize 80 ?_
    refine ⟨fun e => absurd e (by decide), fun _ => ?_⟩
    have h1 := i.le_toInt
    have e : ndg a = 10 := ndg_eq (j := 9) hl (by
      have : (10 : Nat) ^ (9 + 1) = 10000000000 := by decide
      rw [this]
      omega)
    rw [e] at hK
    have hK2 : K (.inl (some (.int (10 + Int32.ofNat sg)))) h := by
      rw [show (10 : Int32) + Int32.ofNat sg = Int32.ofNat (10 + sg) from oA 10 sg]
      exact hK
    exact hK2
  | n + 1, J, p, hJ, hp, hl => by
    have hp := hp (by omega)
    refine go ok_INT_stringSize 80 ?_
    refine ⟨fun _ => ?_, fun e => absurd ((oNl (n := 10) (by omega) (by decide)).mpr (by omega)) e⟩
    refine ⟨fun e => ?_, fun e => ?_⟩
    · rw [Int32.lt_iff_toInt_lt, hp, ha] at e
      have e2 : ndg a = J + 1 := ndg_eq hl (by omega)
      rw [e2] at hK
      have hK2 : K (.inl (some (.int (Int32.ofNat (J + 1) + Int32.ofNat sg)))) h := by
        rw [oA]
        exact hK
      exact hK2
    · rw [Int32.lt_iff_toInt_lt, hp, ha] at e
      have hge : 10 ^ (J + 1) ≤ a := by omega
      have := l_iss ha hs hK n (J + 1) (10 * p) (by omega) (fun h9 => by
        have hb : (10 : Nat) ^ (J + 1) ≤ 10 ^ 8 := Nat.pow_le_pow_right (by decide) (by omega)
        rw [Nat.pow_succ 10 (J + 1)]
        exact p10 hp hb) (Or.inr hge)
      rw [← o1 (J + 1)] at this
      exact this
theorem L_iss (x : Int32) (hK : K (.inl (some (.int (Int32.ofNat (tl x.toInt))))) h) : M P n_INT_stringSize [.int x] h 0 0 6 K := by
  refine Mgo ok_INT_stringSize 60 rfl ?_
  unfold tl sgN at hK
  have h1 := x.le_toInt
  have h2 := x.toInt_lt
  refine ⟨fun e => ?_, fun e => ?_⟩
  · rw [Int32.lt_iff_toInt_lt, i0] at e
    rw [if_pos e] at hK
    exact l_iss (a := x.toInt.natAbs) (sg := 1) (by omega) (by decide) hK 9 0 (-10) (by decide) (fun _ => by decide) (Or.inl rfl)
  · rw [Int32.lt_iff_toInt_lt, i0] at e
    rw [if_neg e] at hK
    have hn : (-x).toInt = -x.toInt := by
      rw [Int32.toInt_neg]
      exact Int.bmod_eq_of_le (by omega) (by omega)
    exact l_iss (a := x.toInt.natAbs) (sg := 0) (by omega) (by decide) hK 9 0 (-10) (by decide) (fun _ => by decide) (Or.inl rfl)
theorem l_lss {i : Int64} {a sg : Nat} (ha : i.toInt = -(a : Int)) (hs : sg ≤ 1) (hK : K (.inl (some (.int (Int32.ofNat (ndg a + sg))))) h) : ∀ (n J : Nat) (p : Int64), J + n = 18 → (J < 18 → p.toInt = -((10 ^ (J + 1) : Nat) : Int)) → (J = 0 ∨ 10 ^ J ≤ a) →
    G P n_LNG_stringSize K 6 20 [some (.long i), none, some (.int (Int32.ofNat sg)), some (.long p), none, some (.int (Int32.ofNat (J + 1)))] [] h 0 0
  | 0, J, p, hJ, hp, hl => by
    have hJ : J = 18 := by omega
    subst hJ
    refine go ok_LNG_stringSize 80 ?_
    refine ⟨fun e => absurd e (by decide), fun _ => ?_⟩
    have h1 := i.le_toInt
    have e : ndg a = 19 := ndg_eq (j := 18) hl (by
      have : (10 : Nat) ^ (18 + 1) = 10000000000000000000 := by decide
      rw [this]
      omega)
    rw [e] at hK
    have hK2 : K (.inl (some (.int (19 + Int32.ofNat sg)))) h := by
      rw [show (19 : Int32) + Int32.ofNat sg = Int32.ofNat (19 + sg) from oA 19 sg]
      exact hK
    exact hK2
  | n + 1, J, p, hJ, hp, hl => by
    have hp := hp (by omega)
    refine go ok_LNG_stringSize 80 ?_
    refine ⟨fun _ => ?_, fun e => absurd ((oNl (n := 19) (by omega) (by decide)).mpr (by omega)) e⟩
    refine ⟨fun e => ?_, fun e => ?_⟩
    · rw [Int64.lt_iff_toInt_lt, hp, ha] at e
      have e2 : ndg a = J + 1 := ndg_eq hl (by omega)
      rw [e2] at hK
      have hK2 : K (.inl (some (.int (Int32.ofNat (J + 1) + Int32.ofNat sg)))) h := by
        rw [oA]
        exact hK
      exact hK2
    · rw [Int64.lt_iff_toInt_lt, hp, ha] at e
      have hge : 10 ^ (J + 1) ≤ a := by omega
      have := l_lss ha hs hK n (J + 1) (10 * p) (by omega) (fun h9 => by
        have hb : (10 : Nat) ^ (J + 1) ≤ 10 ^ 17 := Nat.pow_le_pow_right (by decide) (by omega)
        rw [Nat.pow_succ 10 (J + 1)]
        exact p10l hp hb) (Or.inr hge)
      rw [← o1 (J + 1)] at this
      exact this
theorem L_lss (x : Int64) (hK : K (.inl (some (.int (Int32.ofNat (tl x.toInt))))) h) : M P n_LNG_stringSize [.long x] h 0 0 6 K := by
  refine Mgo ok_LNG_stringSize 60 rfl ?_
  unfold tl sgN at hK
  have h1 := x.le_toInt
  have h2 := x.toInt_lt
  refine ⟨fun e => ?_, fun e => ?_⟩
  · rw [Int64.lt_iff_toInt_lt, l0] at e
    rw [if_pos e] at hK
    exact l_lss (a := x.toInt.natAbs) (sg := 1) (by omega) (by decide) hK 18 0 (-10) (by decide) (fun _ => by decide) (Or.inl rfl)
  · rw [Int64.lt_iff_toInt_lt, l0] at e
    rw [if_neg e] at hK
    have hn : (-x).toInt = -x.toInt := by
      rw [Int64.toInt_neg]
      exact Int.bmod_eq_of_le (by omega) (by omega)
    exact l_lss (a := x.toInt.natAbs) (sg := 0) (by omega) (by decide) hK 18 0 (-10) (by decide) (fun _ => by decide) (Or.inl rfl)
/-- one step back, a sign put there -/
theorem bk {c : Int32} {k : Nat} (hc : c.toInt = (k : Int)) (hk : 1 ≤ k) : (c + -1).toInt = ((k - 1 : Nat) : Int) := by
  have h1 := c.toInt_lt
  rw [Int32.toInt_add, im1, hc]
  rw [Int.bmod_eq_of_le (by omega) (by omega)]
  omega
theorem vpk {c : Int32} {k n : Nat} (hc : c.toInt = (k : Int)) (hk : k < n) : vp_in c n := by
  rw [vp_in_iff, hc]
  omega
theorem q100 {i : Int32} {a : Nat} (ha : i.toInt = -(a : Int)) : (i / 100).toInt = -((a / 100 : Nat) : Int) := by
  have h1 := i.le_toInt
  rw [Int32.toInt_div, i100, ha, Int.neg_tdiv, Int.tdiv_eq_ediv_of_nonneg (by omega)]
  rw [Int.bmod_eq_of_le (by omega) (by omega)]
  omega
theorem r100 {i : Int32} {a : Nat} (ha : i.toInt = -(a : Int)) : (i / 100 * 100 - i).toInt = ((a % 100 : Nat) : Int) := by
  have h1 := i.le_toInt
  have hm : (i / 100 * 100).toInt = -((a / 100 : Nat) : Int) * 100 := by
    rw [Int32.toInt_mul, q100 ha, i100]
    exact Int.bmod_eq_of_le (by omega) (by omega)
  rw [Int32.toInt_sub, hm, ha, Int.bmod_eq_of_le (by omega) (by omega)]
  omega
theorem ng {i : Int32} {a : Nat} (ha : i.toInt = -(a : Int)) (h : a < 2147483648) : (-i).toInt = (a : Int) := by
  rw [Int32.toInt_neg, ha]
  exact (Int.bmod_eq_of_le (by omega) (by omega)).trans (by omega)
theorem nd100 {a : Nat} (h : ¬ a < 100) : ndg a = ndg (a / 100) + 2 := by
  rw [ndg_g (by omega), ndg_g (by omega), Nat.div_div_eq_div_mul]
theorem nd2 {a : Nat} (h : ¬ a < 10) (h2 : a < 100) : ndg a = 2 := by
  rw [ndg_g h, ndg_s (by omega)]
theorem sg0 {sg : Nat} (hs : sg ≤ 1) : Int32.ofNat sg = 0 ↔ sg = 0 := oNi (n := 0) (by omega) (by decide)
theorem l_igt {v n sg : Nat} {h0 : mH} (hs : sg ≤ 1) (hK : ∀ h' g' r, Ks v h0 h' → isA h' v n g' → BF g' → K (.inl (some (.int r))) h') : ∀ (a k : Nat) (i cp : Int32) (h : mH) (g : Nat → Int32), i.toInt = -(a : Int) → cp.toInt = (k : Int) → ndg a + sg ≤ k → k ≤ n → Ks v h0 h → isA h v n g → BF g →
    G P n_INT_getChars K 6 22 [some (.int i), none, some (.ref v), none, none, some (.int cp), some (.int (Int32.ofNat sg))] [] h 0 0 := by
  intro a
  induction a using Nat.strongRecOn with
  | _ a ih =>
    intro k i cp h g hi hcp hk hkn hks ha hg
    have hnp := ndg_pos a
    refine go ok_INT_getChars 80 ?_
    refine ⟨fun e => ?_, fun e => ?_⟩
    · rw [Int32.lt_iff_toInt_lt, im100, hi] at e
      have c1 := bk hcp (by omega)
      have hneg := ng hi (by omega)
      refine ⟨vpk hneg (by omega), ?_⟩
      conv => whnf
      rw [ha]
      refine ⟨vpk c1 (by omega), ?_⟩
      refine ⟨fun e2 => ?_, fun e2 => ?_⟩
      · rw [Int32.lt_iff_toInt_lt, im9, hi] at e2
        have h2 := nd2 (a := a) (by omega) (by omega)
        have c2 := bk c1 (by omega)
        refine ⟨vpk hneg (by omega), ?_⟩
        conv => whnf
        rw [(nth_se ha)]
        refine ⟨vpk c2 (by omega), ?_⟩
        refine ⟨fun _ => ?_, fun e3 => ?_⟩
        · exact hK _ _ _ hks.st.st (nth_se (nth_se ha)) (BF_upd (BF_upd hg _ _) _ _)
        · rw [sg0 hs] at e3
          have c3 := bk c2 (by omega)
          conv => whnf
          rw [(nth_se (nth_se ha))]
          refine ⟨vpk c3 (by omega), ?_⟩
          exact hK _ _ _ hks.st.st.st (nth_se (nth_se (nth_se ha))) (BF_upd (BF_upd (BF_upd hg _ _) _ _) _ _)
      · refine ⟨fun _ => ?_, fun e3 => ?_⟩
        · exact hK _ _ _ hks.st (nth_se ha) (BF_upd hg _ _)
        · rw [sg0 hs] at e3
          have c3 := bk c1 (by omega)
          conv => whnf
          rw [(nth_se ha)]
          refine ⟨vpk c3 (by omega), ?_⟩
          exact hK _ _ _ hks.st.st (nth_se (nth_se ha)) (BF_upd (BF_upd hg _ _) _ _)
    · rw [Int32.lt_iff_toInt_lt, im100, hi] at e
      have h2 := nd100 (a := a) (by omega)
      have hnp2 := ndg_pos (a / 100)
      have c1 := bk hcp (by omega)
      have c2 := bk c1 (by omega)
      refine ⟨by decide, ?_⟩
      refine ⟨vpk (r100 hi) (by omega), ?_⟩
      conv => whnf
      rw [ha]
      refine ⟨vpk c1 (by omega), ?_⟩
      refine ⟨vpk (r100 hi) (by omega), ?_⟩
      conv => whnf
      rw [(nth_se ha)]
      refine ⟨vpk c2 (by omega), ?_⟩
      refine G_wk ?_ (ih (a / 100) (by omega) _ _ _ _ _ (q100 hi) c2 (by omega) (by omega) hks.st.st (nth_se (nth_se ha)) (BF_upd (BF_upd hg _ _) _ _))
      exact ⟨rfl, rfl, rfl, rfl, trivial⟩
theorem L_igt {x : Int32} {v n k : Nat} {g : Nat → Int32} (y : Int32) (hy : y = Int32.ofNat k) (ha : isA h v n g) (hg : BF g) (hk : tl x.toInt ≤ k) (hkn : k ≤ n) (hn : n ≤ 200) (hK : ∀ h' g' r, Ks v h h' → isA h' v n g' → BF g' → K (.inl (some (.int r))) h') : M P n_INT_getChars [.int x, .int y, .ref v] h 0 0 6 K := by
  subst hy
  unfold tl sgN at hk
  have h1 := x.le_toInt
  have h2 := x.toInt_lt
  refine Mgo ok_INT_getChars 60 rfl ?_
  refine ⟨fun e => ?_, fun e => ?_⟩
  · rw [Int32.lt_iff_toInt_lt, i0] at e
    rw [if_pos e] at hk
    refine ⟨fun e3 => absurd e3 (by decide), fun _ => ?_⟩
    refine G_wk ?_ (l_igt (sg := 1) (by decide) hK x.toInt.natAbs k x (Int32.ofNat k) h g (by omega) (oN (by omega)) hk hkn Ks.rf ha hg)
    exact ⟨rfl, rfl, rfl, rfl, trivial⟩
  · rw [Int32.lt_iff_toInt_lt, i0] at e
    rw [if_neg e] at hk
    have hneg : (-x).toInt = -x.toInt := by
      rw [Int32.toInt_neg]
      exact Int.bmod_eq_of_le (by omega) (by omega)
    refine ⟨fun _ => ?_, fun e3 => absurd rfl e3⟩
    refine G_wk ?_ (l_igt (sg := 0) (by decide) hK x.toInt.natAbs k (-x) (Int32.ofNat k) h g (by omega) (oN (by omega)) hk hkn Ks.rf ha hg)
    exact ⟨rfl, rfl, rfl, rfl, trivial⟩
theorem lq100 {i : Int64} {a : Nat} (ha : i.toInt = -(a : Int)) : (i / 100).toInt = -((a / 100 : Nat) : Int) := by
  have h1 := i.le_toInt
  rw [Int64.toInt_div, l100, ha, Int.neg_tdiv, Int.tdiv_eq_ediv_of_nonneg (by omega)]
  rw [Int.bmod_eq_of_le (by omega) (by omega)]
  omega
theorem lr100 {i : Int64} {a : Nat} (ha : i.toInt = -(a : Int)) : (i / 100 * 100 - i).toInt32.toInt = ((a % 100 : Nat) : Int) := by
  have h1 := i.le_toInt
  have hm : (i / 100 * 100).toInt = -((a / 100 : Nat) : Int) * 100 := by
    rw [Int64.toInt_mul, lq100 ha, l100]
    exact Int.bmod_eq_of_le (by omega) (by omega)
  have h64 : (i / 100 * 100 - i).toInt = ((a % 100 : Nat) : Int) := by
    rw [Int64.toInt_sub, hm, ha, Int.bmod_eq_of_le (by omega) (by omega)]
    omega
  rw [Int64.toInt_toInt32, h64]
  exact Int.bmod_eq_of_le (by omega) (by omega)
theorem l_lgi {v n sg : Nat} {h0 : mH} (hs : sg ≤ 1) (hK : ∀ h' g' r, Ks v h0 h' → isA h' v n g' → BF g' → K (.inl (some (.int r))) h') : ∀ (a k : Nat) (i cp : Int32) (h : mH) (g : Nat → Int32), i.toInt = -(a : Int) → cp.toInt = (k : Int) → ndg a + sg ≤ k → k ≤ n → Ks v h0 h → isA h v n g → BF g →
    G P n_LNG_getChars K 6 86 [none, none, none, some (.ref v), none, none, none, some (.int cp), some (.int (Int32.ofNat sg)), none, some (.int i)] [] h 0 0 := by
  intro a
  induction a using Nat.strongRecOn with
  | _ a ih =>
    intro k i cp h g hi hcp hk hkn hks ha hg
    have hnp := ndg_pos a
    refine go ok_LNG_getChars 80 ?_
    refine ⟨fun e => ?_, fun e => ?_⟩
    · rw [Int32.lt_iff_toInt_lt, im100, hi] at e
      have c1 := bk hcp (by omega)
      have hneg := ng hi (by omega)
      refine ⟨vpk hneg (by omega), ?_⟩
      conv => whnf
      rw [ha]
      refine ⟨vpk c1 (by omega), ?_⟩
      refine ⟨fun e2 => ?_, fun e2 => ?_⟩
      · rw [Int32.lt_iff_toInt_lt, im9, hi] at e2
        have h2 := nd2 (a := a) (by omega) (by omega)
        have c2 := bk c1 (by omega)
        refine ⟨vpk hneg (by omega), ?_⟩
        conv => whnf
        rw [(nth_se ha)]
        refine ⟨vpk c2 (by omega), ?_⟩
        refine ⟨fun _ => ?_, fun e3 => ?_⟩
        · exact hK _ _ _ hks.st.st (nth_se (nth_se ha)) (BF_upd (BF_upd hg _ _) _ _)
        · rw [sg0 hs] at e3
          have c3 := bk c2 (by omega)
          conv => whnf
          rw [(nth_se (nth_se ha))]
          refine ⟨vpk c3 (by omega), ?_⟩
          exact hK _ _ _ hks.st.st.st (nth_se (nth_se (nth_se ha))) (BF_upd (BF_upd (BF_upd hg _ _) _ _) _ _)
      · refine ⟨fun _ => ?_, fun e3 => ?_⟩
        · exact hK _ _ _ hks.st (nth_se ha) (BF_upd hg _ _)
        · rw [sg0 hs] at e3
          have c3 := bk c1 (by omega)
          conv => whnf
          rw [(nth_se ha)]
          refine ⟨vpk c3 (by omega), ?_⟩
          exact hK _ _ _ hks.st.st (nth_se (nth_se ha)) (BF_upd (BF_upd hg _ _) _ _)
    · rw [Int32.lt_iff_toInt_lt, im100, hi] at e
      have h2 := nd100 (a := a) (by omega)
      have hnp2 := ndg_pos (a / 100)
      have c1 := bk hcp (by omega)
      have c2 := bk c1 (by omega)
      refine ⟨by decide, ?_⟩
      refine ⟨vpk (r100 hi) (by omega), ?_⟩
      conv => whnf
      rw [ha]
      refine ⟨vpk c1 (by omega), ?_⟩
      refine ⟨vpk (r100 hi) (by omega), ?_⟩
      conv => whnf
      rw [(nth_se ha)]
      refine ⟨vpk c2 (by omega), ?_⟩
      refine G_wk ?_ (ih (a / 100) (by omega) _ _ _ _ _ (q100 hi) c2 (by omega) (by omega) hks.st.st (nth_se (nth_se ha)) (BF_upd (BF_upd hg _ _) _ _))
      exact ⟨rfl, rfl, rfl, rfl, trivial⟩
theorem l_lgl {v n sg : Nat} {h0 : mH} (hs : sg ≤ 1) (hK : ∀ h' g' r, Ks v h0 h' → isA h' v n g' → BF g' → K (.inl (some (.int r))) h') : ∀ (a k : Nat) (i : Int64) (cp : Int32) (h : mH) (g : Nat → Int32), i.toInt = -(a : Int) → cp.toInt = (k : Int) → ndg a + sg ≤ k → k ≤ n → Ks v h0 h → isA h v n g → BF g →
    G P n_LNG_getChars K 6 24 [some (.long i), none, none, some (.ref v), none, none, none, some (.int cp), some (.int (Int32.ofNat sg)), none, none] [] h 0 0 := by
  intro a
  induction a using Nat.strongRecOn with
  | _ a ih =>
    intro k i cp h g hi hcp hk hkn hks ha hg
    have hnp := ndg_pos a
    refine go ok_LNG_getChars 80 ?_
    refine ⟨fun e => ?_, fun e => ?_⟩
    · rw [Int64.lt_iff_toInt_lt, lmi, hi] at e
      have h32 : i.toInt32.toInt = -(a : Int) := by
        rw [Int64.toInt_toInt32, hi]
        exact Int.bmod_eq_of_le (by omega) (by omega)
      refine G_wk ?_ (l_lgi hs hK a k i.toInt32 cp h g h32 hcp hk hkn hks ha hg)
      exact ⟨rfl, rfl, rfl, rfl, trivial⟩
    · rw [Int64.lt_iff_toInt_lt, lmi, hi] at e
      have h2 := nd100 (a := a) (by omega)
      have hnp2 := ndg_pos (a / 100)
      have c1 := bk hcp (by omega)
      have c2 := bk c1 (by omega)
      refine ⟨by decide, ?_⟩
      refine ⟨vpk (lr100 hi) (by omega), ?_⟩
      conv => whnf
      rw [ha]
      refine ⟨vpk c1 (by omega), ?_⟩
      refine ⟨vpk (lr100 hi) (by omega), ?_⟩
      conv => whnf
      rw [(nth_se ha)]
      refine ⟨vpk c2 (by omega), ?_⟩
      refine G_wk ?_ (ih (a / 100) (by omega) _ _ _ _ _ (lq100 hi) c2 (by omega) (by omega) hks.st.st (nth_se (nth_se ha)) (BF_upd (BF_upd hg _ _) _ _))
      exact ⟨rfl, rfl, rfl, rfl, trivial⟩
theorem L_lgt {x : Int64} {v n k : Nat} {g : Nat → Int32} (y : Int32) (hy : y = Int32.ofNat k) (ha : isA h v n g) (hg : BF g) (hk : tl x.toInt ≤ k) (hkn : k ≤ n) (hn : n ≤ 200) (hK : ∀ h' g' r, Ks v h h' → isA h' v n g' → BF g' → K (.inl (some (.int r))) h') : M P n_LNG_getChars [.long x, .int y, .ref v] h 0 0 6 K := by
  subst hy
  unfold tl sgN at hk
  have h1 := x.le_toInt
  have h2 := x.toInt_lt
  refine Mgo ok_LNG_getChars 60 rfl ?_
  refine ⟨fun e => ?_, fun e => ?_⟩
  · rw [Int64.lt_iff_toInt_lt, l0] at e
    rw [if_pos e] at hk
    refine ⟨fun e3 => absurd e3 (by decide), fun _ => ?_⟩
    refine G_wk ?_ (l_lgl (sg := 1) (by decide) hK x.toInt.natAbs k x (Int32.ofNat k) h g (by omega) (oN (by omega)) hk hkn Ks.rf ha hg)
    exact ⟨rfl, rfl, rfl, rfl, trivial⟩
  · rw [Int64.lt_iff_toInt_lt, l0] at e
    rw [if_neg e] at hk
    have hneg : (-x).toInt = -x.toInt := by
      rw [Int64.toInt_neg]
      exact Int.bmod_eq_of_le (by omega) (by omega)
    refine ⟨fun _ => ?_, fun e3 => absurd rfl e3⟩
    refine G_wk ?_ (l_lgl (sg := 0) (by decide) hK x.toInt.natAbs k (-x) (Int32.ofNat k) h g (by omega) (oN (by omega)) hk hkn Ks.rf ha hg)
    exact ⟨rfl, rfl, rfl, rfl, trivial⟩
theorem L_ASBappI {p b c m0 : Nat} (x : Int32) (hS : SB p b c m0 h) (hc : c + tl x.toInt ≤ 100) (hK : ∀ h', Kp p h h' → SB p b (c + tl x.toInt) (c + tl x.toInt) h' → K (.inl (some (.ref b))) h') : M P n_ASB_append_I [.ref b, .int x] h 1 200 10 K := by
  have hS0 := hS
  obtain ⟨hp, v0, n0, g0, q0, -, -, hb0, -, -, -, -⟩ := hS0
  refine Mgo ok_ASB_append_I 60 rfl ?_
  conv => whnf
  rw [hb0]
  refine ⟨_, _, _, L_iss _ ?_, by decide, by decide, by decide⟩
  conv => whnf
  rw [hb0]
  refine ⟨_, _, _, L_ensure (m := c + tl x.toInt) _ (oA c _) hS hc (fun h' hk' hS' => ?_), by decide, by decide, by decide⟩
  have hlen' := hS'.len
  obtain ⟨-, v, n, g, q, hv, hne, hb, ha, hg, hm, hn⟩ := hS'
  conv => whnf
  rw [hb]
  refine ⟨_, _, _, L_isLatin1 hb ?_, by decide, by decide, by decide⟩
  refine ⟨fun e => absurd e (by decide), fun _ => ?_⟩
  conv => whnf
  rw [hb]
  refine ⟨_, _, _, L_igt _ (oA c _) ha hg (Nat.le_add_left _ _) hm hn (fun h2 g' r hks ha' hg' => ?_), by decide, by decide, by decide⟩
  have hb2 : isB h2 b v q c := (hks.2 b (Ne.symm hne)).trans hb
  conv => whnf
  rw [hb2]
  refine hK _ ((hk'.tr (hks.kp hv hlen')).st hp) ⟨hp, v, n, g', q, hv, hne, ?_, ?_, hg', hm, hn⟩
  · rw [isB, nth_se hb2, ← oA]
    rfl
  · rw [isA, nth_sn (Ne.symm hne)]
    exact ha'
theorem L_appI {p b c m0 : Nat} (x : Int32) (hS : SB p b c m0 h) (hc : c + tl x.toInt ≤ 100) (hK : ∀ h', Kp p h h' → SB p b (c + tl x.toInt) (c + tl x.toInt) h' → K (.inl (some (.ref b))) h') : M P n_SB_append_I [.ref b, .int x] h 1 200 11 K := by
  have hS0 := hS
  obtain ⟨hp, v0, n0, g0, q0, -, -, hb0, -, -, -, -⟩ := hS0
  refine Mgo ok_SB_append_I 60 rfl ?_
  conv => whnf
  rw [hb0]
  refine ⟨_, _, _, L_ASBappI x hS hc (fun h' hk' hS' => ?_), by decide, by decide, by decide⟩
  exact hK h' hk' hS'
theorem L_ASBappJ {p b c m0 : Nat} (x : Int64) (hS : SB p b c m0 h) (hc : c + tl x.toInt ≤ 100) (hK : ∀ h', Kp p h h' → SB p b (c + tl x.toInt) (c + tl x.toInt) h' → K (.inl (some (.ref b))) h') : M P n_ASB_append_J [.ref b, .long x] h 1 200 10 K := by
  have hS0 := hS
  obtain ⟨hp, v0, n0, g0, q0, -, -, hb0, -, -, -, -⟩ := hS0
  refine Mgo ok_ASB_append_J 60 rfl ?_
  conv => whnf
  rw [hb0]
  refine ⟨_, _, _, L_lss _ ?_, by decide, by decide, by decide⟩
  conv => whnf
  rw [hb0]
  refine ⟨_, _, _, L_ensure (m := c + tl x.toInt) _ (oA c _) hS hc (fun h' hk' hS' => ?_), by decide, by decide, by decide⟩
  have hlen' := hS'.len
  obtain ⟨-, v, n, g, q, hv, hne, hb, ha, hg, hm, hn⟩ := hS'
  conv => whnf
  rw [hb]
  refine ⟨_, _, _, L_isLatin1 hb ?_, by decide, by decide, by decide⟩
  refine ⟨fun e => absurd e (by decide), fun _ => ?_⟩
  conv => whnf
  rw [hb]
  refine ⟨_, _, _, L_lgt _ (oA c _) ha hg (Nat.le_add_left _ _) hm hn (fun h2 g' r hks ha' hg' => ?_), by decide, by decide, by decide⟩
  have hb2 : isB h2 b v q c := (hks.2 b (Ne.symm hne)).trans hb
  conv => whnf
  rw [hb2]
  refine hK _ ((hk'.tr (hks.kp hv hlen')).st hp) ⟨hp, v, n, g', q, hv, hne, ?_, ?_, hg', hm, hn⟩
  · rw [isB, nth_se hb2, ← oA]
    rfl
  · rw [isA, nth_sn (Ne.symm hne)]
    exact ha'
theorem L_appJ {p b c m0 : Nat} (x : Int64) (hS : SB p b c m0 h) (hc : c + tl x.toInt ≤ 100) (hK : ∀ h', Kp p h h' → SB p b (c + tl x.toInt) (c + tl x.toInt) h' → K (.inl (some (.ref b))) h') : M P n_SB_append_J [.ref b, .long x] h 1 200 11 K := by
  have hS0 := hS
  obtain ⟨hp, v0, n0, g0, q0, -, -, hb0, -, -, -, -⟩ := hS0
  refine Mgo ok_SB_append_J 60 rfl ?_
  conv => whnf
  rw [hb0]
  refine ⟨_, _, _, L_ASBappJ x hS hc (fun h' hk' hS' => ?_), by decide, by decide, by decide⟩
  exact hK h' hk' hS'
end TXN
end
section
/-! THE CLASS: its texts -/
theorem tnn (x : Int64) {k : Nat} (h : x.toInt = (k : Int)) : x.toBitVec.toNat = k := by
  have e : x.toInt = x.toBitVec.toInt := rfl
  rw [e, BitVec.toInt_eq_toNat_cond] at h
  have := x.toBitVec.isLt
  split at h <;> omega
theorem tni (x : Int64) {k : Nat} (h : x.toBitVec.toNat = k) (hk : k < 9223372036854775808) : x.toInt = (k : Int) := by
  show x.toBitVec.toInt = _
  rw [BitVec.toInt_eq_toNat_cond, h, if_pos (by omega)]
def tTen (x : Int64) : Int64 := (x.toUInt64 >>> ((1 : Int32).toInt64.toUInt64 &&& Int64.toUInt64 63)).toInt64 / 5
theorem tTen_i (x : Int64) : (tTen x).toInt = ((x.toBitVec.toNat / 10 : Nat) : Int) := by
  have hu := x.toBitVec.isLt
  have h1 : ((x.toUInt64 >>> ((1 : Int32).toInt64.toUInt64 &&& Int64.toUInt64 63)).toInt64).toBitVec.toNat = x.toBitVec.toNat / 2 := by
    show (x.toUInt64 >>> ((1 : Int32).toInt64.toUInt64 &&& Int64.toUInt64 63)).toNat = _
    rw [UInt64.toNat_shiftRight]
    have : ((1 : Int32).toInt64.toUInt64 &&& Int64.toUInt64 63).toNat % 64 = 1 := by decide
    rw [this, Nat.shiftRight_eq_div_pow]
    rfl
  have h2 := tni _ h1 (by omega)
  have e5 : (5 : Int64).toInt = 5 := by decide
  unfold tTen
  rw [Int64.toInt_div, h2, e5, Int.tdiv_eq_ediv_of_nonneg (by omega), Int.bmod_eq_of_le (by omega) (by omega)]
  omega
theorem tDig (x : Int64) : (x - tTen x * 10).toInt32.toInt = ((x.toBitVec.toNat % 10 : Nat) : Int) := by
  have hu := x.toBitVec.isLt
  have ht := tnn _ (tTen_i x)
  have hb : (x - tTen x * 10).toBitVec.toNat = x.toBitVec.toNat % 10 := by
    rw [Int64.toBitVec_sub, Int64.toBitVec_mul, BitVec.toNat_sub, BitVec.toNat_mul, ht, show (10 : Int64).toBitVec.toNat = 10 from rfl]
    omega
  have h2 := tni _ hb (by omega)
  rw [Int64.toInt_toInt32, h2]
  exact Int.bmod_eq_of_le (by omega) (by omega)
theorem chr_ok : ∀ d, d < 10 → ¬ 255 < ((48 + Int32.ofNat d).toUInt32 % 65536).toInt32 := by decide
theorem tChr (x : Int64) : ¬ 255 < ((48 + (x - tTen x * 10).toInt32).toUInt32 % 65536).toInt32 := by
  have e : (x - tTen x * 10).toInt32 = Int32.ofNat (x.toBitVec.toNat % 10) := Int32.toInt_inj.mp (by rw [tDig, oN (by omega)])
  rw [e]
  exact chr_ok _ (by omega)
theorem Kp_all {h h' : mH} (a : Kp h.length h h') : ∃ l, h' = h ++ l := by
  refine ⟨h'.drop h.length, ?_⟩
  have e : h'.take h.length = h := by
    refine List.ext_getElem? fun i => ?_
    rw [List.getElem?_take]
    by_cases hi : i < h.length
    · rw [if_pos hi, ← nth_eq, ← nth_eq]
      exact a.2 i hi
    · rw [if_neg hi]
      exact (List.getElem?_eq_none (by omega)).symm
  calc h' = h'.take h.length ++ h'.drop h.length := (List.take_append_drop _ _).symm
    _ = h ++ h'.drop h.length := by rw [e]
theorem tl32 (x : Int32) : tl x.toInt ≤ 11 := by
  have h1 := x.le_toInt
  have h2 := x.toInt_lt
  have e : (10 : Nat) ^ (9 + 1) = 10000000000 := by decide
  have := ndg_up 9 x.toInt.natAbs (by rw [e]; omega)
  unfold tl sgN
  split <;> omega
theorem tl64 (x : Int64) : tl x.toInt ≤ 20 := by
  have h1 := x.le_toInt
  have h2 := x.toInt_lt
  have e : (10 : Nat) ^ (18 + 1) = 10000000000000000000 := by decide
  have := ndg_up 18 x.toInt.natAbs (by rw [e]; omega)
  unfold tl sgN
  split <;> omega
theorem ap_c {c n : Nat} (h : c + (n + 1) = 19) : (c + 1) + n = 19 := by omega
theorem ap_lt {c : Nat} (h : c < 100) (e : Int32.ofNat c + 1 < 20) : c + 1 < 20 := by
  rw [o1] at e
  exact (oNl (n := 20) (by omega) (by decide)).mp e
theorem ap_a {n cb : Nat} (h : n + 1 + 1 ≤ cb) : n + 1 ≤ cb - 0 - 1 := by omega
theorem ap_b {n sb : Nat} (h : 200 * (n + 1 + 1) ≤ sb) : 200 * (n + 1) ≤ sb - 0 - 200 := by omega
theorem ap_1 {n cb : Nat} (h : n + 1 ≤ cb) : 1 ≤ cb := by omega
theorem ap_2 {n sb : Nat} (h : 200 * (n + 1) ≤ sb) : 200 ≤ sb := by omega
theorem ap_20 {c n : Nat} (h : c + n = 19) : c < 100 ∧ 1 ≤ c + 1 ∧ c + 1 ≤ 20 := by omega
section TXX
variable {P : GP} {K : Kt} {h : mH}
theorem l_apb {p b : Nat} {u : Int64} {h0 : mH} (hK : ∀ h' c, Kp p h0 h' → 1 ≤ c → c ≤ 20 → SB p b c c h' → K (.inl none) h') : ∀ (n c : Nat) (left : Int64) (y : Option Value) (h : mH) (m0 cb sb : Nat), c + n = 19 → Kp p h0 h → SB p b c m0 h → n + 1 ≤ cb → 200 * (n + 1) ≤ sb →
    G P n_D_appendBackwards K 12 5 [some (.ref b), some (.long u), none, some (.long left), none, some (.int (Int32.ofNat c)), y, none] [] h cb sb
  | 0, c, left, y, h, m0, cb, sb, hc, hk, hS, hcb, hsb => by
    have hc20 := ap_20 hc
    have hS0 := hS
    obtain ⟨hp, v0, n0, g0, q0, -, -, hb0, -, -, -, -⟩ := hS0
    refine go ok_D_appendBackwards 80 ?_
    refine ⟨by decide, ?_⟩
    conv => whnf
    rw [hb0]
    refine ⟨_, _, _, L_appC _ (tChr left) hS hc20.1 (fun h' hk' hS' => ?_), ap_1 hcb, ap_2 hsb, by decide⟩
    refine ⟨fun e => ?_, fun e => ?_⟩
    · exact hK _ _ (hk.tr hk') hc20.2.1 hc20.2.2 hS'
    · refine ⟨fun e2 => absurd (ap_lt hc20.1 e2) (by omega), fun e2 => ?_⟩
      exact hK _ _ (hk.tr hk') hc20.2.1 hc20.2.2 hS'
  | n + 1, c, left, y, h, m0, cb, sb, hc, hk, hS, hcb, hsb => by
    have hc20 := ap_20 hc
    have hS0 := hS
    obtain ⟨hp, v0, n0, g0, q0, -, -, hb0, -, -, -, -⟩ := hS0
    refine go ok_D_appendBackwards 80 ?_
    refine ⟨by decide, ?_⟩
    conv => whnf
    rw [hb0]
    refine ⟨_, _, _, L_appC _ (tChr left) hS hc20.1 (fun h' hk' hS' => ?_), ap_1 hcb, ap_2 hsb, by decide⟩
    refine ⟨fun e => ?_, fun e => ?_⟩
    · exact hK _ _ (hk.tr hk') hc20.2.1 hc20.2.2 hS'
    · refine ⟨fun e2 => ?_, fun e2 => ?_⟩
      · have := l_apb (u := u) hK n (c + 1) (tTen left) (some (.long (tTen left))) h' (c + 1) (cb - 0 - 1) (sb - 0 - 200) (ap_c hc) (hk.tr hk') hS' (ap_a hcb) (ap_b hsb)
        rw [← o1 c] at this
        exact this
      · exact hK _ _ (hk.tr hk') hc20.2.1 hc20.2.2 hS'
theorem L_apB {p b m0 : Nat} (x : Int64) (hS : SB p b 0 m0 h) (hK : ∀ h' c, Kp p h h' → 1 ≤ c → c ≤ 20 → SB p b c c h' → K (.inl none) h') : M P n_D_appendBackwards [.ref b, .long x] h 20 4000 12 K := by
  refine Mgo ok_D_appendBackwards 60 rfl ?_
  exact l_apb hK 19 0 x none h m0 20 4000 (by decide) (Kp.rf hS.len) hS (by decide) (by decide)
theorem L_fin {p b c : Nat} (hS : SB p b c c h) (hc1 : 1 ≤ c) (hc2 : c ≤ 21) : c ≤ 100 := by omega
theorem L_ofUnsigned (x : Int64) (hK : ∀ l s, K (.inl (some (.ref s))) (h ++ l)) : M P n_D_ofUnsigned [.long x] h 30 5000 14 K := by
  refine Mgo ok_D_ofUnsigned 80 rfl ?_
  refine ⟨by decide, ?_⟩
  refine ⟨_, _, _, L_SBnew (p := h.length) (nth_ar (l := [])) (Nat.le_refl _) (fun h1 k1 s1 => ?_), by decide, by decide, by decide⟩
  refine ⟨_, _, _, L_apB x s1 (fun h2 c k2 hc1 hc2 s2 => ?_), by decide, by decide, by decide⟩
  have s2' := s2
  obtain ⟨-, v2, n2, g2, q2, -, -, hb2, -, -, -, -⟩ := s2'
  conv => whnf
  rw [hb2]
  refine ⟨_, _, _, L_reverse s2 (Nat.le_refl _) hc1 (by omega) (fun h3 k3 s3 => ?_), by decide, by decide, by decide⟩
  have s3' := s3
  obtain ⟨-, v3, n3, g3, q3, -, -, hb3, -, -, -, -⟩ := s3'
  conv => whnf
  rw [hb3]
  refine ⟨_, _, _, L_toString s3 (Nat.le_refl _) (by omega) (fun h4 r k4 s4 => ?_), by decide, by omega, by decide⟩
  obtain ⟨l, rfl⟩ := Kp_all (((((Kp.rf (Nat.le_refl h.length)).ap.tr k1).tr k2).tr k3).tr k4)
  exact hK l r
theorem L_ofSigned (x : Int64) (hK : ∀ l s, K (.inl (some (.ref s))) (h ++ l)) : M P n_D_ofSigned [.long x] h 30 5000 14 K := by
  refine Mgo ok_D_ofSigned 80 rfl ?_
  refine ⟨by decide, ?_⟩
  refine ⟨_, _, _, L_SBnew (p := h.length) (nth_ar (l := [])) (Nat.le_refl _) (fun h1 k1 s1 => ?_), by decide, by decide, by decide⟩
  refine ⟨fun e => ?_, fun e => ?_⟩
  · refine ⟨_, _, _, L_apB _ s1 (fun h2 c k2 hc1 hc2 s2 => ?_), by decide, by decide, by decide⟩
    refine ⟨fun _ => ?_, fun e2 => absurd e e2⟩
    have s2' := s2
    obtain ⟨-, v2, n2, g2, q2, -, -, hb2, -, -, -, -⟩ := s2'
    conv => whnf
    rw [hb2]
    refine ⟨_, _, _, L_appC 45 (by decide) s2 (by omega) (fun h5 k5 s5 => ?_), by decide, by decide, by decide⟩
    have s5' := s5
    obtain ⟨-, v5, n5, g5, q5, -, -, hb5, -, -, -, -⟩ := s5'
    conv => whnf
    rw [hb5]
    refine ⟨_, _, _, L_reverse s5 (Nat.le_refl _) (by omega) (by omega) (fun h3 k3 s3 => ?_), by decide, by decide, by decide⟩
    have s3' := s3
    obtain ⟨-, v3, n3, g3, q3, -, -, hb3, -, -, -, -⟩ := s3'
    conv => whnf
    rw [hb3]
    refine ⟨_, _, _, L_toString s3 (Nat.le_refl _) (by omega) (fun h4 r k4 s4 => ?_), by decide, by omega, by decide⟩
    obtain ⟨l, rfl⟩ := Kp_all ((((((Kp.rf (Nat.le_refl h.length)).ap.tr k1).tr k2).tr k5).tr k3).tr k4)
    exact hK l r
  · refine ⟨_, _, _, L_apB _ s1 (fun h2 c k2 hc1 hc2 s2 => ?_), by decide, by decide, by decide⟩
    refine ⟨fun e2 => absurd e2 e, fun _ => ?_⟩
    have s2' := s2
    obtain ⟨-, v2, n2, g2, q2, -, -, hb2, -, -, -, -⟩ := s2'
    conv => whnf
    rw [hb2]
    refine ⟨_, _, _, L_reverse s2 (Nat.le_refl _) hc1 (by omega) (fun h3 k3 s3 => ?_), by decide, by decide, by decide⟩
    have s3' := s3
    obtain ⟨-, v3, n3, g3, q3, -, -, hb3, -, -, -, -⟩ := s3'
    conv => whnf
    rw [hb3]
    refine ⟨_, _, _, L_toString s3 (Nat.le_refl _) (by omega) (fun h4 r k4 s4 => ?_), by decide, by omega, by decide⟩
    obtain ⟨l, rfl⟩ := Kp_all (((((Kp.rf (Nat.le_refl h.length)).ap.tr k1).tr k2).tr k3).tr k4)
    exact hK l r
end TXX
end
section
/-! THE CLASS: its texts, asked of it from outside; what a text holds isn't told -/
def ansT (K : Kt) (t : mH) (o : Out) : Prop := match o.1 with
  | .inl _ => ∀ l r, K (.inl (some (.ref r))) (hx o.2 (t ++ l))
  | .inr E => ∀ l, K (.inr E) (hx o.2 (t ++ l))
theorem ansT_nd {K : Kt} {t : mH} {c : Prop} [Decidable c] {E : Nat} {s : XS} {r : Out} (hK : ansT K t (nd c E s r)) : (c → ansT K t r) ∧ (¬ c → ∀ l, K (.inr E) (hx s (t ++ l))) := by
  unfold nd at hK
  by_cases q : c
  · rw [if_pos q] at hK
    exact ⟨fun _ => hK, fun e => absurd q e⟩
  · rw [if_neg q] at hK
    exact ⟨fun e => absurd e q, fun _ => hK⟩
def xText (l k : Int32) (s : XS) : Out := nd (ok4 k) 0 s (.inl 0, s)
def xDistance (l a b : Int32) (s : XS) : Out := nd (ok4 a) 0 s (nd (ok4 b) 0 s (.inl 0, s))
def xQuotient (l k m : Int32) (s : XS) : Out := nd (ok4 k) 0 s (nd (¬ m = 0) 1 s (.inl 0, s))
def xCommon (r q : Int32) (s : XS) : Out := nd (ok3 r) 0 s (nd (ok3 q) 0 s (.inl 0, s))
def xRingText (r : Int32) (s : XS) : Out := nd (ok3 r) 0 s (.inl 0, s)
section CLT
variable {P : GP} {K : Kt} {s : XS} {t : mH}
theorem L_text (l k : Int32) (hK : ansT K t (xText l k s)) : M P n_X_text [.ref 0, .int l, .int k] (hx s t) 50 9000 16 K := by
  refine Mgo ok_X_text 60 rfl ?_
  have hK := ansT_nd hK
  refine ⟨_, _, _, L_num _ _ (fun h1 => ?_) (fun q j => hK.2 q _), by decide, by decide, by decide⟩
  have hK := hK.1 h1
  refine ⟨_, _, _, L_ofSigned _ (fun l r => ?_), by decide, by decide, by decide⟩
  exact hK l r
theorem L_distance (l a b : Int32) (hK : ansT K t (xDistance l a b s)) : M P n_X_distance [.ref 0, .int l, .int a, .int b] (hx s t) 50 9000 16 K := by
  refine Mgo ok_X_distance 60 rfl ?_
  have hK := ansT_nd hK
  refine ⟨_, _, _, L_num _ _ (fun h1 => ?_) (fun q j => hK.2 q _), by decide, by decide, by decide⟩
  have hK := hK.1 h1
  have hK := ansT_nd hK
  refine ⟨_, _, _, L_num _ _ (fun h2 => ?_) (fun q j => hK.2 q _), by decide, by decide, by decide⟩
  have hK := hK.1 h2
  refine ⟨_, _, _, L_maxJ _ _ _ ?_, by decide, by decide, by decide⟩
  refine ⟨_, _, _, L_minJ _ _ _ ?_, by decide, by decide, by decide⟩
  refine ⟨_, _, _, L_ofUnsigned _ (fun l r => ?_), by decide, by decide, by decide⟩
  exact hK l r
theorem L_quotient (l k m : Int32) (hK : ansT K t (xQuotient l k m s)) : M P n_X_quotient [.ref 0, .int l, .int k, .int m] (hx s t) 50 9000 16 K := by
  refine Mgo ok_X_quotient 60 rfl ?_
  have hK := ansT_nd hK
  refine ⟨_, _, _, L_num _ _ (fun h1 => ?_) (fun q j => hK.2 q _), by decide, by decide, by decide⟩
  have hK := hK.1 h1
  have hK := ansT_nd hK
  refine ⟨_, _, _, L_needNotZero _ (fun h2 => ?_) (fun q j => hK.2 q _), by decide, by decide, by decide⟩
  have hK := hK.1 h2
  refine ⟨_, _, _, L_floorOf _ _ _ ?_, by decide, by decide, by decide⟩
  refine ⟨_, _, _, L_gone _ _ _ ?_, by decide, by decide, by decide⟩
  refine ⟨_, _, _, L_ofSigned _ (fun l r => ?_), by decide, by decide, by decide⟩
  exact hK l r
theorem L_common (r q i : Int32) (hK : ansT K t (xCommon r q s)) : M P n_X_common [.ref 0, .int r, .int q, .int i] (hx s t) 50 9000 16 K := by
  refine Mgo ok_X_common 80 rfl ?_
  have hK := ansT_nd hK
  refine ⟨_, _, _, L_modAt _ (fun h1 => ?_) (fun q j => hK.2 q _), by decide, by decide, by decide⟩
  have hK := hK.1 h1
  refine ⟨_, _, _, L_sizeOf _ _ ?_, by decide, by decide, by decide⟩
  have hK := ansT_nd hK
  refine ⟨_, _, _, L_modAt _ (fun h2 => ?_) (fun q j => hK.2 q _), by decide, by decide, by decide⟩
  have hK := hK.1 h2
  refine ⟨_, _, _, L_sizeOf _ _ ?_, by decide, by decide, by decide⟩
  refine ⟨_, _, _, L_gcd _ _ _ ?_, by decide, by decide, by decide⟩
  refine ⟨fun q3 => ?_, fun q3 => ?_⟩
  · refine ⟨_, _, _, L_ofSigned _ (fun l r => ?_), by decide, by decide, by decide⟩
    exact hK l r
  · refine ⟨_, _, _, L_floorOf _ _ _ ?_, by decide, by decide, by decide⟩
    refine ⟨_, _, _, L_ofSigned _ (fun l r => ?_), by decide, by decide, by decide⟩
    exact hK l r
theorem L_modAtK {h1 : mH} (hk : Kp (hx s t).length (hx s t) h1) (r : Int32) (hK : ok3 r → K (.inl (some (.int (xMod r s)))) h1) (h0 : ¬ ok3 r → ∀ l, K (.inr 0) (hx s (t ++ l))) : M P n_X_modulusAt [.ref 0, .int r] h1 1 6 7 K := by
  obtain ⟨l, rfl⟩ := Kp_all hk
  exact L_modAt (t := t ++ l) r hK (fun q j => by
    have := h0 q (l ++ jk j)
    rw [← List.append_assoc] at this
    exact this)
theorem L_resAtK {h1 : mH} (hk : Kp (hx s t).length (hx s t) h1) (r k : Int32) (hr : ok3 r) (hk4 : ok4 k) (hK : K (.inl (some (.int (xRes r k s)))) h1) : M P n_X_residueAt [.ref 0, .int r, .int k] h1 0 0 7 K := by
  obtain ⟨l, rfl⟩ := Kp_all hk
  exact L_residueAt (t := t ++ l) r k hr hk4 hK
theorem hx_len (s : XS) (t : mH) : 5 ≤ (hx s t).length := by
  unfold hx
  simp only [List.length_cons]
  omega
theorem hx_0 {h1 : mH} (hk : Kp (hx s t).length (hx s t) h1) : nth h1 0 = some (.inr (2, [.ref 1, .ref 2, .ref 3, .ref 4, .int (xF s), .int (xK s)])) := hk.2 0 (Nat.lt_of_lt_of_le (by decide) (hx_len s t))
theorem rt_ok {i n : Nat} (h : i + (n + 1) = 4) : ok4 (Int32.ofNat i) ∧ Int32.ofNat i < 4 := by
  have h1 : Int32.ofNat i < 4 := (oNl (n := 4) (by omega) (by decide)).mpr (by omega)
  exact ⟨⟨oN0 (by omega), h1⟩, h1⟩
theorem rt_no {i : Nat} (h : i + 0 = 4) : ¬ Int32.ofNat i < 4 := by
  have : i = 4 := by omega
  subst this
  decide
theorem rt_c {c i : Nat} (x : Int32) (h : c ≤ 12 + 12 * i) : c + 1 + tl x.toInt ≤ 12 + 12 * (i + 1) := by
  have := tl32 x
  omega
theorem rt_1 {c i n : Nat} (x : Int32) (h : c ≤ 12 + 12 * i) (hi : i + (n + 1) = 4) : c < 100 ∧ c + 1 + tl x.toInt ≤ 100 := by
  have := tl32 x
  omega
theorem rt_b {n cb : Nat} (h : 2 * (n + 1) + 2 ≤ cb) : 1 ≤ cb ∧ 0 ≤ cb - 1 ∧ 1 ≤ cb - 1 - 0 ∧ 2 * n + 2 ≤ cb - 1 - 0 - 1 := by omega
theorem rt_s {n sb : Nat} (h : 400 * (n + 1) + 100 ≤ sb) : 200 ≤ sb ∧ 0 ≤ sb - 200 ∧ 200 ≤ sb - 200 - 0 ∧ 400 * n + 100 ≤ sb - 200 - 0 - 200 := by omega
theorem l_rt {r : Int32} {b : Nat} (hr : ok3 r) (hK : ∀ l r, K (.inl (some (.ref r))) (hx s (t ++ l))) : ∀ (n i c cb sb : Nat) (h1 : mH), i + n = 4 → Kp (hx s t).length (hx s t) h1 → SB (hx s t).length b c c h1 → c ≤ 12 + 12 * i → 2 * n + 2 ≤ cb → 400 * n + 100 ≤ sb →
    G P n_X_ringText K 17 25 [some (.ref 0), some (.int r), some (.ref b), some (.int (Int32.ofNat i))] [] h1 cb sb
  | 0, i, c, cb, sb, h1, hi, hk, hS, hc, hcb, hsb => by
    have hn := rt_no hi
    have hc9 : c ≤ 100 := by omega
    have hS0 := hS
    obtain ⟨hp, v0, n0, g0, q0, -, -, hb0, -, -, -, -⟩ := hS0
    refine go ok_X_ringText 80 ?_
    refine ⟨fun q => absurd q hn, fun q => ?_⟩
    conv => whnf
    rw [hb0]
    refine ⟨_, _, _, L_toString hS (Nat.le_refl _) hc9 (fun h4 r k4 s4 => ?_), by omega, by omega, by decide⟩
    obtain ⟨l, rfl⟩ := Kp_all (hk.tr k4)
    exact hK l r
  | n + 1, i, c, cb, sb, h1, hi, hk, hS, hc, hcb, hsb => by
    have hn := rt_ok hi
    have e1 := rt_1 (xRes r (Int32.ofNat i) s) hc hi
    have e2 := rt_c (xRes r (Int32.ofNat i) s) hc
    have e3 := rt_b hcb
    have e4 := rt_s hsb
    have hi2 : (i + 1) + n = 4 := by omega
    have hS0 := hS
    obtain ⟨hp, v0, n0, g0, q0, -, -, hb0, -, -, -, -⟩ := hS0
    refine go ok_X_ringText 80 ?_
    refine ⟨fun q => ?_, fun q => absurd hn.2 q⟩
    conv => whnf
    rw [hb0]
    refine ⟨_, _, _, L_appC 32 (by decide) hS e1.1 (fun h2 k2 s2 => ?_), e3.1, e4.1, by decide⟩
    have hk2 := hk.tr k2
    conv => whnf
    rw [hx_0 hk2]
    refine ⟨_, _, _, L_resAtK hk2 _ _ hr hn.1 ?_, e3.2.1, e4.2.1, by decide⟩
    have s2' := s2
    obtain ⟨-, v2, n2, g2, q2, -, -, hb2, -, -, -, -⟩ := s2'
    conv => whnf
    rw [hb2]
    refine ⟨_, _, _, L_appI _ s2 e1.2 (fun h3 k3 s3 => ?_), e3.2.2.1, e4.2.2.1, by decide⟩
    have := l_rt hr hK n (i + 1) (c + 1 + tl (xRes r (Int32.ofNat i) s).toInt) (cb - 1 - 0 - 1) (sb - 200 - 0 - 200) h3 hi2 (hk2.tr k3) s3 e2 e3.2.2.2 e4.2.2.2
    rw [← o1 i] at this
    exact this
theorem L_ringText (r : Int32) (hK : ansT K t (xRingText r s)) : M P n_X_ringText [.ref 0, .int r] (hx s t) 50 9000 17 K := by
  refine Mgo ok_X_ringText 80 rfl ?_
  refine ⟨by decide, ?_⟩
  refine ⟨_, _, _, L_SBnew (p := (hx s t).length) (nth_ar (l := [])) (Nat.le_refl _) (fun h1 k1 s1 => ?_), by decide, by decide, by decide⟩
  have hk1 : Kp (hx s t).length (hx s t) h1 := (Kp.rf (Nat.le_refl _)).ap.tr k1
  conv => whnf
  rw [hx_0 hk1]
  have hK := ansT_nd hK
  refine ⟨_, _, _, L_modAtK hk1 _ (fun hr => ?_) hK.2, by decide, by decide, by decide⟩
  have hK := hK.1 hr
  have s1' := s1
  obtain ⟨-, v1, n1, g1, q1, -, -, hb1, -, -, -, -⟩ := s1'
  conv => whnf
  rw [hb1]
  have e1 := tl32 (xMod r s)
  refine ⟨_, _, _, L_appI _ s1 (by omega) (fun h2 k2 s2 => ?_), by decide, by decide, by decide⟩
  have s2' := s2
  obtain ⟨-, v2, n2, g2, q2, -, -, hb2, -, -, -, -⟩ := s2'
  conv => whnf
  rw [hb2]
  refine ⟨_, _, _, L_appC 58 (by decide) s2 (by omega) (fun h3 k3 s3 => ?_), by decide, by decide, by decide⟩
  exact l_rt hr hK 4 0 (0 + tl (xMod r s).toInt + 1) (50 - 1 - 1 - 1 - 1 - 1) (9000 - 4 - 16 - 6 - 200 - 200) h3 (by decide) ((hk1.tr k2).tr k3) s3 (by omega) (by decide) (by decide)
end CLT
end
