/-! THE LAW: its cases, where nothing is compared; what holds between the class's state and the model's is I -/
def hvs (P : GP) (i : Int32) : Prop := vp_in (i + 1) (gL P) ∧ vp_in (i + 2) (gL P) ∧ vp_in (i + 3) (gL P) ∧ vp_in (i + 4) (gL P) ∧ vp_in (i + 5) (gL P)
theorem anK_any {K : Kt} {s : MS} {n : Int64} {w : Value} {t : mH} {cd : Nat → Int32} {o : Out} (h : ∀ c n1 w1 t1, K (.inl (some (.int c))) (hm s o.2 (oc n1 w1 :: t1))) : ansK K s n w t cd o := by
  obtain ⟨o, y⟩ := o
  cases o with
  | inl v => exact h _ _ _ _
  | inr E => exact fun j => h _ _ _ _
theorem anB_any {K : Kt} {s : MS} {n : Int64} {w : Value} {t : mH} {cd : Nat → Int32} {o : Out} (h : ∀ c n1 w1 t1, K (.inl (some (.int c))) (hm s o.2 (oc n1 w1 :: t1))) : ansB K s n w t cd o := by
  obtain ⟨o, y⟩ := o
  cases o with
  | inl v => exact h _ _ _ _
  | inr E => exact fun j => h _ _ _ _
theorem anS_any {K : Kt} {s : MS} {n : Int64} {w : Value} {t : mH} {cd : Nat → Int32} {o : Out} (h : ∀ c n1 w1 t1, K (.inl (some (.int c))) (hm s o.2 (oc n1 w1 :: t1))) : ansS K s n w t cd o := by
  obtain ⟨o, y⟩ := o
  cases o with
  | inl v => exact fun l r => h _ _ _ _
  | inr E => exact fun j => h _ _ _ _
/-- from the loop's head on, at the next call -/
def nxtG (P : GP) (K : Kt) (I : XS → MS → Prop) (i : Int32) (c0 s0 : Nat) : Prop := ∀ x s n w t, I x s → G P n_K_law K 30 27 [some (.retAddr 0), some (.ref 0), some (.ref 5), some (.ref 13), some (.int (i + 6)), none, none] [] (hm s x (oc n w :: t)) c0 s0
theorem nxtG_ok {P : GP} {K : Kt} {I : XS → MS → Prop} {i : Int32} {c0 s0 : Nat} (h : nxtG P K I i c0 s0) {x : XS} {s : MS} {n : Int64} {w : Value} {t : mH} (hI : I x s) {cb sb : Nat} (h1 : c0 ≤ cb) (h2 : s0 ≤ sb) {y z : Option Value} :
    G P n_K_law K 30 27 [some (.retAddr 0), some (.ref 0), some (.ref 5), some (.ref 13), some (.int (i + 6)), y, z] [] (hm s x (oc n w :: t)) cb sb := by
  refine G_wk ?_ (G_mono (h x s n w t hI) h1 h2)
  exact ⟨rfl, rfl, rfl, rfl, rfl, trivial⟩
section LAWC
variable {P : GP} {K : Kt} {I : XS → MS → Prop} {i : Int32} {c0 s0 cb sb : Nat} {x : XS} {s : MS} {n : Int64} {w : Value} {t : mH}
theorem c_put (hv : hvs P i) (hI : ∀ l k hi lo : Int32, I (xPut l k hi lo x).2 (m_put l k hi lo s).2) (hcb : c0 + 1000 ≤ cb) (hsb : s0 + 14000 ≤ sb) (hK : nxtG P K I i c0 s0) : G P n_K_law K 30 228 [some (.retAddr 0), some (.ref 0), some (.ref 5), some (.ref 13), some (.int i), none, none] [] (hm s x (oc n w :: t)) cb sb := by
  obtain ⟨v1, v2, v3, v4, v5⟩ := hv
  refine go ok_K_law 120 ?_
  refine ⟨v1, ?_⟩
  refine ⟨fun b0 => ?_, fun b0 => ?_⟩
  · skip
    refine ⟨v2, ?_⟩
    refine ⟨v3, ?_⟩
    refine ⟨v4, ?_⟩
    refine ⟨_, _, _, K_put _ _ _ _ (anK_any (fun c n1 w1 t1 => ?_)), by omega, by omega, by decide⟩
    refine ⟨v1, ?_⟩
    refine ⟨fun _ => ?_, fun e => absurd b0 e⟩
    refine ⟨v2, ?_⟩
    refine ⟨v3, ?_⟩
    refine ⟨v4, ?_⟩
    refine ⟨_, _, _, M_put _ _ _ _ ?_, by omega, by omega, by decide⟩
    refine nxtG_ok hK (hI _ _ _ _) ?_ ?_ <;> omega
  · skip
    refine ⟨v2, ?_⟩
    refine ⟨v3, ?_⟩
    refine ⟨v4, ?_⟩
    refine ⟨_, _, _, K_put _ _ _ _ (anK_any (fun c n1 w1 t1 => ?_)), by omega, by omega, by decide⟩
    refine ⟨v1, ?_⟩
    refine ⟨fun e => absurd e b0, fun _ => ?_⟩
    refine ⟨v2, ?_⟩
    refine ⟨v3, ?_⟩
    refine ⟨v4, ?_⟩
    refine ⟨_, _, _, M_put _ _ _ _ ?_, by omega, by omega, by decide⟩
    refine nxtG_ok hK (hI _ _ _ _) ?_ ?_ <;> omega
theorem c_copy (hv : hvs P i) (hI : ∀ l k f : Int32, I (xCopy l k f x).2 (m_copy l k f s).2) (hcb : c0 + 1000 ≤ cb) (hsb : s0 + 14000 ≤ sb) (hK : nxtG P K I i c0 s0) : G P n_K_law K 30 308 [some (.retAddr 0), some (.ref 0), some (.ref 5), some (.ref 13), some (.int i), none, none] [] (hm s x (oc n w :: t)) cb sb := by
  obtain ⟨v1, v2, v3, v4, v5⟩ := hv
  refine go ok_K_law 120 ?_
  refine ⟨v1, ?_⟩
  refine ⟨fun b0 => ?_, fun b0 => ?_⟩
  · skip
    refine ⟨v2, ?_⟩
    refine ⟨v3, ?_⟩
    refine ⟨_, _, _, K_copy _ _ _ (anK_any (fun c n1 w1 t1 => ?_)), by omega, by omega, by decide⟩
    refine ⟨v1, ?_⟩
    refine ⟨fun _ => ?_, fun e => absurd b0 e⟩
    refine ⟨v2, ?_⟩
    refine ⟨v3, ?_⟩
    refine ⟨_, _, _, M_copy _ _ _ ?_, by omega, by omega, by decide⟩
    refine nxtG_ok hK (hI _ _ _) ?_ ?_ <;> omega
  · skip
    refine ⟨v2, ?_⟩
    refine ⟨v3, ?_⟩
    refine ⟨_, _, _, K_copy _ _ _ (anK_any (fun c n1 w1 t1 => ?_)), by omega, by omega, by decide⟩
    refine ⟨v1, ?_⟩
    refine ⟨fun e => absurd e b0, fun _ => ?_⟩
    refine ⟨v2, ?_⟩
    refine ⟨v3, ?_⟩
    refine ⟨_, _, _, M_copy _ _ _ ?_, by omega, by omega, by decide⟩
    refine nxtG_ok hK (hI _ _ _) ?_ ?_ <;> omega
theorem c_widen (hv : hvs P i) (hI : ∀ k f : Int32, I (xWiden k f x).2 (m_widen k f s).2) (hcb : c0 + 1000 ≤ cb) (hsb : s0 + 14000 ≤ sb) (hK : nxtG P K I i c0 s0) : G P n_K_law K 30 376 [some (.retAddr 0), some (.ref 0), some (.ref 5), some (.ref 13), some (.int i), none, none] [] (hm s x (oc n w :: t)) cb sb := by
  obtain ⟨v1, v2, v3, v4, v5⟩ := hv
  refine go ok_K_law 120 ?_
  refine ⟨v1, ?_⟩
  refine ⟨v2, ?_⟩
  refine ⟨_, _, _, K_widen _ _ (anK_any (fun c n1 w1 t1 => ?_)), by omega, by omega, by decide⟩
  refine ⟨v1, ?_⟩
  refine ⟨v2, ?_⟩
  refine ⟨_, _, _, M_widen _ _ ?_, by omega, by omega, by decide⟩
  refine nxtG_ok hK (hI _ _) ?_ ?_ <;> omega
theorem c_exact (hv : hvs P i) (hI : ∀ l k f q : Int32, I (xExact l k f q x).2 (m_exact l k f q s).2) (hcb : c0 + 1000 ≤ cb) (hsb : s0 + 14000 ≤ sb) (hK : nxtG P K I i c0 s0) : G P n_K_law K 30 485 [some (.retAddr 0), some (.ref 0), some (.ref 5), some (.ref 13), some (.int i), none, none] [] (hm s x (oc n w :: t)) cb sb := by
  obtain ⟨v1, v2, v3, v4, v5⟩ := hv
  refine go ok_K_law 120 ?_
  refine ⟨v1, ?_⟩
  refine ⟨fun b0 => ?_, fun b0 => ?_⟩
  · skip
    refine ⟨v2, ?_⟩
    refine ⟨v3, ?_⟩
    refine ⟨v4, ?_⟩
    refine ⟨_, _, _, K_exact _ _ _ _ (anK_any (fun c n1 w1 t1 => ?_)), by omega, by omega, by decide⟩
    refine ⟨v1, ?_⟩
    refine ⟨fun _ => ?_, fun e => absurd b0 e⟩
    refine ⟨v2, ?_⟩
    refine ⟨v3, ?_⟩
    refine ⟨v4, ?_⟩
    refine ⟨_, _, _, M_exact _ _ _ _ ?_, by omega, by omega, by decide⟩
    refine nxtG_ok hK (hI _ _ _ _) ?_ ?_ <;> omega
  · skip
    refine ⟨v2, ?_⟩
    refine ⟨v3, ?_⟩
    refine ⟨v4, ?_⟩
    refine ⟨_, _, _, K_exact _ _ _ _ (anK_any (fun c n1 w1 t1 => ?_)), by omega, by omega, by decide⟩
    refine ⟨v1, ?_⟩
    refine ⟨fun e => absurd e b0, fun _ => ?_⟩
    refine ⟨v2, ?_⟩
    refine ⟨v3, ?_⟩
    refine ⟨v4, ?_⟩
    refine ⟨_, _, _, M_exact _ _ _ _ ?_, by omega, by omega, by decide⟩
    refine nxtG_ok hK (hI _ _ _ _) ?_ ?_ <;> omega
theorem c_fits (hv : hvs P i) (hI : ∀ l k f q : Int32, I (xFits l k f q x).2 (m_fits l k f q s).2) (hcb : c0 + 1000 ≤ cb) (hsb : s0 + 14000 ≤ sb) (hK : nxtG P K I i c0 s0) : G P n_K_law K 30 565 [some (.retAddr 0), some (.ref 0), some (.ref 5), some (.ref 13), some (.int i), none, none] [] (hm s x (oc n w :: t)) cb sb := by
  obtain ⟨v1, v2, v3, v4, v5⟩ := hv
  refine go ok_K_law 120 ?_
  refine ⟨v1, ?_⟩
  refine ⟨fun b0 => ?_, fun b0 => ?_⟩
  · skip
    refine ⟨v2, ?_⟩
    refine ⟨v3, ?_⟩
    refine ⟨v4, ?_⟩
    refine ⟨_, _, _, K_fits _ _ _ _ (anB_any (fun c n1 w1 t1 => ?_)), by omega, by omega, by decide⟩
    refine ⟨v1, ?_⟩
    refine ⟨fun _ => ?_, fun e => absurd b0 e⟩
    refine ⟨v2, ?_⟩
    refine ⟨v3, ?_⟩
    refine ⟨v4, ?_⟩
    refine ⟨_, _, _, M_fits _ _ _ _ ?_, by omega, by omega, by decide⟩
    refine nxtG_ok hK (hI _ _ _ _) ?_ ?_ <;> omega
  · skip
    refine ⟨v2, ?_⟩
    refine ⟨v3, ?_⟩
    refine ⟨v4, ?_⟩
    refine ⟨_, _, _, K_fits _ _ _ _ (anB_any (fun c n1 w1 t1 => ?_)), by omega, by omega, by decide⟩
    refine ⟨v1, ?_⟩
    refine ⟨fun e => absurd e b0, fun _ => ?_⟩
    refine ⟨v2, ?_⟩
    refine ⟨v3, ?_⟩
    refine ⟨v4, ?_⟩
    refine ⟨_, _, _, M_fits _ _ _ _ ?_, by omega, by omega, by decide⟩
    refine nxtG_ok hK (hI _ _ _ _) ?_ ?_ <;> omega
theorem c_alone (hv : hvs P i) (hI : ∀ l k q : Int32, I (xAlone l k q x).2 (m_alone l k q s).2) (hcb : c0 + 1000 ≤ cb) (hsb : s0 + 14000 ≤ sb) (hK : nxtG P K I i c0 s0) : G P n_K_law K 30 645 [some (.retAddr 0), some (.ref 0), some (.ref 5), some (.ref 13), some (.int i), none, none] [] (hm s x (oc n w :: t)) cb sb := by
  obtain ⟨v1, v2, v3, v4, v5⟩ := hv
  refine go ok_K_law 120 ?_
  refine ⟨v1, ?_⟩
  refine ⟨fun b0 => ?_, fun b0 => ?_⟩
  · skip
    refine ⟨v2, ?_⟩
    refine ⟨v3, ?_⟩
    refine ⟨_, _, _, K_alone _ _ _ (anK_any (fun c n1 w1 t1 => ?_)), by omega, by omega, by decide⟩
    refine ⟨v1, ?_⟩
    refine ⟨fun _ => ?_, fun e => absurd b0 e⟩
    refine ⟨v2, ?_⟩
    refine ⟨v3, ?_⟩
    refine ⟨_, _, _, M_alone _ _ _ ?_, by omega, by omega, by decide⟩
    refine nxtG_ok hK (hI _ _ _) ?_ ?_ <;> omega
  · skip
    refine ⟨v2, ?_⟩
    refine ⟨v3, ?_⟩
    refine ⟨_, _, _, K_alone _ _ _ (anK_any (fun c n1 w1 t1 => ?_)), by omega, by omega, by decide⟩
    refine ⟨v1, ?_⟩
    refine ⟨fun e => absurd e b0, fun _ => ?_⟩
    refine ⟨v2, ?_⟩
    refine ⟨v3, ?_⟩
    refine ⟨_, _, _, M_alone _ _ _ ?_, by omega, by omega, by decide⟩
    refine nxtG_ok hK (hI _ _ _) ?_ ?_ <;> omega
theorem c_timesInt (hv : hvs P i) (hI : ∀ k f : Int32, I (xTimesInt k f x).2 (m_timesInt k f s).2) (hcb : c0 + 1000 ≤ cb) (hsb : s0 + 14000 ≤ sb) (hK : nxtG P K I i c0 s0) : G P n_K_law K 30 713 [some (.retAddr 0), some (.ref 0), some (.ref 5), some (.ref 13), some (.int i), none, none] [] (hm s x (oc n w :: t)) cb sb := by
  obtain ⟨v1, v2, v3, v4, v5⟩ := hv
  refine go ok_K_law 120 ?_
  refine ⟨v1, ?_⟩
  refine ⟨v2, ?_⟩
  refine ⟨_, _, _, K_timesInt _ _ (anK_any (fun c n1 w1 t1 => ?_)), by omega, by omega, by decide⟩
  refine ⟨v1, ?_⟩
  refine ⟨v2, ?_⟩
  refine ⟨_, _, _, M_timesInt _ _ ?_, by omega, by omega, by decide⟩
  refine nxtG_ok hK (hI _ _) ?_ ?_ <;> omega
theorem c_full (hv : hvs P i) (hI : ∀ k a b : Int32, I (xFull k a b x).2 (m_full k a b s).2) (hcb : c0 + 1000 ≤ cb) (hsb : s0 + 14000 ≤ sb) (hK : nxtG P K I i c0 s0) : G P n_K_law K 30 753 [some (.retAddr 0), some (.ref 0), some (.ref 5), some (.ref 13), some (.int i), none, none] [] (hm s x (oc n w :: t)) cb sb := by
  obtain ⟨v1, v2, v3, v4, v5⟩ := hv
  refine go ok_K_law 120 ?_
  refine ⟨v1, ?_⟩
  refine ⟨v2, ?_⟩
  refine ⟨v3, ?_⟩
  refine ⟨_, _, _, K_full _ _ _ (anK_any (fun c n1 w1 t1 => ?_)), by omega, by omega, by decide⟩
  refine ⟨v1, ?_⟩
  refine ⟨v2, ?_⟩
  refine ⟨v3, ?_⟩
  refine ⟨_, _, _, M_full _ _ _ ?_, by omega, by omega, by decide⟩
  refine nxtG_ok hK (hI _ _ _) ?_ ?_ <;> omega
theorem c_high (hv : hvs P i) (hI : ∀ k a b : Int32, I (xHigh k a b x).2 (m_high k a b s).2) (hcb : c0 + 1000 ≤ cb) (hsb : s0 + 14000 ≤ sb) (hK : nxtG P K I i c0 s0) : G P n_K_law K 30 805 [some (.retAddr 0), some (.ref 0), some (.ref 5), some (.ref 13), some (.int i), none, none] [] (hm s x (oc n w :: t)) cb sb := by
  obtain ⟨v1, v2, v3, v4, v5⟩ := hv
  refine go ok_K_law 120 ?_
  refine ⟨v1, ?_⟩
  refine ⟨v2, ?_⟩
  refine ⟨v3, ?_⟩
  refine ⟨_, _, _, K_high _ _ _ (anK_any (fun c n1 w1 t1 => ?_)), by omega, by omega, by decide⟩
  refine ⟨v1, ?_⟩
  refine ⟨v2, ?_⟩
  refine ⟨v3, ?_⟩
  refine ⟨_, _, _, M_high _ _ _ ?_, by omega, by omega, by decide⟩
  refine nxtG_ok hK (hI _ _ _) ?_ ?_ <;> omega
theorem c_round (hv : hvs P i) (hI : ∀ l k f q : Int32, I (xRound l k f q x).2 (m_round l k f q s).2) (hcb : c0 + 1000 ≤ cb) (hsb : s0 + 14000 ≤ sb) (hK : nxtG P K I i c0 s0) : G P n_K_law K 30 857 [some (.retAddr 0), some (.ref 0), some (.ref 5), some (.ref 13), some (.int i), none, none] [] (hm s x (oc n w :: t)) cb sb := by
  obtain ⟨v1, v2, v3, v4, v5⟩ := hv
  refine go ok_K_law 120 ?_
  refine ⟨v1, ?_⟩
  refine ⟨fun b0 => ?_, fun b0 => ?_⟩
  · skip
    refine ⟨v2, ?_⟩
    refine ⟨v3, ?_⟩
    refine ⟨v4, ?_⟩
    refine ⟨_, _, _, K_round _ _ _ _ (anK_any (fun c n1 w1 t1 => ?_)), by omega, by omega, by decide⟩
    refine ⟨v1, ?_⟩
    refine ⟨fun _ => ?_, fun e => absurd b0 e⟩
    refine ⟨v2, ?_⟩
    refine ⟨v3, ?_⟩
    refine ⟨v4, ?_⟩
    refine ⟨_, _, _, M_round _ _ _ _ ?_, by omega, by omega, by decide⟩
    refine nxtG_ok hK (hI _ _ _ _) ?_ ?_ <;> omega
  · skip
    refine ⟨v2, ?_⟩
    refine ⟨v3, ?_⟩
    refine ⟨v4, ?_⟩
    refine ⟨_, _, _, K_round _ _ _ _ (anK_any (fun c n1 w1 t1 => ?_)), by omega, by omega, by decide⟩
    refine ⟨v1, ?_⟩
    refine ⟨fun e => absurd e b0, fun _ => ?_⟩
    refine ⟨v2, ?_⟩
    refine ⟨v3, ?_⟩
    refine ⟨v4, ?_⟩
    refine ⟨_, _, _, M_round _ _ _ _ ?_, by omega, by omega, by decide⟩
    refine nxtG_ok hK (hI _ _ _ _) ?_ ?_ <;> omega
theorem c_abs (hv : hvs P i) (hI : ∀ l k : Int32, I (xAbs l k x).2 (m_abs l k s).2) (hcb : c0 + 1000 ≤ cb) (hsb : s0 + 14000 ≤ sb) (hK : nxtG P K I i c0 s0) : G P n_K_law K 30 937 [some (.retAddr 0), some (.ref 0), some (.ref 5), some (.ref 13), some (.int i), none, none] [] (hm s x (oc n w :: t)) cb sb := by
  obtain ⟨v1, v2, v3, v4, v5⟩ := hv
  refine go ok_K_law 120 ?_
  refine ⟨v1, ?_⟩
  refine ⟨fun b0 => ?_, fun b0 => ?_⟩
  · skip
    refine ⟨v2, ?_⟩
    refine ⟨_, _, _, K_abs _ _ (anK_any (fun c n1 w1 t1 => ?_)), by omega, by omega, by decide⟩
    refine ⟨v1, ?_⟩
    refine ⟨fun _ => ?_, fun e => absurd b0 e⟩
    refine ⟨v2, ?_⟩
    refine ⟨_, _, _, M_abs _ _ ?_, by omega, by omega, by decide⟩
    refine nxtG_ok hK (hI _ _) ?_ ?_ <;> omega
  · skip
    refine ⟨v2, ?_⟩
    refine ⟨_, _, _, K_abs _ _ (anK_any (fun c n1 w1 t1 => ?_)), by omega, by omega, by decide⟩
    refine ⟨v1, ?_⟩
    refine ⟨fun e => absurd e b0, fun _ => ?_⟩
    refine ⟨v2, ?_⟩
    refine ⟨_, _, _, M_abs _ _ ?_, by omega, by omega, by decide⟩
    refine nxtG_ok hK (hI _ _) ?_ ?_ <;> omega
theorem c_extreme (hv : hvs P i) (hI : ∀ l k f g : Int32, I (xExtreme l k f g x).2 (m_extreme l k f g s).2) (hcb : c0 + 1000 ≤ cb) (hsb : s0 + 14000 ≤ sb) (hK : nxtG P K I i c0 s0) : G P n_K_law K 30 993 [some (.retAddr 0), some (.ref 0), some (.ref 5), some (.ref 13), some (.int i), none, none] [] (hm s x (oc n w :: t)) cb sb := by
  obtain ⟨v1, v2, v3, v4, v5⟩ := hv
  refine go ok_K_law 120 ?_
  refine ⟨v1, ?_⟩
  refine ⟨fun b0 => ?_, fun b0 => ?_⟩
  · skip
    refine ⟨v2, ?_⟩
    refine ⟨v3, ?_⟩
    refine ⟨v4, ?_⟩
    refine ⟨fun b3 => ?_, fun b3 => ?_⟩
    · skip
      refine ⟨_, _, _, K_extreme _ _ _ _ (anK_any (fun c n1 w1 t1 => ?_)), by omega, by omega, by decide⟩
      refine ⟨v1, ?_⟩
      refine ⟨fun _ => ?_, fun e => absurd b0 e⟩
      refine ⟨v2, ?_⟩
      refine ⟨v3, ?_⟩
      refine ⟨v4, ?_⟩
      refine ⟨fun _ => ?_, fun e => absurd b3 e⟩
      refine ⟨_, _, _, M_extreme _ _ _ _ ?_, by omega, by omega, by decide⟩
      refine nxtG_ok hK (hI _ _ _ _) ?_ ?_ <;> omega
    · skip
      refine ⟨_, _, _, K_extreme _ _ _ _ (anK_any (fun c n1 w1 t1 => ?_)), by omega, by omega, by decide⟩
      refine ⟨v1, ?_⟩
      refine ⟨fun _ => ?_, fun e => absurd b0 e⟩
      refine ⟨v2, ?_⟩
      refine ⟨v3, ?_⟩
      refine ⟨v4, ?_⟩
      refine ⟨fun e => absurd e b3, fun _ => ?_⟩
      refine ⟨_, _, _, M_extreme _ _ _ _ ?_, by omega, by omega, by decide⟩
      refine nxtG_ok hK (hI _ _ _ _) ?_ ?_ <;> omega
  · skip
    refine ⟨v2, ?_⟩
    refine ⟨v3, ?_⟩
    refine ⟨v4, ?_⟩
    refine ⟨fun b3 => ?_, fun b3 => ?_⟩
    · skip
      refine ⟨_, _, _, K_extreme _ _ _ _ (anK_any (fun c n1 w1 t1 => ?_)), by omega, by omega, by decide⟩
      refine ⟨v1, ?_⟩
      refine ⟨fun e => absurd e b0, fun _ => ?_⟩
      refine ⟨v2, ?_⟩
      refine ⟨v3, ?_⟩
      refine ⟨v4, ?_⟩
      refine ⟨fun _ => ?_, fun e => absurd b3 e⟩
      refine ⟨_, _, _, M_extreme _ _ _ _ ?_, by omega, by omega, by decide⟩
      refine nxtG_ok hK (hI _ _ _ _) ?_ ?_ <;> omega
    · skip
      refine ⟨_, _, _, K_extreme _ _ _ _ (anK_any (fun c n1 w1 t1 => ?_)), by omega, by omega, by decide⟩
      refine ⟨v1, ?_⟩
      refine ⟨fun e => absurd e b0, fun _ => ?_⟩
      refine ⟨v2, ?_⟩
      refine ⟨v3, ?_⟩
      refine ⟨v4, ?_⟩
      refine ⟨fun e => absurd e b3, fun _ => ?_⟩
      refine ⟨_, _, _, M_extreme _ _ _ _ ?_, by omega, by omega, by decide⟩
      refine nxtG_ok hK (hI _ _ _ _) ?_ ?_ <;> omega
theorem c_floor (hv : hvs P i) (hI : ∀ l k f r : Int32, I (xFloor l k f r x).2 (m_floor l k f r s).2) (hcb : c0 + 1000 ≤ cb) (hsb : s0 + 14000 ≤ sb) (hK : nxtG P K I i c0 s0) : G P n_K_law K 30 1089 [some (.retAddr 0), some (.ref 0), some (.ref 5), some (.ref 13), some (.int i), none, none] [] (hm s x (oc n w :: t)) cb sb := by
  obtain ⟨v1, v2, v3, v4, v5⟩ := hv
  refine go ok_K_law 120 ?_
  refine ⟨v1, ?_⟩
  refine ⟨fun b0 => ?_, fun b0 => ?_⟩
  · skip
    refine ⟨v2, ?_⟩
    refine ⟨v3, ?_⟩
    refine ⟨v4, ?_⟩
    refine ⟨fun b3 => ?_, fun b3 => ?_⟩
    · skip
      refine ⟨_, _, _, K_floor _ _ _ _ (anK_any (fun c n1 w1 t1 => ?_)), by omega, by omega, by decide⟩
      refine ⟨v1, ?_⟩
      refine ⟨fun _ => ?_, fun e => absurd b0 e⟩
      refine ⟨v2, ?_⟩
      refine ⟨v3, ?_⟩
      refine ⟨v4, ?_⟩
      refine ⟨fun _ => ?_, fun e => absurd b3 e⟩
      refine ⟨_, _, _, M_floor _ _ _ _ ?_, by omega, by omega, by decide⟩
      refine nxtG_ok hK (hI _ _ _ _) ?_ ?_ <;> omega
    · skip
      refine ⟨_, _, _, K_floor _ _ _ _ (anK_any (fun c n1 w1 t1 => ?_)), by omega, by omega, by decide⟩
      refine ⟨v1, ?_⟩
      refine ⟨fun _ => ?_, fun e => absurd b0 e⟩
      refine ⟨v2, ?_⟩
      refine ⟨v3, ?_⟩
      refine ⟨v4, ?_⟩
      refine ⟨fun e => absurd e b3, fun _ => ?_⟩
      refine ⟨_, _, _, M_floor _ _ _ _ ?_, by omega, by omega, by decide⟩
      refine nxtG_ok hK (hI _ _ _ _) ?_ ?_ <;> omega
  · skip
    refine ⟨v2, ?_⟩
    refine ⟨v3, ?_⟩
    refine ⟨v4, ?_⟩
    refine ⟨fun b3 => ?_, fun b3 => ?_⟩
    · skip
      refine ⟨_, _, _, K_floor _ _ _ _ (anK_any (fun c n1 w1 t1 => ?_)), by omega, by omega, by decide⟩
      refine ⟨v1, ?_⟩
      refine ⟨fun e => absurd e b0, fun _ => ?_⟩
      refine ⟨v2, ?_⟩
      refine ⟨v3, ?_⟩
      refine ⟨v4, ?_⟩
      refine ⟨fun _ => ?_, fun e => absurd b3 e⟩
      refine ⟨_, _, _, M_floor _ _ _ _ ?_, by omega, by omega, by decide⟩
      refine nxtG_ok hK (hI _ _ _ _) ?_ ?_ <;> omega
    · skip
      refine ⟨_, _, _, K_floor _ _ _ _ (anK_any (fun c n1 w1 t1 => ?_)), by omega, by omega, by decide⟩
      refine ⟨v1, ?_⟩
      refine ⟨fun e => absurd e b0, fun _ => ?_⟩
      refine ⟨v2, ?_⟩
      refine ⟨v3, ?_⟩
      refine ⟨v4, ?_⟩
      refine ⟨fun e => absurd e b3, fun _ => ?_⟩
      refine ⟨_, _, _, M_floor _ _ _ _ ?_, by omega, by omega, by decide⟩
      refine nxtG_ok hK (hI _ _ _ _) ?_ ?_ <;> omega
theorem c_floorInt (hv : hvs P i) (hI : ∀ k f r : Int32, I (xFloorInt k f r x).2 (m_floorInt k f r s).2) (hcb : c0 + 1000 ≤ cb) (hsb : s0 + 14000 ≤ sb) (hK : nxtG P K I i c0 s0) : G P n_K_law K 30 1185 [some (.retAddr 0), some (.ref 0), some (.ref 5), some (.ref 13), some (.int i), none, none] [] (hm s x (oc n w :: t)) cb sb := by
  obtain ⟨v1, v2, v3, v4, v5⟩ := hv
  refine go ok_K_law 120 ?_
  refine ⟨v1, ?_⟩
  refine ⟨v2, ?_⟩
  refine ⟨v3, ?_⟩
  refine ⟨fun b2 => ?_, fun b2 => ?_⟩
  · skip
    refine ⟨_, _, _, K_floorInt _ _ _ (anK_any (fun c n1 w1 t1 => ?_)), by omega, by omega, by decide⟩
    refine ⟨v1, ?_⟩
    refine ⟨v2, ?_⟩
    refine ⟨v3, ?_⟩
    refine ⟨fun _ => ?_, fun e => absurd b2 e⟩
    refine ⟨_, _, _, M_floorInt _ _ _ ?_, by omega, by omega, by decide⟩
    refine nxtG_ok hK (hI _ _ _) ?_ ?_ <;> omega
  · skip
    refine ⟨_, _, _, K_floorInt _ _ _ (anK_any (fun c n1 w1 t1 => ?_)), by omega, by omega, by decide⟩
    refine ⟨v1, ?_⟩
    refine ⟨v2, ?_⟩
    refine ⟨v3, ?_⟩
    refine ⟨fun e => absurd e b2, fun _ => ?_⟩
    refine ⟨_, _, _, M_floorInt _ _ _ ?_, by omega, by omega, by decide⟩
    refine nxtG_ok hK (hI _ _ _) ?_ ?_ <;> omega
theorem c_towards (hv : hvs P i) (hI : ∀ l k f r : Int32, I (xTowards l k f r x).2 (m_towards l k f r s).2) (hcb : c0 + 1000 ≤ cb) (hsb : s0 + 14000 ≤ sb) (hK : nxtG P K I i c0 s0) : G P n_K_law K 30 1253 [some (.retAddr 0), some (.ref 0), some (.ref 5), some (.ref 13), some (.int i), none, none] [] (hm s x (oc n w :: t)) cb sb := by
  obtain ⟨v1, v2, v3, v4, v5⟩ := hv
  refine go ok_K_law 120 ?_
  refine ⟨v1, ?_⟩
  refine ⟨fun b0 => ?_, fun b0 => ?_⟩
  · skip
    refine ⟨v2, ?_⟩
    refine ⟨v3, ?_⟩
    refine ⟨v4, ?_⟩
    refine ⟨fun b3 => ?_, fun b3 => ?_⟩
    · skip
      refine ⟨_, _, _, K_towards _ _ _ _ (anK_any (fun c n1 w1 t1 => ?_)), by omega, by omega, by decide⟩
      refine ⟨v1, ?_⟩
      refine ⟨fun _ => ?_, fun e => absurd b0 e⟩
      refine ⟨v2, ?_⟩
      refine ⟨v3, ?_⟩
      refine ⟨v4, ?_⟩
      refine ⟨fun _ => ?_, fun e => absurd b3 e⟩
      refine ⟨_, _, _, M_towards _ _ _ _ ?_, by omega, by omega, by decide⟩
      refine nxtG_ok hK (hI _ _ _ _) ?_ ?_ <;> omega
    · skip
      refine ⟨_, _, _, K_towards _ _ _ _ (anK_any (fun c n1 w1 t1 => ?_)), by omega, by omega, by decide⟩
      refine ⟨v1, ?_⟩
      refine ⟨fun _ => ?_, fun e => absurd b0 e⟩
      refine ⟨v2, ?_⟩
      refine ⟨v3, ?_⟩
      refine ⟨v4, ?_⟩
      refine ⟨fun e => absurd e b3, fun _ => ?_⟩
      refine ⟨_, _, _, M_towards _ _ _ _ ?_, by omega, by omega, by decide⟩
      refine nxtG_ok hK (hI _ _ _ _) ?_ ?_ <;> omega
  · skip
    refine ⟨v2, ?_⟩
    refine ⟨v3, ?_⟩
    refine ⟨v4, ?_⟩
    refine ⟨fun b3 => ?_, fun b3 => ?_⟩
    · skip
      refine ⟨_, _, _, K_towards _ _ _ _ (anK_any (fun c n1 w1 t1 => ?_)), by omega, by omega, by decide⟩
      refine ⟨v1, ?_⟩
      refine ⟨fun e => absurd e b0, fun _ => ?_⟩
      refine ⟨v2, ?_⟩
      refine ⟨v3, ?_⟩
      refine ⟨v4, ?_⟩
      refine ⟨fun _ => ?_, fun e => absurd b3 e⟩
      refine ⟨_, _, _, M_towards _ _ _ _ ?_, by omega, by omega, by decide⟩
      refine nxtG_ok hK (hI _ _ _ _) ?_ ?_ <;> omega
    · skip
      refine ⟨_, _, _, K_towards _ _ _ _ (anK_any (fun c n1 w1 t1 => ?_)), by omega, by omega, by decide⟩
      refine ⟨v1, ?_⟩
      refine ⟨fun e => absurd e b0, fun _ => ?_⟩
      refine ⟨v2, ?_⟩
      refine ⟨v3, ?_⟩
      refine ⟨v4, ?_⟩
      refine ⟨fun e => absurd e b3, fun _ => ?_⟩
      refine ⟨_, _, _, M_towards _ _ _ _ ?_, by omega, by omega, by decide⟩
      refine nxtG_ok hK (hI _ _ _ _) ?_ ?_ <;> omega
theorem c_average (hv : hvs P i) (hI : ∀ l k f u : Int32, I (xAverage l k f u x).2 (m_average l k f u s).2) (hcb : c0 + 1000 ≤ cb) (hsb : s0 + 14000 ≤ sb) (hK : nxtG P K I i c0 s0) : G P n_K_law K 30 1349 [some (.retAddr 0), some (.ref 0), some (.ref 5), some (.ref 13), some (.int i), none, none] [] (hm s x (oc n w :: t)) cb sb := by
  obtain ⟨v1, v2, v3, v4, v5⟩ := hv
  refine go ok_K_law 120 ?_
  refine ⟨v1, ?_⟩
  refine ⟨fun b0 => ?_, fun b0 => ?_⟩
  · skip
    refine ⟨v2, ?_⟩
    refine ⟨v3, ?_⟩
    refine ⟨v4, ?_⟩
    refine ⟨fun b3 => ?_, fun b3 => ?_⟩
    · skip
      refine ⟨_, _, _, K_average _ _ _ _ (anK_any (fun c n1 w1 t1 => ?_)), by omega, by omega, by decide⟩
      refine ⟨v1, ?_⟩
      refine ⟨fun _ => ?_, fun e => absurd b0 e⟩
      refine ⟨v2, ?_⟩
      refine ⟨v3, ?_⟩
      refine ⟨v4, ?_⟩
      refine ⟨fun _ => ?_, fun e => absurd b3 e⟩
      refine ⟨_, _, _, M_average _ _ _ _ ?_, by omega, by omega, by decide⟩
      refine nxtG_ok hK (hI _ _ _ _) ?_ ?_ <;> omega
    · skip
      refine ⟨_, _, _, K_average _ _ _ _ (anK_any (fun c n1 w1 t1 => ?_)), by omega, by omega, by decide⟩
      refine ⟨v1, ?_⟩
      refine ⟨fun _ => ?_, fun e => absurd b0 e⟩
      refine ⟨v2, ?_⟩
      refine ⟨v3, ?_⟩
      refine ⟨v4, ?_⟩
      refine ⟨fun e => absurd e b3, fun _ => ?_⟩
      refine ⟨_, _, _, M_average _ _ _ _ ?_, by omega, by omega, by decide⟩
      refine nxtG_ok hK (hI _ _ _ _) ?_ ?_ <;> omega
  · skip
    refine ⟨v2, ?_⟩
    refine ⟨v3, ?_⟩
    refine ⟨v4, ?_⟩
    refine ⟨fun b3 => ?_, fun b3 => ?_⟩
    · skip
      refine ⟨_, _, _, K_average _ _ _ _ (anK_any (fun c n1 w1 t1 => ?_)), by omega, by omega, by decide⟩
      refine ⟨v1, ?_⟩
      refine ⟨fun e => absurd e b0, fun _ => ?_⟩
      refine ⟨v2, ?_⟩
      refine ⟨v3, ?_⟩
      refine ⟨v4, ?_⟩
      refine ⟨fun _ => ?_, fun e => absurd b3 e⟩
      refine ⟨_, _, _, M_average _ _ _ _ ?_, by omega, by omega, by decide⟩
      refine nxtG_ok hK (hI _ _ _ _) ?_ ?_ <;> omega
    · skip
      refine ⟨_, _, _, K_average _ _ _ _ (anK_any (fun c n1 w1 t1 => ?_)), by omega, by omega, by decide⟩
      refine ⟨v1, ?_⟩
      refine ⟨fun e => absurd e b0, fun _ => ?_⟩
      refine ⟨v2, ?_⟩
      refine ⟨v3, ?_⟩
      refine ⟨v4, ?_⟩
      refine ⟨fun e => absurd e b3, fun _ => ?_⟩
      refine ⟨_, _, _, M_average _ _ _ _ ?_, by omega, by omega, by decide⟩
      refine nxtG_ok hK (hI _ _ _ _) ?_ ?_ <;> omega
theorem c_chain (hv : hvs P i) (hI : ∀ k a b c : Int32, I (xChain k a b c x).2 (m_chain k a b c s).2) (hcb : c0 + 1000 ≤ cb) (hsb : s0 + 14000 ≤ sb) (hK : nxtG P K I i c0 s0) : G P n_K_law K 30 1445 [some (.retAddr 0), some (.ref 0), some (.ref 5), some (.ref 13), some (.int i), none, none] [] (hm s x (oc n w :: t)) cb sb := by
  obtain ⟨v1, v2, v3, v4, v5⟩ := hv
  refine go ok_K_law 120 ?_
  refine ⟨v1, ?_⟩
  refine ⟨v2, ?_⟩
  refine ⟨v3, ?_⟩
  refine ⟨v4, ?_⟩
  refine ⟨_, _, _, K_chain _ _ _ _ (anK_any (fun c n1 w1 t1 => ?_)), by omega, by omega, by decide⟩
  refine ⟨v1, ?_⟩
  refine ⟨v2, ?_⟩
  refine ⟨v3, ?_⟩
  refine ⟨v4, ?_⟩
  refine ⟨_, _, _, M_chain _ _ _ _ ?_, by omega, by omega, by decide⟩
  refine nxtG_ok hK (hI _ _ _ _) ?_ ?_ <;> omega
theorem c_atOnce (hv : hvs P i) (hI : ∀ k a b c : Int32, I (xAtOnce k a b c x).2 (m_atOnce k a b c s).2) (hcb : c0 + 1000 ≤ cb) (hsb : s0 + 14000 ≤ sb) (hK : nxtG P K I i c0 s0) : G P n_K_law K 30 1509 [some (.retAddr 0), some (.ref 0), some (.ref 5), some (.ref 13), some (.int i), none, none] [] (hm s x (oc n w :: t)) cb sb := by
  obtain ⟨v1, v2, v3, v4, v5⟩ := hv
  refine go ok_K_law 120 ?_
  refine ⟨v1, ?_⟩
  refine ⟨v2, ?_⟩
  refine ⟨v3, ?_⟩
  refine ⟨v4, ?_⟩
  refine ⟨_, _, _, K_atOnce _ _ _ _ (anK_any (fun c n1 w1 t1 => ?_)), by omega, by omega, by decide⟩
  refine ⟨v1, ?_⟩
  refine ⟨v2, ?_⟩
  refine ⟨v3, ?_⟩
  refine ⟨v4, ?_⟩
  refine ⟨_, _, _, M_atOnce _ _ _ _ ?_, by omega, by omega, by decide⟩
  refine nxtG_ok hK (hI _ _ _ _) ?_ ?_ <;> omega
theorem c_distance (hv : hvs P i) (hI : ∀ l a b : Int32, I (xDistance l a b x).2 (m_distance a b s)) (hcb : c0 + 1000 ≤ cb) (hsb : s0 + 14000 ≤ sb) (hK : nxtG P K I i c0 s0) : G P n_K_law K 30 1573 [some (.retAddr 0), some (.ref 0), some (.ref 5), some (.ref 13), some (.int i), none, none] [] (hm s x (oc n w :: t)) cb sb := by
  obtain ⟨v1, v2, v3, v4, v5⟩ := hv
  refine go ok_K_law 120 ?_
  refine ⟨v1, ?_⟩
  refine ⟨fun b0 => ?_, fun b0 => ?_⟩
  · skip
    refine ⟨v2, ?_⟩
    refine ⟨v3, ?_⟩
    refine ⟨_, _, _, K_distance _ _ _ (anS_any (fun c n1 w1 t1 => ?_)), by omega, by omega, by decide⟩
    refine ⟨v1, ?_⟩
    refine ⟨fun _ => ?_, fun e => absurd b0 e⟩
    refine ⟨v2, ?_⟩
    refine ⟨v3, ?_⟩
    refine ⟨_, _, _, M_distance _ _ _ ⟨?_, fun l9 r9 => ?_⟩, by omega, by omega, by decide⟩
    · refine nxtG_ok hK (hI _ _ _) ?_ ?_ <;> omega
    · refine nxtG_ok hK (hI _ _ _) ?_ ?_ <;> omega
  · skip
    refine ⟨v2, ?_⟩
    refine ⟨v3, ?_⟩
    refine ⟨_, _, _, K_distance _ _ _ (anS_any (fun c n1 w1 t1 => ?_)), by omega, by omega, by decide⟩
    refine ⟨v1, ?_⟩
    refine ⟨fun e => absurd e b0, fun _ => ?_⟩
    refine ⟨v2, ?_⟩
    refine ⟨v3, ?_⟩
    refine ⟨_, _, _, M_distance _ _ _ ⟨?_, fun l9 r9 => ?_⟩, by omega, by omega, by decide⟩
    · refine nxtG_ok hK (hI _ _ _) ?_ ?_ <;> omega
    · refine nxtG_ok hK (hI _ _ _) ?_ ?_ <;> omega
theorem c_compare (hv : hvs P i) (hI : ∀ l k f : Int32, I (xCompare l k f x).2 (m_compare l k f s).2) (hcb : c0 + 1000 ≤ cb) (hsb : s0 + 14000 ≤ sb) (hK : nxtG P K I i c0 s0) : G P n_K_law K 30 1641 [some (.retAddr 0), some (.ref 0), some (.ref 5), some (.ref 13), some (.int i), none, none] [] (hm s x (oc n w :: t)) cb sb := by
  obtain ⟨v1, v2, v3, v4, v5⟩ := hv
  refine go ok_K_law 120 ?_
  refine ⟨v1, ?_⟩
  refine ⟨fun b0 => ?_, fun b0 => ?_⟩
  · skip
    refine ⟨v2, ?_⟩
    refine ⟨v3, ?_⟩
    refine ⟨_, _, _, K_compare _ _ _ (anK_any (fun c n1 w1 t1 => ?_)), by omega, by omega, by decide⟩
    refine ⟨v1, ?_⟩
    refine ⟨fun _ => ?_, fun e => absurd b0 e⟩
    refine ⟨v2, ?_⟩
    refine ⟨v3, ?_⟩
    refine ⟨_, _, _, M_compare _ _ _ ?_, by omega, by omega, by decide⟩
    refine nxtG_ok hK (hI _ _ _) ?_ ?_ <;> omega
  · skip
    refine ⟨v2, ?_⟩
    refine ⟨v3, ?_⟩
    refine ⟨_, _, _, K_compare _ _ _ (anK_any (fun c n1 w1 t1 => ?_)), by omega, by omega, by decide⟩
    refine ⟨v1, ?_⟩
    refine ⟨fun e => absurd e b0, fun _ => ?_⟩
    refine ⟨v2, ?_⟩
    refine ⟨v3, ?_⟩
    refine ⟨_, _, _, M_compare _ _ _ ?_, by omega, by omega, by decide⟩
    refine nxtG_ok hK (hI _ _ _) ?_ ?_ <;> omega
theorem c_text (hv : hvs P i) (hI : ∀ l k : Int32, I (xText l k x).2 (m_text k s)) (hcb : c0 + 1000 ≤ cb) (hsb : s0 + 14000 ≤ sb) (hK : nxtG P K I i c0 s0) : G P n_K_law K 30 1709 [some (.retAddr 0), some (.ref 0), some (.ref 5), some (.ref 13), some (.int i), none, none] [] (hm s x (oc n w :: t)) cb sb := by
  obtain ⟨v1, v2, v3, v4, v5⟩ := hv
  refine go ok_K_law 120 ?_
  refine ⟨v1, ?_⟩
  refine ⟨fun b0 => ?_, fun b0 => ?_⟩
  · skip
    refine ⟨v2, ?_⟩
    refine ⟨_, _, _, K_text _ _ (anS_any (fun c n1 w1 t1 => ?_)), by omega, by omega, by decide⟩
    refine ⟨v1, ?_⟩
    refine ⟨fun _ => ?_, fun e => absurd b0 e⟩
    refine ⟨v2, ?_⟩
    refine ⟨_, _, _, M_text _ _ ⟨?_, fun l9 r9 => ?_⟩, by omega, by omega, by decide⟩
    · refine nxtG_ok hK (hI _ _) ?_ ?_ <;> omega
    · refine nxtG_ok hK (hI _ _) ?_ ?_ <;> omega
  · skip
    refine ⟨v2, ?_⟩
    refine ⟨_, _, _, K_text _ _ (anS_any (fun c n1 w1 t1 => ?_)), by omega, by omega, by decide⟩
    refine ⟨v1, ?_⟩
    refine ⟨fun e => absurd e b0, fun _ => ?_⟩
    refine ⟨v2, ?_⟩
    refine ⟨_, _, _, M_text _ _ ⟨?_, fun l9 r9 => ?_⟩, by omega, by omega, by decide⟩
    · refine nxtG_ok hK (hI _ _) ?_ ?_ <;> omega
    · refine nxtG_ok hK (hI _ _) ?_ ?_ <;> omega
theorem c_ofNumber (hv : hvs P i) (hI : ∀ l k q : Int32, I (xOfNumber l k q x).2 (m_ofNumber l k q s).2) (hcb : c0 + 1000 ≤ cb) (hsb : s0 + 14000 ≤ sb) (hK : nxtG P K I i c0 s0) : G P n_K_law K 30 1765 [some (.retAddr 0), some (.ref 0), some (.ref 5), some (.ref 13), some (.int i), none, none] [] (hm s x (oc n w :: t)) cb sb := by
  obtain ⟨v1, v2, v3, v4, v5⟩ := hv
  refine go ok_K_law 120 ?_
  refine ⟨v1, ?_⟩
  refine ⟨fun b0 => ?_, fun b0 => ?_⟩
  · skip
    refine ⟨v2, ?_⟩
    refine ⟨v3, ?_⟩
    refine ⟨_, _, _, K_ofNumber _ _ _ (anK_any (fun c n1 w1 t1 => ?_)), by omega, by omega, by decide⟩
    refine ⟨v1, ?_⟩
    refine ⟨fun _ => ?_, fun e => absurd b0 e⟩
    refine ⟨v2, ?_⟩
    refine ⟨v3, ?_⟩
    refine ⟨_, _, _, M_ofNumber _ _ _ (fun t9 => ?_), by omega, by omega, by decide⟩
    refine nxtG_ok hK (hI _ _ _) ?_ ?_ <;> omega
  · skip
    refine ⟨v2, ?_⟩
    refine ⟨v3, ?_⟩
    refine ⟨_, _, _, K_ofNumber _ _ _ (anK_any (fun c n1 w1 t1 => ?_)), by omega, by omega, by decide⟩
    refine ⟨v1, ?_⟩
    refine ⟨fun e => absurd e b0, fun _ => ?_⟩
    refine ⟨v2, ?_⟩
    refine ⟨v3, ?_⟩
    refine ⟨_, _, _, M_ofNumber _ _ _ (fun t9 => ?_), by omega, by omega, by decide⟩
    refine nxtG_ok hK (hI _ _ _) ?_ ?_ <;> omega
theorem c_rest (hv : hvs P i) (hI : ∀ l k m : Int32, I (xRest l k m x).2 (m_rest l k m s).2) (hcb : c0 + 1000 ≤ cb) (hsb : s0 + 14000 ≤ sb) (hK : nxtG P K I i c0 s0) : G P n_K_law K 30 1833 [some (.retAddr 0), some (.ref 0), some (.ref 5), some (.ref 13), some (.int i), none, none] [] (hm s x (oc n w :: t)) cb sb := by
  obtain ⟨v1, v2, v3, v4, v5⟩ := hv
  refine go ok_K_law 120 ?_
  refine ⟨v1, ?_⟩
  refine ⟨fun b0 => ?_, fun b0 => ?_⟩
  · skip
    refine ⟨v2, ?_⟩
    refine ⟨v3, ?_⟩
    refine ⟨_, _, _, K_rest _ _ _ (anK_any (fun c n1 w1 t1 => ?_)), by omega, by omega, by decide⟩
    refine ⟨v1, ?_⟩
    refine ⟨fun _ => ?_, fun e => absurd b0 e⟩
    refine ⟨v2, ?_⟩
    refine ⟨v3, ?_⟩
    refine ⟨_, _, _, M_rest _ _ _ ?_, by omega, by omega, by decide⟩
    refine nxtG_ok hK (hI _ _ _) ?_ ?_ <;> omega
  · skip
    refine ⟨v2, ?_⟩
    refine ⟨v3, ?_⟩
    refine ⟨_, _, _, K_rest _ _ _ (anK_any (fun c n1 w1 t1 => ?_)), by omega, by omega, by decide⟩
    refine ⟨v1, ?_⟩
    refine ⟨fun e => absurd e b0, fun _ => ?_⟩
    refine ⟨v2, ?_⟩
    refine ⟨v3, ?_⟩
    refine ⟨_, _, _, M_rest _ _ _ ?_, by omega, by omega, by decide⟩
    refine nxtG_ok hK (hI _ _ _) ?_ ?_ <;> omega
theorem c_quotient (hv : hvs P i) (hI : ∀ l k m : Int32, I (xQuotient l k m x).2 (m_quotient k m s)) (hcb : c0 + 1000 ≤ cb) (hsb : s0 + 14000 ≤ sb) (hK : nxtG P K I i c0 s0) : G P n_K_law K 30 1901 [some (.retAddr 0), some (.ref 0), some (.ref 5), some (.ref 13), some (.int i), none, none] [] (hm s x (oc n w :: t)) cb sb := by
  obtain ⟨v1, v2, v3, v4, v5⟩ := hv
  refine go ok_K_law 120 ?_
  refine ⟨v1, ?_⟩
  refine ⟨fun b0 => ?_, fun b0 => ?_⟩
  · skip
    refine ⟨v2, ?_⟩
    refine ⟨v3, ?_⟩
    refine ⟨_, _, _, K_quotient _ _ _ (anS_any (fun c n1 w1 t1 => ?_)), by omega, by omega, by decide⟩
    refine ⟨v1, ?_⟩
    refine ⟨fun _ => ?_, fun e => absurd b0 e⟩
    refine ⟨v2, ?_⟩
    refine ⟨v3, ?_⟩
    refine ⟨_, _, _, M_quotient _ _ _ ⟨?_, fun l9 r9 => ?_⟩, by omega, by omega, by decide⟩
    · refine nxtG_ok hK (hI _ _ _) ?_ ?_ <;> omega
    · refine nxtG_ok hK (hI _ _ _) ?_ ?_ <;> omega
  · skip
    refine ⟨v2, ?_⟩
    refine ⟨v3, ?_⟩
    refine ⟨_, _, _, K_quotient _ _ _ (anS_any (fun c n1 w1 t1 => ?_)), by omega, by omega, by decide⟩
    refine ⟨v1, ?_⟩
    refine ⟨fun e => absurd e b0, fun _ => ?_⟩
    refine ⟨v2, ?_⟩
    refine ⟨v3, ?_⟩
    refine ⟨_, _, _, M_quotient _ _ _ ⟨?_, fun l9 r9 => ?_⟩, by omega, by omega, by decide⟩
    · refine nxtG_ok hK (hI _ _ _) ?_ ?_ <;> omega
    · refine nxtG_ok hK (hI _ _ _) ?_ ?_ <;> omega
theorem c_modulus (hv : hvs P i) (hI : ∀ r m : Int32, I (xModulus r m x).2 (m_modulus r m s).2) (hcb : c0 + 1000 ≤ cb) (hsb : s0 + 14000 ≤ sb) (hK : nxtG P K I i c0 s0) : G P n_K_law K 30 1969 [some (.retAddr 0), some (.ref 0), some (.ref 5), some (.ref 13), some (.int i), none, none] [] (hm s x (oc n w :: t)) cb sb := by
  obtain ⟨v1, v2, v3, v4, v5⟩ := hv
  refine go ok_K_law 120 ?_
  refine ⟨v1, ?_⟩
  refine ⟨v2, ?_⟩
  refine ⟨_, _, _, K_modulus _ _ (anK_any (fun c n1 w1 t1 => ?_)), by omega, by omega, by decide⟩
  refine ⟨v1, ?_⟩
  refine ⟨v2, ?_⟩
  refine ⟨_, _, _, M_modulus _ _ ?_, by omega, by omega, by decide⟩
  refine nxtG_ok hK (hI _ _) ?_ ?_ <;> omega
theorem c_bring (hv : hvs P i) (hz : ∀ r, ¬ mMod r s = 0) (hI : ∀ r k l f : Int32, I (xBring r k l f x).2 (m_bring r k l f s).2) (hcb : c0 + 1000 ≤ cb) (hsb : s0 + 14000 ≤ sb) (hK : nxtG P K I i c0 s0) : G P n_K_law K 30 2009 [some (.retAddr 0), some (.ref 0), some (.ref 5), some (.ref 13), some (.int i), none, none] [] (hm s x (oc n w :: t)) cb sb := by
  have hz64 := fun r => nz64 (hz r)
  obtain ⟨v1, v2, v3, v4, v5⟩ := hv
  refine go ok_K_law 120 ?_
  refine ⟨v1, ?_⟩
  refine ⟨v2, ?_⟩
  refine ⟨v3, ?_⟩
  refine ⟨fun b2 => ?_, fun b2 => ?_⟩
  · skip
    refine ⟨v4, ?_⟩
    refine ⟨_, _, _, K_bring _ _ _ _ (anK_any (fun c n1 w1 t1 => ?_)), by omega, by omega, by decide⟩
    refine ⟨v1, ?_⟩
    refine ⟨v2, ?_⟩
    refine ⟨v3, ?_⟩
    refine ⟨fun _ => ?_, fun e => absurd b2 e⟩
    refine ⟨v4, ?_⟩
    refine ⟨_, _, _, M_bring _ _ _ _ (hz64 _) ?_, by omega, by omega, by decide⟩
    refine nxtG_ok hK (hI _ _ _ _) ?_ ?_ <;> omega
  · skip
    refine ⟨v4, ?_⟩
    refine ⟨_, _, _, K_bring _ _ _ _ (anK_any (fun c n1 w1 t1 => ?_)), by omega, by omega, by decide⟩
    refine ⟨v1, ?_⟩
    refine ⟨v2, ?_⟩
    refine ⟨v3, ?_⟩
    refine ⟨fun e => absurd e b2, fun _ => ?_⟩
    refine ⟨v4, ?_⟩
    refine ⟨_, _, _, M_bring _ _ _ _ (hz64 _) ?_, by omega, by omega, by decide⟩
    refine nxtG_ok hK (hI _ _ _ _) ?_ ?_ <;> omega
theorem c_lift (hv : hvs P i) (hI : ∀ r i l k : Int32, I (xLift r i l k x).2 (m_lift r i l k s).2) (hcb : c0 + 1000 ≤ cb) (hsb : s0 + 14000 ≤ sb) (hK : nxtG P K I i c0 s0) : G P n_K_law K 30 2089 [some (.retAddr 0), some (.ref 0), some (.ref 5), some (.ref 13), some (.int i), none, none] [] (hm s x (oc n w :: t)) cb sb := by
  obtain ⟨v1, v2, v3, v4, v5⟩ := hv
  refine go ok_K_law 120 ?_
  refine ⟨v1, ?_⟩
  refine ⟨v2, ?_⟩
  refine ⟨v3, ?_⟩
  refine ⟨fun b2 => ?_, fun b2 => ?_⟩
  · skip
    refine ⟨v4, ?_⟩
    refine ⟨_, _, _, K_lift _ _ _ _ (anK_any (fun c n1 w1 t1 => ?_)), by omega, by omega, by decide⟩
    refine ⟨v1, ?_⟩
    refine ⟨v2, ?_⟩
    refine ⟨v3, ?_⟩
    refine ⟨fun _ => ?_, fun e => absurd b2 e⟩
    refine ⟨v4, ?_⟩
    refine ⟨_, _, _, M_lift _ _ _ _ ?_, by omega, by omega, by decide⟩
    refine nxtG_ok hK (hI _ _ _ _) ?_ ?_ <;> omega
  · skip
    refine ⟨v4, ?_⟩
    refine ⟨_, _, _, K_lift _ _ _ _ (anK_any (fun c n1 w1 t1 => ?_)), by omega, by omega, by decide⟩
    refine ⟨v1, ?_⟩
    refine ⟨v2, ?_⟩
    refine ⟨v3, ?_⟩
    refine ⟨fun e => absurd e b2, fun _ => ?_⟩
    refine ⟨v4, ?_⟩
    refine ⟨_, _, _, M_lift _ _ _ _ ?_, by omega, by omega, by decide⟩
    refine nxtG_ok hK (hI _ _ _ _) ?_ ?_ <;> omega
theorem c_plus (hv : hvs P i) (hz : ∀ r, ¬ mMod r s = 0) (hI : ∀ r k f m : Int32, I (xPlus r k f m x).2 (m_plus r k f m s).2) (hcb : c0 + 1000 ≤ cb) (hsb : s0 + 14000 ≤ sb) (hK : nxtG P K I i c0 s0) : G P n_K_law K 30 2169 [some (.retAddr 0), some (.ref 0), some (.ref 5), some (.ref 13), some (.int i), none, none] [] (hm s x (oc n w :: t)) cb sb := by
  have hz64 := fun r => nz64 (hz r)
  obtain ⟨v1, v2, v3, v4, v5⟩ := hv
  refine go ok_K_law 120 ?_
  refine ⟨v1, ?_⟩
  refine ⟨v2, ?_⟩
  refine ⟨v3, ?_⟩
  refine ⟨v4, ?_⟩
  refine ⟨fun b3 => ?_, fun b3 => ?_⟩
  · skip
    refine ⟨_, _, _, K_plus _ _ _ _ (anK_any (fun c n1 w1 t1 => ?_)), by omega, by omega, by decide⟩
    refine ⟨v1, ?_⟩
    refine ⟨v2, ?_⟩
    refine ⟨v3, ?_⟩
    refine ⟨v4, ?_⟩
    refine ⟨fun _ => ?_, fun e => absurd b3 e⟩
    refine ⟨_, _, _, M_plus _ _ _ _ (hz64 _) ?_, by omega, by omega, by decide⟩
    refine nxtG_ok hK (hI _ _ _ _) ?_ ?_ <;> omega
  · skip
    refine ⟨_, _, _, K_plus _ _ _ _ (anK_any (fun c n1 w1 t1 => ?_)), by omega, by omega, by decide⟩
    refine ⟨v1, ?_⟩
    refine ⟨v2, ?_⟩
    refine ⟨v3, ?_⟩
    refine ⟨v4, ?_⟩
    refine ⟨fun e => absurd e b3, fun _ => ?_⟩
    refine ⟨_, _, _, M_plus _ _ _ _ (hz64 _) ?_, by omega, by omega, by decide⟩
    refine nxtG_ok hK (hI _ _ _ _) ?_ ?_ <;> omega
theorem c_times (hv : hvs P i) (hz : ∀ r, ¬ mMod r s = 0) (hI : ∀ r k f : Int32, I (xTimes r k f x).2 (m_times r k f s).2) (hcb : c0 + 1000 ≤ cb) (hsb : s0 + 14000 ≤ sb) (hK : nxtG P K I i c0 s0) : G P n_K_law K 30 2249 [some (.retAddr 0), some (.ref 0), some (.ref 5), some (.ref 13), some (.int i), none, none] [] (hm s x (oc n w :: t)) cb sb := by
  have hz64 := fun r => nz64 (hz r)
  obtain ⟨v1, v2, v3, v4, v5⟩ := hv
  refine go ok_K_law 120 ?_
  refine ⟨v1, ?_⟩
  refine ⟨v2, ?_⟩
  refine ⟨v3, ?_⟩
  refine ⟨_, _, _, K_times _ _ _ (anK_any (fun c n1 w1 t1 => ?_)), by omega, by omega, by decide⟩
  refine ⟨v1, ?_⟩
  refine ⟨v2, ?_⟩
  refine ⟨v3, ?_⟩
  refine ⟨_, _, _, M_times _ _ _ (hz64 _) ?_, by omega, by omega, by decide⟩
  refine nxtG_ok hK (hI _ _ _) ?_ ?_ <;> omega
theorem c_power (hv : hvs P i) (hz : ∀ r, ¬ mMod r s = 0) (hI : ∀ r k e : Int32, I (xPower r k e x).2 (m_power r k e s).2) (hcb : c0 + 1000 ≤ cb) (hsb : s0 + 14000 ≤ sb) (hK : nxtG P K I i c0 s0) : G P n_K_law K 30 2301 [some (.retAddr 0), some (.ref 0), some (.ref 5), some (.ref 13), some (.int i), none, none] [] (hm s x (oc n w :: t)) cb sb := by
  have hz64 := fun r => nz64 (hz r)
  obtain ⟨v1, v2, v3, v4, v5⟩ := hv
  refine go ok_K_law 120 ?_
  refine ⟨v1, ?_⟩
  refine ⟨v2, ?_⟩
  refine ⟨v3, ?_⟩
  refine ⟨_, _, _, K_power _ _ _ (anK_any (fun c n1 w1 t1 => ?_)), by omega, by omega, by decide⟩
  refine ⟨v1, ?_⟩
  refine ⟨v2, ?_⟩
  refine ⟨v3, ?_⟩
  refine ⟨_, _, _, M_power _ _ _ (hz64 _) ?_, by omega, by omega, by decide⟩
  refine nxtG_ok hK (hI _ _ _) ?_ ?_ <;> omega
theorem c_inverse (hv : hvs P i) (hz : ∀ r, ¬ mMod r s = 0) (hI : ∀ r k : Int32, I (xInverse r k x).2 (m_inverse r k s).2) (hcb : c0 + 1000 ≤ cb) (hsb : s0 + 14000 ≤ sb) (hK : nxtG P K I i c0 s0) : G P n_K_law K 30 2353 [some (.retAddr 0), some (.ref 0), some (.ref 5), some (.ref 13), some (.int i), none, none] [] (hm s x (oc n w :: t)) cb sb := by
  have hz64 := fun r => nz64 (hz r)
  obtain ⟨v1, v2, v3, v4, v5⟩ := hv
  refine go ok_K_law 120 ?_
  refine ⟨v1, ?_⟩
  refine ⟨v2, ?_⟩
  refine ⟨_, _, _, K_inverse _ _ (anK_any (fun c n1 w1 t1 => ?_)), by omega, by omega, by decide⟩
  refine ⟨v1, ?_⟩
  refine ⟨v2, ?_⟩
  refine ⟨_, _, _, M_inverse _ _ (hz64 _) ?_, by omega, by omega, by decide⟩
  refine nxtG_ok hK (hI _ _) ?_ ?_ <;> omega
theorem c_isUnit (hv : hvs P i) (hI : ∀ r k : Int32, I (xUnit r k x).2 (m_isUnit r k s).2) (hcb : c0 + 1000 ≤ cb) (hsb : s0 + 14000 ≤ sb) (hK : nxtG P K I i c0 s0) : G P n_K_law K 30 2393 [some (.retAddr 0), some (.ref 0), some (.ref 5), some (.ref 13), some (.int i), none, none] [] (hm s x (oc n w :: t)) cb sb := by
  obtain ⟨v1, v2, v3, v4, v5⟩ := hv
  refine go ok_K_law 120 ?_
  refine ⟨v1, ?_⟩
  refine ⟨v2, ?_⟩
  refine ⟨_, _, _, K_isUnit _ _ (anB_any (fun c n1 w1 t1 => ?_)), by omega, by omega, by decide⟩
  refine ⟨v1, ?_⟩
  refine ⟨v2, ?_⟩
  refine ⟨_, _, _, M_isUnit _ _ ?_, by omega, by omega, by decide⟩
  refine nxtG_ok hK (hI _ _) ?_ ?_ <;> omega
theorem c_residue (hv : hvs P i) (hI : ∀ r k : Int32, I (xResidue r k x).2 (m_residue r k s).2) (hcb : c0 + 1000 ≤ cb) (hsb : s0 + 14000 ≤ sb) (hK : nxtG P K I i c0 s0) : G P n_K_law K 30 2433 [some (.retAddr 0), some (.ref 0), some (.ref 5), some (.ref 13), some (.int i), none, none] [] (hm s x (oc n w :: t)) cb sb := by
  obtain ⟨v1, v2, v3, v4, v5⟩ := hv
  refine go ok_K_law 120 ?_
  refine ⟨v1, ?_⟩
  refine ⟨v2, ?_⟩
  refine ⟨_, _, _, K_residue _ _ (anK_any (fun c n1 w1 t1 => ?_)), by omega, by omega, by decide⟩
  refine ⟨v1, ?_⟩
  refine ⟨v2, ?_⟩
  refine ⟨_, _, _, M_residue _ _ ?_, by omega, by omega, by decide⟩
  refine nxtG_ok hK (hI _ _) ?_ ?_ <;> omega
theorem c_ringText (hv : hvs P i) (hI : ∀ r : Int32, I (xRingText r x).2 (m_ringText r s)) (hcb : c0 + 1000 ≤ cb) (hsb : s0 + 14000 ≤ sb) (hK : nxtG P K I i c0 s0) : G P n_K_law K 30 2473 [some (.retAddr 0), some (.ref 0), some (.ref 5), some (.ref 13), some (.int i), none, none] [] (hm s x (oc n w :: t)) cb sb := by
  obtain ⟨v1, v2, v3, v4, v5⟩ := hv
  refine go ok_K_law 120 ?_
  refine ⟨v1, ?_⟩
  refine ⟨_, _, _, K_ringText _ (anS_any (fun c n1 w1 t1 => ?_)), by omega, by omega, by decide⟩
  refine ⟨v1, ?_⟩
  refine ⟨_, _, _, M_ringText _ ⟨?_, fun l9 r9 => ?_⟩, by omega, by omega, by decide⟩
  · refine nxtG_ok hK (hI _ ) ?_ ?_ <;> omega
  · refine nxtG_ok hK (hI _ ) ?_ ?_ <;> omega
theorem c_areAlike (hv : hvs P i) (hz : ∀ r, ¬ mMod r s = 0) (hI : ∀ r l a b : Int32, I (xAlike r l a b x).2 (m_areAlike r l a b s).2) (hcb : c0 + 1000 ≤ cb) (hsb : s0 + 14000 ≤ sb) (hK : nxtG P K I i c0 s0) : G P n_K_law K 30 2501 [some (.retAddr 0), some (.ref 0), some (.ref 5), some (.ref 13), some (.int i), none, none] [] (hm s x (oc n w :: t)) cb sb := by
  have hz64 := fun r => nz64 (hz r)
  obtain ⟨v1, v2, v3, v4, v5⟩ := hv
  refine go ok_K_law 120 ?_
  refine ⟨v1, ?_⟩
  refine ⟨v2, ?_⟩
  refine ⟨fun b1 => ?_, fun b1 => ?_⟩
  · skip
    refine ⟨v3, ?_⟩
    refine ⟨v4, ?_⟩
    refine ⟨_, _, _, K_areAlike _ _ _ _ (anB_any (fun c n1 w1 t1 => ?_)), by omega, by omega, by decide⟩
    refine ⟨v1, ?_⟩
    refine ⟨v2, ?_⟩
    refine ⟨fun _ => ?_, fun e => absurd b1 e⟩
    refine ⟨v3, ?_⟩
    refine ⟨v4, ?_⟩
    refine ⟨_, _, _, M_areAlike _ _ _ _ (hz64 _) ?_, by omega, by omega, by decide⟩
    refine nxtG_ok hK (hI _ _ _ _) ?_ ?_ <;> omega
  · skip
    refine ⟨v3, ?_⟩
    refine ⟨v4, ?_⟩
    refine ⟨_, _, _, K_areAlike _ _ _ _ (anB_any (fun c n1 w1 t1 => ?_)), by omega, by omega, by decide⟩
    refine ⟨v1, ?_⟩
    refine ⟨v2, ?_⟩
    refine ⟨fun e => absurd e b1, fun _ => ?_⟩
    refine ⟨v3, ?_⟩
    refine ⟨v4, ?_⟩
    refine ⟨_, _, _, M_areAlike _ _ _ _ (hz64 _) ?_, by omega, by omega, by decide⟩
    refine nxtG_ok hK (hI _ _ _ _) ?_ ?_ <;> omega
theorem c_together (hv : hvs P i) (hz : ∀ r, ¬ mMod r s = 0) (hI : ∀ k r a q b : Int32, I (xTogether k r a q b x).2 (m_together k r a q b s).2) (hcb : c0 + 1000 ≤ cb) (hsb : s0 + 14000 ≤ sb) (hK : nxtG P K I i c0 s0) : G P n_K_law K 30 2581 [some (.retAddr 0), some (.ref 0), some (.ref 5), some (.ref 13), some (.int i), none, none] [] (hm s x (oc n w :: t)) cb sb := by
  obtain ⟨v1, v2, v3, v4, v5⟩ := hv
  refine go ok_K_law 120 ?_
  refine ⟨v1, ?_⟩
  refine ⟨v2, ?_⟩
  refine ⟨v3, ?_⟩
  refine ⟨v4, ?_⟩
  refine ⟨v5, ?_⟩
  refine ⟨_, _, _, K_together _ _ _ _ _ (anK_any (fun c n1 w1 t1 => ?_)), by omega, by omega, by decide⟩
  refine ⟨v1, ?_⟩
  refine ⟨v2, ?_⟩
  refine ⟨v3, ?_⟩
  refine ⟨v4, ?_⟩
  refine ⟨v5, ?_⟩
  refine ⟨_, _, _, M_together _ _ _ _ _ (hz _) (hz _) ?_, by omega, by omega, by decide⟩
  refine nxtG_ok hK (hI _ _ _ _ _) ?_ ?_ <;> omega
theorem c_common (hv : hvs P i) (hz : ∀ r, ¬ mMod r s = 0) (hI : ∀ r q : Int32, I (xCommon r q x).2 (m_common r q s)) (hcb : c0 + 1000 ≤ cb) (hsb : s0 + 14000 ≤ sb) (hK : nxtG P K I i c0 s0) : G P n_K_law K 30 2657 [some (.retAddr 0), some (.ref 0), some (.ref 5), some (.ref 13), some (.int i), none, none] [] (hm s x (oc n w :: t)) cb sb := by
  obtain ⟨v1, v2, v3, v4, v5⟩ := hv
  refine go ok_K_law 120 ?_
  refine ⟨v1, ?_⟩
  refine ⟨v2, ?_⟩
  refine ⟨v3, ?_⟩
  refine ⟨fun b2 => ?_, fun b2 => ?_⟩
  · skip
    refine ⟨_, _, _, K_common _ _ _ (anS_any (fun c n1 w1 t1 => ?_)), by omega, by omega, by decide⟩
    refine ⟨v1, ?_⟩
    refine ⟨v2, ?_⟩
    refine ⟨v3, ?_⟩
    refine ⟨fun _ => ?_, fun e => absurd b2 e⟩
    refine ⟨_, _, _, M_common _ _ _ (hz _) (hz _) ⟨?_, fun l9 r9 => ?_⟩, by omega, by omega, by decide⟩
    · refine nxtG_ok hK (hI _ _) ?_ ?_ <;> omega
    · refine nxtG_ok hK (hI _ _) ?_ ?_ <;> omega
  · skip
    refine ⟨_, _, _, K_common _ _ _ (anS_any (fun c n1 w1 t1 => ?_)), by omega, by omega, by decide⟩
    refine ⟨v1, ?_⟩
    refine ⟨v2, ?_⟩
    refine ⟨v3, ?_⟩
    refine ⟨fun e => absurd e b2, fun _ => ?_⟩
    refine ⟨_, _, _, M_common _ _ _ (hz _) (hz _) ⟨?_, fun l9 r9 => ?_⟩, by omega, by omega, by decide⟩
    · refine nxtG_ok hK (hI _ _) ?_ ?_ <;> omega
    · refine nxtG_ok hK (hI _ _) ?_ ?_ <;> omega
theorem c_house (hv : hvs P i) (hI : ∀ q : Int32, I (xHouse q x).2 (m_house q s).2) (hcb : c0 + 1000 ≤ cb) (hsb : s0 + 14000 ≤ sb) (hK : nxtG P K I i c0 s0) : G P n_K_law K 30 2725 [some (.retAddr 0), some (.ref 0), some (.ref 5), some (.ref 13), some (.int i), none, none] [] (hm s x (oc n w :: t)) cb sb := by
  obtain ⟨v1, v2, v3, v4, v5⟩ := hv
  refine go ok_K_law 120 ?_
  refine ⟨v1, ?_⟩
  refine ⟨_, _, _, K_house _ (anK_any (fun c n1 w1 t1 => ?_)), by omega, by omega, by decide⟩
  refine ⟨v1, ?_⟩
  refine ⟨_, _, _, M_house _ ?_, by omega, by omega, by decide⟩
  refine nxtG_ok hK (hI _ ) ?_ ?_ <;> omega
theorem c_knock (hI : I (xKnock x).2 (m_knock s).2) (hcb : c0 + 1000 ≤ cb) (hsb : s0 + 14000 ≤ sb) (hK : nxtG P K I i c0 s0) : G P n_K_law K 30 2753 [some (.retAddr 0), some (.ref 0), some (.ref 5), some (.ref 13), some (.int i), none, none] [] (hm s x (oc n w :: t)) cb sb := by
  refine go ok_K_law 60 ?_
  refine ⟨_, _, _, L_knock ?_, by omega, by omega, by decide⟩
  refine ⟨_, _, _, M_knock ?_, by omega, by omega, by decide⟩
  refine nxtG_ok hK hI ?_ ?_ <;> omega
theorem c_isSound (hI : I x (sT 0 s)) (hcb : c0 + 1000 ≤ cb) (hsb : s0 + 14000 ≤ sb) (hK : nxtG P K I i c0 s0) : G P n_K_law K 30 2766 [some (.retAddr 0), some (.ref 0), some (.ref 5), some (.ref 13), some (.int i), none, none] [] (hm s x (oc n w :: t)) cb sb := by
  refine go ok_K_law 60 ?_
  refine ⟨_, _, _, L_isSound ?_, by omega, by omega, by decide⟩
  refine ⟨_, _, _, M_isSound ?_, by omega, by omega, by decide⟩
  refine nxtG_ok hK hI ?_ ?_ <;> omega
theorem c_digest (hI : I x (sT 0 s)) (hcb : c0 + 1000 ≤ cb) (hsb : s0 + 14000 ≤ sb) (hK : nxtG P K I i c0 s0) : G P n_K_law K 30 2779 [some (.retAddr 0), some (.ref 0), some (.ref 5), some (.ref 13), some (.int i), none, none] [] (hm s x (oc n w :: t)) cb sb := by
  refine go ok_K_law 60 ?_
  refine ⟨_, _, _, L_digest ?_, by omega, by omega, by decide⟩
  refine ⟨_, _, _, M_digest (fun t9 => ?_), by omega, by omega, by decide⟩
  refine nxtG_ok hK hI ?_ ?_ <;> omega
theorem c_none (hI : I x s) (hcb : c0 + 1000 ≤ cb) (hsb : s0 + 14000 ≤ sb) (hK : nxtG P K I i c0 s0) : G P n_K_law K 30 2792 [some (.retAddr 0), some (.ref 0), some (.ref 5), some (.ref 13), some (.int i), none, none] [] (hm s x (oc n w :: t)) cb sb := by
  refine go ok_K_law 60 ?_
  refine nxtG_ok hK hI ?_ ?_ <;> omega
end LAWC
