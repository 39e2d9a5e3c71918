section
/-! THE LAW: its cases, where nothing is compared; what holds between the class's state and the model's is I -/
def hvs (P : GP) (i : Int32) : Prop := vp_in (i + 1) (gL P) ∧ vp_in (i + 2) (gL P) ∧ vp_in (i + 3) (gL P) ∧ vp_in (i + 4) (gL P) ∧ vp_in (i + 5) (gL P)
theorem anK_any {K : Kt} {s : MS} {n : Int64} {w : Value} {t : mH} {cd : Nat → Int32} {o : Out} (h : ∀ c n1 w1 t1, K (.inl (some (.int c))) (hm s o.2 (oc n1 w1 :: t1))) : ansK K s n w t cd o := by
  obtain ⟨o, y⟩ := o
  cases o with
  | inl v => exact h _ _ _ _
  | inr E => exact fun j => h _ _ _ _
theorem anB_any {K : Kt} {s : MS} {n : Int64} {w : Value} {t : mH} {cd : Nat → Int32} {o : Out} (h : ∀ c n1 w1 t1, K (.inl (some (.int c))) (hm s o.2 (oc n1 w1 :: t1))) : ansB K s n w t cd o := by
  obtain ⟨o, y⟩ := o
  cases o with
  | inl v => exact h _ _ _ _
  | inr E => exact fun j => h _ _ _ _
theorem anS_any {K : Kt} {s : MS} {n : Int64} {w : Value} {t : mH} {cd : Nat → Int32} {o : Out} (h : ∀ c n1 w1 t1, K (.inl (some (.int c))) (hm s o.2 (oc n1 w1 :: t1))) : ansS K s n w t cd o := by
  obtain ⟨o, y⟩ := o
  cases o with
  | inl v => exact fun l r => h _ _ _ _
  | inr E => exact fun j => h _ _ _ _
/-- from the loop's head on, at the next call -/
def nxtG (P : GP) (K : Kt) (I : XS → MS → Prop) (i : Int32) (c0 s0 : Nat) : Prop := ∀ x s n w t, I x s → G P n_K_law K 30 27 [some (.retAddr 0), some (.ref 0), some (.ref 5), some (.ref 13), some (.int (i + 6)), none, none] [] (hm s x (oc n w :: t)) c0 s0
theorem nxtG_ok {P : GP} {K : Kt} {I : XS → MS → Prop} {i : Int32} {c0 s0 : Nat} (h : nxtG P K I i c0 s0) {x : XS} {s : MS} {n : Int64} {w : Value} {t : mH} (hI : I x s) {cb sb : Nat} (h1 : c0 ≤ cb) (h2 : s0 ≤ sb) {y z : Option Value} :
    G P n_K_law K 30 27 [some (.retAddr 0), some (.ref 0), some (.ref 5), some (.ref 13), some (.int (i + 6)), y, z] [] (hm s x (oc n w :: t)) cb sb := by
  refine G_wk ?_ (G_mono (h x s n w t hI) h1 h2)
  exact ⟨rfl, rfl, rfl, rfl, rfl, trivial⟩
section LAWC
variable {P : GP} {K : Kt} {I : XS → MS → Prop} {i : Int32} {c0 s0 cb sb : Nat} {x : XS} {s : MS} {n : Int64} {w : Value} {t : mH}
theorem c_put (hv : hvs P i) (hI : ∀ l k hi lo : Int32, I (xPut l k hi lo x).2 (m_put l k hi lo s).2) (hcb : c0 + 1000 ≤ cb) (hsb : s0 + 14000 ≤ sb) (hK : nxtG P K I i c0 s0) : G P n_K_law K 30 228 [some (.retAddr 0), some (.ref 0), some (.ref 5), some (.ref 13), some (.int i), none, none] [] (hm s x (oc n w :: t)) cb sb := by
  obtain ⟨v1, v2, v3, v4, v5⟩ := hv
  refine go ok_K_law 120 ?_
  refine ⟨v1, ?_⟩
  refine ⟨fun b0 => ?_, fun b0 => ?_⟩
  · skip
    refine ⟨v2, ?_⟩
    refine ⟨v3, ?_⟩
    refine ⟨v4, ?_⟩
    refine ⟨_, _, _, K_put _ _ _ _ (anK_any (fun c n1 w1 t1 => ?_)), by omega, by omega, by decide⟩
    refine ⟨v1, ?_⟩
    refine ⟨fun _ => ?_, fun e => absurd b0 e⟩
    refine ⟨v2, ?_⟩
    refine ⟨v3, ?_⟩
    refine ⟨v4, ?_⟩
    refine ⟨_, _, _, M_put _ _ _ _ ?_, by omega, by omega, by decide⟩
    refine nxtG_ok hK (hI _ _ _ _) ?_ ?_ <;> omega
  · skip
    refine ⟨v2, ?_⟩
    refine ⟨v3, ?_⟩
    refine ⟨v4, ?_⟩
    refine ⟨_, _, _, K_put _ _ _ _ (anK_any (fun c n1 w1 t1 => ?_)), by omega, by omega, by decide⟩
    refine ⟨v1, ?_⟩
    refine ⟨fun e => absurd e b0, fun _ => ?_⟩
    refine ⟨v2, ?_⟩
    refine ⟨v3, ?_⟩
    refine ⟨v4, ?_⟩
    refine ⟨_, _, _, M_put _ _ _ _ ?_, by omega, by omega, by decide⟩
    refine nxtG_ok hK (hI _ _ _ _) ?_ ?_ <;> omega
theorem c_copy (hv : hvs P i) (hI : ∀ l k f : Int32, I (xCopy l k f x).2 (m_copy l k f s).2) (hcb : c0 + 1000 ≤ cb) (hsb : s0 + 14000 ≤ sb) (hK : nxtG P K I i c0 s0) : G P n_K_law K 30 308 [some (.retAddr 0), some (.ref 0), some (.ref 5), some (.ref 13), some (.int i), none, none] [] (hm s x (oc n w :: t)) cb sb := by
  obtain ⟨v1, v2, v3, v4, v5⟩ := hv
  refine go ok_K_law 120 ?_
  refine ⟨v1, ?_⟩
  refine ⟨fun b0 => ?_, fun b0 => ?_⟩
  · skip
    refine ⟨v2, ?_⟩
    refine ⟨v3, ?_⟩
    refine ⟨_, _, _, K_copy _ _ _ (anK_any (fun c n1 w1 t1 => ?_)), by omega, by omega, by decide⟩
    refine ⟨v1, ?_⟩
    refine ⟨fun _ => ?_, fun e => absurd b0 e⟩
    refine ⟨v2, ?_⟩
    refine ⟨v3, ?_⟩
    refine ⟨_, _, _, M_copy _ _ _ ?_, by omega, by omega, by decide⟩
    refine nxtG_ok hK (hI _ _ _) ?_ ?_ <;> omega
  · skip
    refine ⟨v2, ?_⟩
    refine ⟨v3, ?_⟩
    refine ⟨_, _, _, K_copy _ _ _ (anK_any (fun c n1 w1 t1 => ?_)), by omega, by omega, by decide⟩
    refine ⟨v1, ?_⟩
    refine ⟨fun e => absurd e b0, fun _ => ?_⟩
    refine ⟨v2, ?_⟩
    refine ⟨v3, ?_⟩
    refine ⟨_, _, _, M_copy _ _ _ ?_, by omega, by omega, by decide⟩
    refine nxtG_ok hK (hI _ _ _) ?_ ?_ <;> omega
theorem c_widen (hv : hvs P i) (hI : ∀ k f : Int32, I (xWiden k f x).2 (m_widen k f s).2) (hcb : c0 + 1000 ≤ cb) (hsb : s0 + 14000 ≤ sb) (hK : nxtG P K I i c0 s0) : G P n_K_law K 30 376 [some (.retAddr 0), some (.ref 0), some (.ref 5), some (.ref 13), some (.int i), none, none] [] (hm s x (oc n w :: t)) cb sb := by
  obtain ⟨v1, v2, v3, v4, v5⟩ := hv
  refine go ok_K_law 120 ?_
  refine ⟨v1, ?_⟩
  refine ⟨v2, ?_⟩
  refine ⟨_, _, _, K_widen _ _ (anK_any (fun c n1 w1 t1 => ?_)), by omega, by omega, by decide⟩
  refine ⟨v1, ?_⟩
  refine ⟨v2, ?_⟩
  refine ⟨_, _, _, M_widen _ _ ?_, by omega, by omega, by decide⟩
  refine nxtG_ok hK (hI _ _) ?_ ?_ <;> omega
theorem c_narrow (hv : hvs P i) (hI : ∀ k f : Int32, I (xNarrow k f x).2 (m_narrow k f s).2) (hcb : c0 + 1000 ≤ cb) (hsb : s0 + 14000 ≤ sb) (hK : nxtG P K I i c0 s0) : G P n_K_law K 30 416 [some (.retAddr 0), some (.ref 0), some (.ref 5), some (.ref 13), some (.int i), none, none] [] (hm s x (oc n w :: t)) cb sb := by
  obtain ⟨v1, v2, v3, v4, v5⟩ := hv
  refine go ok_K_law 120 ?_
  refine ⟨v1, ?_⟩
  refine ⟨v2, ?_⟩
  refine ⟨_, _, _, K_narrow _ _ (anK_any (fun c n1 w1 t1 => ?_)), by omega, by omega, by decide⟩
  refine ⟨v1, ?_⟩
  refine ⟨v2, ?_⟩
  refine ⟨_, _, _, M_narrow _ _ ?_, by omega, by omega, by decide⟩
  refine nxtG_ok hK (hI _ _) ?_ ?_ <;> omega
theorem c_exact (hv : hvs P i) (hI : ∀ l k f q : Int32, I (xExact l k f q x).2 (m_exact l k f q s).2) (hcb : c0 + 1000 ≤ cb) (hsb : s0 + 14000 ≤ sb) (hK : nxtG P K I i c0 s0) : G P n_K_law K 30 456 [some (.retAddr 0), some (.ref 0), some (.ref 5), some (.ref 13), some (.int i), none, none] [] (hm s x (oc n w :: t)) cb sb := by
  obtain ⟨v1, v2, v3, v4, v5⟩ := hv
  refine go ok_K_law 120 ?_
  refine ⟨v1, ?_⟩
  refine ⟨fun b0 => ?_, fun b0 => ?_⟩
  · skip
    refine ⟨v2, ?_⟩
    refine ⟨v3, ?_⟩
    refine ⟨v4, ?_⟩
    refine ⟨_, _, _, K_exact _ _ _ _ (anK_any (fun c n1 w1 t1 => ?_)), by omega, by omega, by decide⟩
    refine ⟨v1, ?_⟩
    refine ⟨fun _ => ?_, fun e => absurd b0 e⟩
    refine ⟨v2, ?_⟩
    refine ⟨v3, ?_⟩
    refine ⟨v4, ?_⟩
    refine ⟨_, _, _, M_exact _ _ _ _ ?_, by omega, by omega, by decide⟩
    refine nxtG_ok hK (hI _ _ _ _) ?_ ?_ <;> omega
  · skip
    refine ⟨v2, ?_⟩
    refine ⟨v3, ?_⟩
    refine ⟨v4, ?_⟩
    refine ⟨_, _, _, K_exact _ _ _ _ (anK_any (fun c n1 w1 t1 => ?_)), by omega, by omega, by decide⟩
    refine ⟨v1, ?_⟩
    refine ⟨fun e => absurd e b0, fun _ => ?_⟩
    refine ⟨v2, ?_⟩
    refine ⟨v3, ?_⟩
    refine ⟨v4, ?_⟩
    refine ⟨_, _, _, M_exact _ _ _ _ ?_, by omega, by omega, by decide⟩
    refine nxtG_ok hK (hI _ _ _ _) ?_ ?_ <;> omega
theorem c_fits (hv : hvs P i) (hI : ∀ l k f q : Int32, I (xFits l k f q x).2 (m_fits l k f q s).2) (hcb : c0 + 1000 ≤ cb) (hsb : s0 + 14000 ≤ sb) (hK : nxtG P K I i c0 s0) : G P n_K_law K 30 536 [some (.retAddr 0), some (.ref 0), some (.ref 5), some (.ref 13), some (.int i), none, none] [] (hm s x (oc n w :: t)) cb sb := by
  obtain ⟨v1, v2, v3, v4, v5⟩ := hv
  refine go ok_K_law 120 ?_
  refine ⟨v1, ?_⟩
  refine ⟨fun b0 => ?_, fun b0 => ?_⟩
  · skip
    refine ⟨v2, ?_⟩
    refine ⟨v3, ?_⟩
    refine ⟨v4, ?_⟩
    refine ⟨_, _, _, K_fits _ _ _ _ (anB_any (fun c n1 w1 t1 => ?_)), by omega, by omega, by decide⟩
    refine ⟨v1, ?_⟩
    refine ⟨fun _ => ?_, fun e => absurd b0 e⟩
    refine ⟨v2, ?_⟩
    refine ⟨v3, ?_⟩
    refine ⟨v4, ?_⟩
    refine ⟨_, _, _, M_fits _ _ _ _ ?_, by omega, by omega, by decide⟩
    refine nxtG_ok hK (hI _ _ _ _) ?_ ?_ <;> omega
  · skip
    refine ⟨v2, ?_⟩
    refine ⟨v3, ?_⟩
    refine ⟨v4, ?_⟩
    refine ⟨_, _, _, K_fits _ _ _ _ (anB_any (fun c n1 w1 t1 => ?_)), by omega, by omega, by decide⟩
    refine ⟨v1, ?_⟩
    refine ⟨fun e => absurd e b0, fun _ => ?_⟩
    refine ⟨v2, ?_⟩
    refine ⟨v3, ?_⟩
    refine ⟨v4, ?_⟩
    refine ⟨_, _, _, M_fits _ _ _ _ ?_, by omega, by omega, by decide⟩
    refine nxtG_ok hK (hI _ _ _ _) ?_ ?_ <;> omega
theorem c_alone (hv : hvs P i) (hI : ∀ l k q : Int32, I (xAlone l k q x).2 (m_alone l k q s).2) (hcb : c0 + 1000 ≤ cb) (hsb : s0 + 14000 ≤ sb) (hK : nxtG P K I i c0 s0) : G P n_K_law K 30 616 [some (.retAddr 0), some (.ref 0), some (.ref 5), some (.ref 13), some (.int i), none, none] [] (hm s x (oc n w :: t)) cb sb := by
  obtain ⟨v1, v2, v3, v4, v5⟩ := hv
  refine go ok_K_law 120 ?_
  refine ⟨v1, ?_⟩
  refine ⟨fun b0 => ?_, fun b0 => ?_⟩
  · skip
    refine ⟨v2, ?_⟩
    refine ⟨v3, ?_⟩
    refine ⟨_, _, _, K_alone _ _ _ (anK_any (fun c n1 w1 t1 => ?_)), by omega, by omega, by decide⟩
    refine ⟨v1, ?_⟩
    refine ⟨fun _ => ?_, fun e => absurd b0 e⟩
    refine ⟨v2, ?_⟩
    refine ⟨v3, ?_⟩
    refine ⟨_, _, _, M_alone _ _ _ ?_, by omega, by omega, by decide⟩
    refine nxtG_ok hK (hI _ _ _) ?_ ?_ <;> omega
  · skip
    refine ⟨v2, ?_⟩
    refine ⟨v3, ?_⟩
    refine ⟨_, _, _, K_alone _ _ _ (anK_any (fun c n1 w1 t1 => ?_)), by omega, by omega, by decide⟩
    refine ⟨v1, ?_⟩
    refine ⟨fun e => absurd e b0, fun _ => ?_⟩
    refine ⟨v2, ?_⟩
    refine ⟨v3, ?_⟩
    refine ⟨_, _, _, M_alone _ _ _ ?_, by omega, by omega, by decide⟩
    refine nxtG_ok hK (hI _ _ _) ?_ ?_ <;> omega
theorem c_timesInt (hv : hvs P i) (hI : ∀ k f : Int32, I (xTimesInt k f x).2 (m_timesInt k f s).2) (hcb : c0 + 1000 ≤ cb) (hsb : s0 + 14000 ≤ sb) (hK : nxtG P K I i c0 s0) : G P n_K_law K 30 684 [some (.retAddr 0), some (.ref 0), some (.ref 5), some (.ref 13), some (.int i), none, none] [] (hm s x (oc n w :: t)) cb sb := by
  obtain ⟨v1, v2, v3, v4, v5⟩ := hv
  refine go ok_K_law 120 ?_
  refine ⟨v1, ?_⟩
  refine ⟨v2, ?_⟩
  refine ⟨_, _, _, K_timesInt _ _ (anK_any (fun c n1 w1 t1 => ?_)), by omega, by omega, by decide⟩
  refine ⟨v1, ?_⟩
  refine ⟨v2, ?_⟩
  refine ⟨_, _, _, M_timesInt _ _ ?_, by omega, by omega, by decide⟩
  refine nxtG_ok hK (hI _ _) ?_ ?_ <;> omega
theorem c_full (hv : hvs P i) (hI : ∀ k a b : Int32, I (xFull k a b x).2 (m_full k a b s).2) (hcb : c0 + 1000 ≤ cb) (hsb : s0 + 14000 ≤ sb) (hK : nxtG P K I i c0 s0) : G P n_K_law K 30 724 [some (.retAddr 0), some (.ref 0), some (.ref 5), some (.ref 13), some (.int i), none, none] [] (hm s x (oc n w :: t)) cb sb := by
  obtain ⟨v1, v2, v3, v4, v5⟩ := hv
  refine go ok_K_law 120 ?_
  refine ⟨v1, ?_⟩
  refine ⟨v2, ?_⟩
  refine ⟨v3, ?_⟩
  refine ⟨_, _, _, K_full _ _ _ (anK_any (fun c n1 w1 t1 => ?_)), by omega, by omega, by decide⟩
  refine ⟨v1, ?_⟩
  refine ⟨v2, ?_⟩
  refine ⟨v3, ?_⟩
  refine ⟨_, _, _, M_full _ _ _ ?_, by omega, by omega, by decide⟩
  refine nxtG_ok hK (hI _ _ _) ?_ ?_ <;> omega
theorem c_high (hv : hvs P i) (hI : ∀ k a b : Int32, I (xHigh k a b x).2 (m_high k a b s).2) (hcb : c0 + 1000 ≤ cb) (hsb : s0 + 14000 ≤ sb) (hK : nxtG P K I i c0 s0) : G P n_K_law K 30 776 [some (.retAddr 0), some (.ref 0), some (.ref 5), some (.ref 13), some (.int i), none, none] [] (hm s x (oc n w :: t)) cb sb := by
  obtain ⟨v1, v2, v3, v4, v5⟩ := hv
  refine go ok_K_law 120 ?_
  refine ⟨v1, ?_⟩
  refine ⟨v2, ?_⟩
  refine ⟨v3, ?_⟩
  refine ⟨_, _, _, K_high _ _ _ (anK_any (fun c n1 w1 t1 => ?_)), by omega, by omega, by decide⟩
  refine ⟨v1, ?_⟩
  refine ⟨v2, ?_⟩
  refine ⟨v3, ?_⟩
  refine ⟨_, _, _, M_high _ _ _ ?_, by omega, by omega, by decide⟩
  refine nxtG_ok hK (hI _ _ _) ?_ ?_ <;> omega
theorem c_round (hv : hvs P i) (hI : ∀ l k f q : Int32, I (xRound l k f q x).2 (m_round l k f q s).2) (hcb : c0 + 1000 ≤ cb) (hsb : s0 + 14000 ≤ sb) (hK : nxtG P K I i c0 s0) : G P n_K_law K 30 828 [some (.retAddr 0), some (.ref 0), some (.ref 5), some (.ref 13), some (.int i), none, none] [] (hm s x (oc n w :: t)) cb sb := by
  obtain ⟨v1, v2, v3, v4, v5⟩ := hv
  refine go ok_K_law 120 ?_
  refine ⟨v1, ?_⟩
  refine ⟨fun b0 => ?_, fun b0 => ?_⟩
  · skip
    refine ⟨v2, ?_⟩
    refine ⟨v3, ?_⟩
    refine ⟨v4, ?_⟩
    refine ⟨_, _, _, K_round _ _ _ _ (anK_any (fun c n1 w1 t1 => ?_)), by omega, by omega, by decide⟩
    refine ⟨v1, ?_⟩
    refine ⟨fun _ => ?_, fun e => absurd b0 e⟩
    refine ⟨v2, ?_⟩
    refine ⟨v3, ?_⟩
    refine ⟨v4, ?_⟩
    refine ⟨_, _, _, M_round _ _ _ _ ?_, by omega, by omega, by decide⟩
    refine nxtG_ok hK (hI _ _ _ _) ?_ ?_ <;> omega
  · skip
    refine ⟨v2, ?_⟩
    refine ⟨v3, ?_⟩
    refine ⟨v4, ?_⟩
    refine ⟨_, _, _, K_round _ _ _ _ (anK_any (fun c n1 w1 t1 => ?_)), by omega, by omega, by decide⟩
    refine ⟨v1, ?_⟩
    refine ⟨fun e => absurd e b0, fun _ => ?_⟩
    refine ⟨v2, ?_⟩
    refine ⟨v3, ?_⟩
    refine ⟨v4, ?_⟩
    refine ⟨_, _, _, M_round _ _ _ _ ?_, by omega, by omega, by decide⟩
    refine nxtG_ok hK (hI _ _ _ _) ?_ ?_ <;> omega
theorem c_abs (hv : hvs P i) (hI : ∀ l k : Int32, I (xAbs l k x).2 (m_abs l k s).2) (hcb : c0 + 1000 ≤ cb) (hsb : s0 + 14000 ≤ sb) (hK : nxtG P K I i c0 s0) : G P n_K_law K 30 908 [some (.retAddr 0), some (.ref 0), some (.ref 5), some (.ref 13), some (.int i), none, none] [] (hm s x (oc n w :: t)) cb sb := by
  obtain ⟨v1, v2, v3, v4, v5⟩ := hv
  refine go ok_K_law 120 ?_
  refine ⟨v1, ?_⟩
  refine ⟨fun b0 => ?_, fun b0 => ?_⟩
  · skip
    refine ⟨v2, ?_⟩
    refine ⟨_, _, _, K_abs _ _ (anK_any (fun c n1 w1 t1 => ?_)), by omega, by omega, by decide⟩
    refine ⟨v1, ?_⟩
    refine ⟨fun _ => ?_, fun e => absurd b0 e⟩
    refine ⟨v2, ?_⟩
    refine ⟨_, _, _, M_abs _ _ ?_, by omega, by omega, by decide⟩
    refine nxtG_ok hK (hI _ _) ?_ ?_ <;> omega
  · skip
    refine ⟨v2, ?_⟩
    refine ⟨_, _, _, K_abs _ _ (anK_any (fun c n1 w1 t1 => ?_)), by omega, by omega, by decide⟩
    refine ⟨v1, ?_⟩
    refine ⟨fun e => absurd e b0, fun _ => ?_⟩
    refine ⟨v2, ?_⟩
    refine ⟨_, _, _, M_abs _ _ ?_, by omega, by omega, by decide⟩
    refine nxtG_ok hK (hI _ _) ?_ ?_ <;> omega
theorem c_extreme (hv : hvs P i) (hI : ∀ l k f g : Int32, I (xExtreme l k f g x).2 (m_extreme l k f g s).2) (hcb : c0 + 1000 ≤ cb) (hsb : s0 + 14000 ≤ sb) (hK : nxtG P K I i c0 s0) : G P n_K_law K 30 964 [some (.retAddr 0), some (.ref 0), some (.ref 5), some (.ref 13), some (.int i), none, none] [] (hm s x (oc n w :: t)) cb sb := by
  obtain ⟨v1, v2, v3, v4, v5⟩ := hv
  refine go ok_K_law 120 ?_
  refine ⟨v1, ?_⟩
  refine ⟨fun b0 => ?_, fun b0 => ?_⟩
  · skip
    refine ⟨v2, ?_⟩
    refine ⟨v3, ?_⟩
    refine ⟨v4, ?_⟩
    refine ⟨fun b3 => ?_, fun b3 => ?_⟩
    · skip
      refine ⟨_, _, _, K_extreme _ _ _ _ (anK_any (fun c n1 w1 t1 => ?_)), by omega, by omega, by decide⟩
      refine ⟨v1, ?_⟩
      refine ⟨fun _ => ?_, fun e => absurd b0 e⟩
      refine ⟨v2, ?_⟩
      refine ⟨v3, ?_⟩
      refine ⟨v4, ?_⟩
      refine ⟨fun _ => ?_, fun e => absurd b3 e⟩
      refine ⟨_, _, _, M_extreme _ _ _ _ ?_, by omega, by omega, by decide⟩
      refine nxtG_ok hK (hI _ _ _ _) ?_ ?_ <;> omega
    · skip
      refine ⟨_, _, _, K_extreme _ _ _ _ (anK_any (fun c n1 w1 t1 => ?_)), by omega, by omega, by decide⟩
      refine ⟨v1, ?_⟩
      refine ⟨fun _ => ?_, fun e => absurd b0 e⟩
      refine ⟨v2, ?_⟩
      refine ⟨v3, ?_⟩
      refine ⟨v4, ?_⟩
      refine ⟨fun e => absurd e b3, fun _ => ?_⟩
      refine ⟨_, _, _, M_extreme _ _ _ _ ?_, by omega, by omega, by decide⟩
      refine nxtG_ok hK (hI _ _ _ _) ?_ ?_ <;> omega
  · skip
    refine ⟨v2, ?_⟩
    refine ⟨v3, ?_⟩
    refine ⟨v4, ?_⟩
    refine ⟨fun b3 => ?_, fun b3 => ?_⟩
    · skip
      refine ⟨_, _, _, K_extreme _ _ _ _ (anK_any (fun c n1 w1 t1 => ?_)), by omega, by omega, by decide⟩
      refine ⟨v1, ?_⟩
      refine ⟨fun e => absurd e b0, fun _ => ?_⟩
      refine ⟨v2, ?_⟩
      refine ⟨v3, ?_⟩
      refine ⟨v4, ?_⟩
      refine ⟨fun _ => ?_, fun e => absurd b3 e⟩
      refine ⟨_, _, _, M_extreme _ _ _ _ ?_, by omega, by omega, by decide⟩
      refine nxtG_ok hK (hI _ _ _ _) ?_ ?_ <;> omega
    · skip
      refine ⟨_, _, _, K_extreme _ _ _ _ (anK_any (fun c n1 w1 t1 => ?_)), by omega, by omega, by decide⟩
      refine ⟨v1, ?_⟩
      refine ⟨fun e => absurd e b0, fun _ => ?_⟩
      refine ⟨v2, ?_⟩
      refine ⟨v3, ?_⟩
      refine ⟨v4, ?_⟩
      refine ⟨fun e => absurd e b3, fun _ => ?_⟩
      refine ⟨_, _, _, M_extreme _ _ _ _ ?_, by omega, by omega, by decide⟩
      refine nxtG_ok hK (hI _ _ _ _) ?_ ?_ <;> omega
theorem c_floor (hv : hvs P i) (hI : ∀ l k f r : Int32, I (xFloor l k f r x).2 (m_floor l k f r s).2) (hcb : c0 + 1000 ≤ cb) (hsb : s0 + 14000 ≤ sb) (hK : nxtG P K I i c0 s0) : G P n_K_law K 30 1060 [some (.retAddr 0), some (.ref 0), some (.ref 5), some (.ref 13), some (.int i), none, none] [] (hm s x (oc n w :: t)) cb sb := by
  obtain ⟨v1, v2, v3, v4, v5⟩ := hv
  refine go ok_K_law 120 ?_
  refine ⟨v1, ?_⟩
  refine ⟨fun b0 => ?_, fun b0 => ?_⟩
  · skip
    refine ⟨v2, ?_⟩
    refine ⟨v3, ?_⟩
    refine ⟨v4, ?_⟩
    refine ⟨fun b3 => ?_, fun b3 => ?_⟩
    · skip
      refine ⟨_, _, _, K_floor _ _ _ _ (anK_any (fun c n1 w1 t1 => ?_)), by omega, by omega, by decide⟩
      refine ⟨v1, ?_⟩
      refine ⟨fun _ => ?_, fun e => absurd b0 e⟩
      refine ⟨v2, ?_⟩
      refine ⟨v3, ?_⟩
      refine ⟨v4, ?_⟩
      refine ⟨fun _ => ?_, fun e => absurd b3 e⟩
      refine ⟨_, _, _, M_floor _ _ _ _ ?_, by omega, by omega, by decide⟩
      refine nxtG_ok hK (hI _ _ _ _) ?_ ?_ <;> omega
    · skip
      refine ⟨_, _, _, K_floor _ _ _ _ (anK_any (fun c n1 w1 t1 => ?_)), by omega, by omega, by decide⟩
      refine ⟨v1, ?_⟩
      refine ⟨fun _ => ?_, fun e => absurd b0 e⟩
      refine ⟨v2, ?_⟩
      refine ⟨v3, ?_⟩
      refine ⟨v4, ?_⟩
      refine ⟨fun e => absurd e b3, fun _ => ?_⟩
      refine ⟨_, _, _, M_floor _ _ _ _ ?_, by omega, by omega, by decide⟩
      refine nxtG_ok hK (hI _ _ _ _) ?_ ?_ <;> omega
  · skip
    refine ⟨v2, ?_⟩
    refine ⟨v3, ?_⟩
    refine ⟨v4, ?_⟩
    refine ⟨fun b3 => ?_, fun b3 => ?_⟩
    · skip
      refine ⟨_, _, _, K_floor _ _ _ _ (anK_any (fun c n1 w1 t1 => ?_)), by omega, by omega, by decide⟩
      refine ⟨v1, ?_⟩
      refine ⟨fun e => absurd e b0, fun _ => ?_⟩
      refine ⟨v2, ?_⟩
      refine ⟨v3, ?_⟩
      refine ⟨v4, ?_⟩
      refine ⟨fun _ => ?_, fun e => absurd b3 e⟩
      refine ⟨_, _, _, M_floor _ _ _ _ ?_, by omega, by omega, by decide⟩
      refine nxtG_ok hK (hI _ _ _ _) ?_ ?_ <;> omega
    · skip
      refine ⟨_, _, _, K_floor _ _ _ _ (anK_any (fun c n1 w1 t1 => ?_)), by omega, by omega, by decide⟩
      refine ⟨v1, ?_⟩
      refine ⟨fun e => absurd e b0, fun _ => ?_⟩
      refine ⟨v2, ?_⟩
      refine ⟨v3, ?_⟩
      refine ⟨v4, ?_⟩
      refine ⟨fun e => absurd e b3, fun _ => ?_⟩
      refine ⟨_, _, _, M_floor _ _ _ _ ?_, by omega, by omega, by decide⟩
      refine nxtG_ok hK (hI _ _ _ _) ?_ ?_ <;> omega
theorem c_floorInt (hv : hvs P i) (hI : ∀ k f r : Int32, I (xFloorInt k f r x).2 (m_floorInt k f r s).2) (hcb : c0 + 1000 ≤ cb) (hsb : s0 + 14000 ≤ sb) (hK : nxtG P K I i c0 s0) : G P n_K_law K 30 1156 [some (.retAddr 0), some (.ref 0), some (.ref 5), some (.ref 13), some (.int i), none, none] [] (hm s x (oc n w :: t)) cb sb := by
  obtain ⟨v1, v2, v3, v4, v5⟩ := hv
  refine go ok_K_law 120 ?_
  refine ⟨v1, ?_⟩
  refine ⟨v2, ?_⟩
  refine ⟨v3, ?_⟩
  refine ⟨fun b2 => ?_, fun b2 => ?_⟩
  · skip
    refine ⟨_, _, _, K_floorInt _ _ _ (anK_any (fun c n1 w1 t1 => ?_)), by omega, by omega, by decide⟩
    refine ⟨v1, ?_⟩
    refine ⟨v2, ?_⟩
    refine ⟨v3, ?_⟩
    refine ⟨fun _ => ?_, fun e => absurd b2 e⟩
    refine ⟨_, _, _, M_floorInt _ _ _ ?_, by omega, by omega, by decide⟩
    refine nxtG_ok hK (hI _ _ _) ?_ ?_ <;> omega
  · skip
    refine ⟨_, _, _, K_floorInt _ _ _ (anK_any (fun c n1 w1 t1 => ?_)), by omega, by omega, by decide⟩
    refine ⟨v1, ?_⟩
    refine ⟨v2, ?_⟩
    refine ⟨v3, ?_⟩
    refine ⟨fun e => absurd e b2, fun _ => ?_⟩
    refine ⟨_, _, _, M_floorInt _ _ _ ?_, by omega, by omega, by decide⟩
    refine nxtG_ok hK (hI _ _ _) ?_ ?_ <;> omega
theorem c_towards (hv : hvs P i) (hI : ∀ l k f r : Int32, I (xTowards l k f r x).2 (m_towards l k f r s).2) (hcb : c0 + 1000 ≤ cb) (hsb : s0 + 14000 ≤ sb) (hK : nxtG P K I i c0 s0) : G P n_K_law K 30 1224 [some (.retAddr 0), some (.ref 0), some (.ref 5), some (.ref 13), some (.int i), none, none] [] (hm s x (oc n w :: t)) cb sb := by
  obtain ⟨v1, v2, v3, v4, v5⟩ := hv
  refine go ok_K_law 120 ?_
  refine ⟨v1, ?_⟩
  refine ⟨fun b0 => ?_, fun b0 => ?_⟩
  · skip
    refine ⟨v2, ?_⟩
    refine ⟨v3, ?_⟩
    refine ⟨v4, ?_⟩
    refine ⟨fun b3 => ?_, fun b3 => ?_⟩
    · skip
      refine ⟨_, _, _, K_towards _ _ _ _ (anK_any (fun c n1 w1 t1 => ?_)), by omega, by omega, by decide⟩
      refine ⟨v1, ?_⟩
      refine ⟨fun _ => ?_, fun e => absurd b0 e⟩
      refine ⟨v2, ?_⟩
      refine ⟨v3, ?_⟩
      refine ⟨v4, ?_⟩
      refine ⟨fun _ => ?_, fun e => absurd b3 e⟩
      refine ⟨_, _, _, M_towards _ _ _ _ ?_, by omega, by omega, by decide⟩
      refine nxtG_ok hK (hI _ _ _ _) ?_ ?_ <;> omega
    · skip
      refine ⟨_, _, _, K_towards _ _ _ _ (anK_any (fun c n1 w1 t1 => ?_)), by omega, by omega, by decide⟩
      refine ⟨v1, ?_⟩
      refine ⟨fun _ => ?_, fun e => absurd b0 e⟩
      refine ⟨v2, ?_⟩
      refine ⟨v3, ?_⟩
      refine ⟨v4, ?_⟩
      refine ⟨fun e => absurd e b3, fun _ => ?_⟩
      refine ⟨_, _, _, M_towards _ _ _ _ ?_, by omega, by omega, by decide⟩
      refine nxtG_ok hK (hI _ _ _ _) ?_ ?_ <;> omega
  · skip
    refine ⟨v2, ?_⟩
    refine ⟨v3, ?_⟩
    refine ⟨v4, ?_⟩
    refine ⟨fun b3 => ?_, fun b3 => ?_⟩
    · skip
      refine ⟨_, _, _, K_towards _ _ _ _ (anK_any (fun c n1 w1 t1 => ?_)), by omega, by omega, by decide⟩
      refine ⟨v1, ?_⟩
      refine ⟨fun e => absurd e b0, fun _ => ?_⟩
      refine ⟨v2, ?_⟩
      refine ⟨v3, ?_⟩
      refine ⟨v4, ?_⟩
      refine ⟨fun _ => ?_, fun e => absurd b3 e⟩
      refine ⟨_, _, _, M_towards _ _ _ _ ?_, by omega, by omega, by decide⟩
      refine nxtG_ok hK (hI _ _ _ _) ?_ ?_ <;> omega
    · skip
      refine ⟨_, _, _, K_towards _ _ _ _ (anK_any (fun c n1 w1 t1 => ?_)), by omega, by omega, by decide⟩
      refine ⟨v1, ?_⟩
      refine ⟨fun e => absurd e b0, fun _ => ?_⟩
      refine ⟨v2, ?_⟩
      refine ⟨v3, ?_⟩
      refine ⟨v4, ?_⟩
      refine ⟨fun e => absurd e b3, fun _ => ?_⟩
      refine ⟨_, _, _, M_towards _ _ _ _ ?_, by omega, by omega, by decide⟩
      refine nxtG_ok hK (hI _ _ _ _) ?_ ?_ <;> omega
theorem c_average (hv : hvs P i) (hI : ∀ l k f u : Int32, I (xAverage l k f u x).2 (m_average l k f u s).2) (hcb : c0 + 1000 ≤ cb) (hsb : s0 + 14000 ≤ sb) (hK : nxtG P K I i c0 s0) : G P n_K_law K 30 1320 [some (.retAddr 0), some (.ref 0), some (.ref 5), some (.ref 13), some (.int i), none, none] [] (hm s x (oc n w :: t)) cb sb := by
  obtain ⟨v1, v2, v3, v4, v5⟩ := hv
  refine go ok_K_law 120 ?_
  refine ⟨v1, ?_⟩
  refine ⟨fun b0 => ?_, fun b0 => ?_⟩
  · skip
    refine ⟨v2, ?_⟩
    refine ⟨v3, ?_⟩
    refine ⟨v4, ?_⟩
    refine ⟨fun b3 => ?_, fun b3 => ?_⟩
    · skip
      refine ⟨_, _, _, K_average _ _ _ _ (anK_any (fun c n1 w1 t1 => ?_)), by omega, by omega, by decide⟩
      refine ⟨v1, ?_⟩
      refine ⟨fun _ => ?_, fun e => absurd b0 e⟩
      refine ⟨v2, ?_⟩
      refine ⟨v3, ?_⟩
      refine ⟨v4, ?_⟩
      refine ⟨fun _ => ?_, fun e => absurd b3 e⟩
      refine ⟨_, _, _, M_average _ _ _ _ ?_, by omega, by omega, by decide⟩
      refine nxtG_ok hK (hI _ _ _ _) ?_ ?_ <;> omega
    · skip
      refine ⟨_, _, _, K_average _ _ _ _ (anK_any (fun c n1 w1 t1 => ?_)), by omega, by omega, by decide⟩
      refine ⟨v1, ?_⟩
      refine ⟨fun _ => ?_, fun e => absurd b0 e⟩
      refine ⟨v2, ?_⟩
      refine ⟨v3, ?_⟩
      refine ⟨v4, ?_⟩
      refine ⟨fun e => absurd e b3, fun _ => ?_⟩
      refine ⟨_, _, _, M_average _ _ _ _ ?_, by omega, by omega, by decide⟩
      refine nxtG_ok hK (hI _ _ _ _) ?_ ?_ <;> omega
  · skip
    refine ⟨v2, ?_⟩
    refine ⟨v3, ?_⟩
    refine ⟨v4, ?_⟩
    refine ⟨fun b3 => ?_, fun b3 => ?_⟩
    · skip
      refine ⟨_, _, _, K_average _ _ _ _ (anK_any (fun c n1 w1 t1 => ?_)), by omega, by omega, by decide⟩
      refine ⟨v1, ?_⟩
      refine ⟨fun e => absurd e b0, fun _ => ?_⟩
      refine ⟨v2, ?_⟩
      refine ⟨v3, ?_⟩
      refine ⟨v4, ?_⟩
      refine ⟨fun _ => ?_, fun e => absurd b3 e⟩
      refine ⟨_, _, _, M_average _ _ _ _ ?_, by omega, by omega, by decide⟩
      refine nxtG_ok hK (hI _ _ _ _) ?_ ?_ <;> omega
    · skip
      refine ⟨_, _, _, K_average _ _ _ _ (anK_any (fun c n1 w1 t1 => ?_)), by omega, by omega, by decide⟩
      refine ⟨v1, ?_⟩
      refine ⟨fun e => absurd e b0, fun _ => ?_⟩
      refine ⟨v2, ?_⟩
      refine ⟨v3, ?_⟩
      refine ⟨v4, ?_⟩
      refine ⟨fun e => absurd e b3, fun _ => ?_⟩
      refine ⟨_, _, _, M_average _ _ _ _ ?_, by omega, by omega, by decide⟩
      refine nxtG_ok hK (hI _ _ _ _) ?_ ?_ <;> omega
theorem c_chain (hv : hvs P i) (hI : ∀ k a b c : Int32, I (xChain k a b c x).2 (m_chain k a b c s).2) (hcb : c0 + 1000 ≤ cb) (hsb : s0 + 14000 ≤ sb) (hK : nxtG P K I i c0 s0) : G P n_K_law K 30 1416 [some (.retAddr 0), some (.ref 0), some (.ref 5), some (.ref 13), some (.int i), none, none] [] (hm s x (oc n w :: t)) cb sb := by
  obtain ⟨v1, v2, v3, v4, v5⟩ := hv
  refine go ok_K_law 120 ?_
  refine ⟨v1, ?_⟩
  refine ⟨v2, ?_⟩
  refine ⟨v3, ?_⟩
  refine ⟨v4, ?_⟩
  refine ⟨_, _, _, K_chain _ _ _ _ (anK_any (fun c n1 w1 t1 => ?_)), by omega, by omega, by decide⟩
  refine ⟨v1, ?_⟩
  refine ⟨v2, ?_⟩
  refine ⟨v3, ?_⟩
  refine ⟨v4, ?_⟩
  refine ⟨_, _, _, M_chain _ _ _ _ ?_, by omega, by omega, by decide⟩
  refine nxtG_ok hK (hI _ _ _ _) ?_ ?_ <;> omega
theorem c_atOnce (hv : hvs P i) (hI : ∀ k a b c : Int32, I (xAtOnce k a b c x).2 (m_atOnce k a b c s).2) (hcb : c0 + 1000 ≤ cb) (hsb : s0 + 14000 ≤ sb) (hK : nxtG P K I i c0 s0) : G P n_K_law K 30 1480 [some (.retAddr 0), some (.ref 0), some (.ref 5), some (.ref 13), some (.int i), none, none] [] (hm s x (oc n w :: t)) cb sb := by
  obtain ⟨v1, v2, v3, v4, v5⟩ := hv
  refine go ok_K_law 120 ?_
  refine ⟨v1, ?_⟩
  refine ⟨v2, ?_⟩
  refine ⟨v3, ?_⟩
  refine ⟨v4, ?_⟩
  refine ⟨_, _, _, K_atOnce _ _ _ _ (anK_any (fun c n1 w1 t1 => ?_)), by omega, by omega, by decide⟩
  refine ⟨v1, ?_⟩
  refine ⟨v2, ?_⟩
  refine ⟨v3, ?_⟩
  refine ⟨v4, ?_⟩
  refine ⟨_, _, _, M_atOnce _ _ _ _ ?_, by omega, by omega, by decide⟩
  refine nxtG_ok hK (hI _ _ _ _) ?_ ?_ <;> omega
theorem c_distance (hv : hvs P i) (hI : ∀ l a b : Int32, I (xDistance l a b x).2 (m_distance a b s)) (hcb : c0 + 1000 ≤ cb) (hsb : s0 + 14000 ≤ sb) (hK : nxtG P K I i c0 s0) : G P n_K_law K 30 1544 [some (.retAddr 0), some (.ref 0), some (.ref 5), some (.ref 13), some (.int i), none, none] [] (hm s x (oc n w :: t)) cb sb := by
  obtain ⟨v1, v2, v3, v4, v5⟩ := hv
  refine go ok_K_law 120 ?_
  refine ⟨v1, ?_⟩
  refine ⟨fun b0 => ?_, fun b0 => ?_⟩
  · skip
    refine ⟨v2, ?_⟩
    refine ⟨v3, ?_⟩
    refine ⟨_, _, _, K_distance _ _ _ (anS_any (fun c n1 w1 t1 => ?_)), by omega, by omega, by decide⟩
    refine ⟨v1, ?_⟩
    refine ⟨fun _ => ?_, fun e => absurd b0 e⟩
    refine ⟨v2, ?_⟩
    refine ⟨v3, ?_⟩
    refine ⟨_, _, _, M_distance _ _ _ ⟨?_, fun l9 r9 => ?_⟩, by omega, by omega, by decide⟩
    · refine nxtG_ok hK (hI _ _ _) ?_ ?_ <;> omega
    · refine nxtG_ok hK (hI _ _ _) ?_ ?_ <;> omega
  · skip
    refine ⟨v2, ?_⟩
    refine ⟨v3, ?_⟩
    refine ⟨_, _, _, K_distance _ _ _ (anS_any (fun c n1 w1 t1 => ?_)), by omega, by omega, by decide⟩
    refine ⟨v1, ?_⟩
    refine ⟨fun e => absurd e b0, fun _ => ?_⟩
    refine ⟨v2, ?_⟩
    refine ⟨v3, ?_⟩
    refine ⟨_, _, _, M_distance _ _ _ ⟨?_, fun l9 r9 => ?_⟩, by omega, by omega, by decide⟩
    · refine nxtG_ok hK (hI _ _ _) ?_ ?_ <;> omega
    · refine nxtG_ok hK (hI _ _ _) ?_ ?_ <;> omega
theorem c_compare (hv : hvs P i) (hI : ∀ l k f : Int32, I (xCompare l k f x).2 (m_compare l k f s).2) (hcb : c0 + 1000 ≤ cb) (hsb : s0 + 14000 ≤ sb) (hK : nxtG P K I i c0 s0) : G P n_K_law K 30 1612 [some (.retAddr 0), some (.ref 0), some (.ref 5), some (.ref 13), some (.int i), none, none] [] (hm s x (oc n w :: t)) cb sb := by
  obtain ⟨v1, v2, v3, v4, v5⟩ := hv
  refine go ok_K_law 120 ?_
  refine ⟨v1, ?_⟩
  refine ⟨fun b0 => ?_, fun b0 => ?_⟩
  · skip
    refine ⟨v2, ?_⟩
    refine ⟨v3, ?_⟩
    refine ⟨_, _, _, K_compare _ _ _ (anK_any (fun c n1 w1 t1 => ?_)), by omega, by omega, by decide⟩
    refine ⟨v1, ?_⟩
    refine ⟨fun _ => ?_, fun e => absurd b0 e⟩
    refine ⟨v2, ?_⟩
    refine ⟨v3, ?_⟩
    refine ⟨_, _, _, M_compare _ _ _ ?_, by omega, by omega, by decide⟩
    refine nxtG_ok hK (hI _ _ _) ?_ ?_ <;> omega
  · skip
    refine ⟨v2, ?_⟩
    refine ⟨v3, ?_⟩
    refine ⟨_, _, _, K_compare _ _ _ (anK_any (fun c n1 w1 t1 => ?_)), by omega, by omega, by decide⟩
    refine ⟨v1, ?_⟩
    refine ⟨fun e => absurd e b0, fun _ => ?_⟩
    refine ⟨v2, ?_⟩
    refine ⟨v3, ?_⟩
    refine ⟨_, _, _, M_compare _ _ _ ?_, by omega, by omega, by decide⟩
    refine nxtG_ok hK (hI _ _ _) ?_ ?_ <;> omega
theorem c_text (hv : hvs P i) (hI : ∀ l k : Int32, I (xText l k x).2 (m_text k s)) (hcb : c0 + 1000 ≤ cb) (hsb : s0 + 14000 ≤ sb) (hK : nxtG P K I i c0 s0) : G P n_K_law K 30 1680 [some (.retAddr 0), some (.ref 0), some (.ref 5), some (.ref 13), some (.int i), none, none] [] (hm s x (oc n w :: t)) cb sb := by
  obtain ⟨v1, v2, v3, v4, v5⟩ := hv
  refine go ok_K_law 120 ?_
  refine ⟨v1, ?_⟩
  refine ⟨fun b0 => ?_, fun b0 => ?_⟩
  · skip
    refine ⟨v2, ?_⟩
    refine ⟨_, _, _, K_text _ _ (anS_any (fun c n1 w1 t1 => ?_)), by omega, by omega, by decide⟩
    refine ⟨v1, ?_⟩
    refine ⟨fun _ => ?_, fun e => absurd b0 e⟩
    refine ⟨v2, ?_⟩
    refine ⟨_, _, _, M_text _ _ ⟨?_, fun l9 r9 => ?_⟩, by omega, by omega, by decide⟩
    · refine nxtG_ok hK (hI _ _) ?_ ?_ <;> omega
    · refine nxtG_ok hK (hI _ _) ?_ ?_ <;> omega
  · skip
    refine ⟨v2, ?_⟩
    refine ⟨_, _, _, K_text _ _ (anS_any (fun c n1 w1 t1 => ?_)), by omega, by omega, by decide⟩
    refine ⟨v1, ?_⟩
    refine ⟨fun e => absurd e b0, fun _ => ?_⟩
    refine ⟨v2, ?_⟩
    refine ⟨_, _, _, M_text _ _ ⟨?_, fun l9 r9 => ?_⟩, by omega, by omega, by decide⟩
    · refine nxtG_ok hK (hI _ _) ?_ ?_ <;> omega
    · refine nxtG_ok hK (hI _ _) ?_ ?_ <;> omega
theorem c_ofNumber (hv : hvs P i) (hI : ∀ l k q : Int32, I (xOfNumber l k q x).2 (m_ofNumber l k q s).2) (hcb : c0 + 1000 ≤ cb) (hsb : s0 + 14000 ≤ sb) (hK : nxtG P K I i c0 s0) : G P n_K_law K 30 1736 [some (.retAddr 0), some (.ref 0), some (.ref 5), some (.ref 13), some (.int i), none, none] [] (hm s x (oc n w :: t)) cb sb := by
  obtain ⟨v1, v2, v3, v4, v5⟩ := hv
  refine go ok_K_law 120 ?_
  refine ⟨v1, ?_⟩
  refine ⟨fun b0 => ?_, fun b0 => ?_⟩
  · skip
    refine ⟨v2, ?_⟩
    refine ⟨v3, ?_⟩
    refine ⟨_, _, _, K_ofNumber _ _ _ (anK_any (fun c n1 w1 t1 => ?_)), by omega, by omega, by decide⟩
    refine ⟨v1, ?_⟩
    refine ⟨fun _ => ?_, fun e => absurd b0 e⟩
    refine ⟨v2, ?_⟩
    refine ⟨v3, ?_⟩
    refine ⟨_, _, _, M_ofNumber _ _ _ (fun t9 => ?_), by omega, by omega, by decide⟩
    refine nxtG_ok hK (hI _ _ _) ?_ ?_ <;> omega
  · skip
    refine ⟨v2, ?_⟩
    refine ⟨v3, ?_⟩
    refine ⟨_, _, _, K_ofNumber _ _ _ (anK_any (fun c n1 w1 t1 => ?_)), by omega, by omega, by decide⟩
    refine ⟨v1, ?_⟩
    refine ⟨fun e => absurd e b0, fun _ => ?_⟩
    refine ⟨v2, ?_⟩
    refine ⟨v3, ?_⟩
    refine ⟨_, _, _, M_ofNumber _ _ _ (fun t9 => ?_), by omega, by omega, by decide⟩
    refine nxtG_ok hK (hI _ _ _) ?_ ?_ <;> omega
theorem c_rest (hv : hvs P i) (hI : ∀ l k m : Int32, I (xRest l k m x).2 (m_rest l k m s).2) (hcb : c0 + 1000 ≤ cb) (hsb : s0 + 14000 ≤ sb) (hK : nxtG P K I i c0 s0) : G P n_K_law K 30 1804 [some (.retAddr 0), some (.ref 0), some (.ref 5), some (.ref 13), some (.int i), none, none] [] (hm s x (oc n w :: t)) cb sb := by
  obtain ⟨v1, v2, v3, v4, v5⟩ := hv
  refine go ok_K_law 120 ?_
  refine ⟨v1, ?_⟩
  refine ⟨fun b0 => ?_, fun b0 => ?_⟩
  · skip
    refine ⟨v2, ?_⟩
    refine ⟨v3, ?_⟩
    refine ⟨_, _, _, K_rest _ _ _ (anK_any (fun c n1 w1 t1 => ?_)), by omega, by omega, by decide⟩
    refine ⟨v1, ?_⟩
    refine ⟨fun _ => ?_, fun e => absurd b0 e⟩
    refine ⟨v2, ?_⟩
    refine ⟨v3, ?_⟩
    refine ⟨_, _, _, M_rest _ _ _ ?_, by omega, by omega, by decide⟩
    refine nxtG_ok hK (hI _ _ _) ?_ ?_ <;> omega
  · skip
    refine ⟨v2, ?_⟩
    refine ⟨v3, ?_⟩
    refine ⟨_, _, _, K_rest _ _ _ (anK_any (fun c n1 w1 t1 => ?_)), by omega, by omega, by decide⟩
    refine ⟨v1, ?_⟩
    refine ⟨fun e => absurd e b0, fun _ => ?_⟩
    refine ⟨v2, ?_⟩
    refine ⟨v3, ?_⟩
    refine ⟨_, _, _, M_rest _ _ _ ?_, by omega, by omega, by decide⟩
    refine nxtG_ok hK (hI _ _ _) ?_ ?_ <;> omega
theorem c_quotient (hv : hvs P i) (hI : ∀ l k m : Int32, I (xQuotient l k m x).2 (m_quotient k m s)) (hcb : c0 + 1000 ≤ cb) (hsb : s0 + 14000 ≤ sb) (hK : nxtG P K I i c0 s0) : G P n_K_law K 30 1872 [some (.retAddr 0), some (.ref 0), some (.ref 5), some (.ref 13), some (.int i), none, none] [] (hm s x (oc n w :: t)) cb sb := by
  obtain ⟨v1, v2, v3, v4, v5⟩ := hv
  refine go ok_K_law 120 ?_
  refine ⟨v1, ?_⟩
  refine ⟨fun b0 => ?_, fun b0 => ?_⟩
  · skip
    refine ⟨v2, ?_⟩
    refine ⟨v3, ?_⟩
    refine ⟨_, _, _, K_quotient _ _ _ (anS_any (fun c n1 w1 t1 => ?_)), by omega, by omega, by decide⟩
    refine ⟨v1, ?_⟩
    refine ⟨fun _ => ?_, fun e => absurd b0 e⟩
    refine ⟨v2, ?_⟩
    refine ⟨v3, ?_⟩
    refine ⟨_, _, _, M_quotient _ _ _ ⟨?_, fun l9 r9 => ?_⟩, by omega, by omega, by decide⟩
    · refine nxtG_ok hK (hI _ _ _) ?_ ?_ <;> omega
    · refine nxtG_ok hK (hI _ _ _) ?_ ?_ <;> omega
  · skip
    refine ⟨v2, ?_⟩
    refine ⟨v3, ?_⟩
    refine ⟨_, _, _, K_quotient _ _ _ (anS_any (fun c n1 w1 t1 => ?_)), by omega, by omega, by decide⟩
    refine ⟨v1, ?_⟩
    refine ⟨fun e => absurd e b0, fun _ => ?_⟩
    refine ⟨v2, ?_⟩
    refine ⟨v3, ?_⟩
    refine ⟨_, _, _, M_quotient _ _ _ ⟨?_, fun l9 r9 => ?_⟩, by omega, by omega, by decide⟩
    · refine nxtG_ok hK (hI _ _ _) ?_ ?_ <;> omega
    · refine nxtG_ok hK (hI _ _ _) ?_ ?_ <;> omega
theorem c_modulus (hv : hvs P i) (hI : ∀ r m : Int32, I (xModulus r m x).2 (m_modulus r m s).2) (hcb : c0 + 1000 ≤ cb) (hsb : s0 + 14000 ≤ sb) (hK : nxtG P K I i c0 s0) : G P n_K_law K 30 1940 [some (.retAddr 0), some (.ref 0), some (.ref 5), some (.ref 13), some (.int i), none, none] [] (hm s x (oc n w :: t)) cb sb := by
  obtain ⟨v1, v2, v3, v4, v5⟩ := hv
  refine go ok_K_law 120 ?_
  refine ⟨v1, ?_⟩
  refine ⟨v2, ?_⟩
  refine ⟨_, _, _, K_modulus _ _ (anK_any (fun c n1 w1 t1 => ?_)), by omega, by omega, by decide⟩
  refine ⟨v1, ?_⟩
  refine ⟨v2, ?_⟩
  refine ⟨_, _, _, M_modulus _ _ ?_, by omega, by omega, by decide⟩
  refine nxtG_ok hK (hI _ _) ?_ ?_ <;> omega
theorem c_bring (hv : hvs P i) (hz : ∀ r, ¬ mMod r s = 0) (hI : ∀ r k l f : Int32, I (xBring r k l f x).2 (m_bring r k l f s).2) (hcb : c0 + 1000 ≤ cb) (hsb : s0 + 14000 ≤ sb) (hK : nxtG P K I i c0 s0) : G P n_K_law K 30 1980 [some (.retAddr 0), some (.ref 0), some (.ref 5), some (.ref 13), some (.int i), none, none] [] (hm s x (oc n w :: t)) cb sb := by
  have hz64 := fun r => nz64 (hz r)
  obtain ⟨v1, v2, v3, v4, v5⟩ := hv
  refine go ok_K_law 120 ?_
  refine ⟨v1, ?_⟩
  refine ⟨v2, ?_⟩
  refine ⟨v3, ?_⟩
  refine ⟨fun b2 => ?_, fun b2 => ?_⟩
  · skip
    refine ⟨v4, ?_⟩
    refine ⟨_, _, _, K_bring _ _ _ _ (anK_any (fun c n1 w1 t1 => ?_)), by omega, by omega, by decide⟩
    refine ⟨v1, ?_⟩
    refine ⟨v2, ?_⟩
    refine ⟨v3, ?_⟩
    refine ⟨fun _ => ?_, fun e => absurd b2 e⟩
    refine ⟨v4, ?_⟩
    refine ⟨_, _, _, M_bring _ _ _ _ (hz64 _) ?_, by omega, by omega, by decide⟩
    refine nxtG_ok hK (hI _ _ _ _) ?_ ?_ <;> omega
  · skip
    refine ⟨v4, ?_⟩
    refine ⟨_, _, _, K_bring _ _ _ _ (anK_any (fun c n1 w1 t1 => ?_)), by omega, by omega, by decide⟩
    refine ⟨v1, ?_⟩
    refine ⟨v2, ?_⟩
    refine ⟨v3, ?_⟩
    refine ⟨fun e => absurd e b2, fun _ => ?_⟩
    refine ⟨v4, ?_⟩
    refine ⟨_, _, _, M_bring _ _ _ _ (hz64 _) ?_, by omega, by omega, by decide⟩
    refine nxtG_ok hK (hI _ _ _ _) ?_ ?_ <;> omega
theorem c_lift (hv : hvs P i) (hI : ∀ r i l k : Int32, I (xLift r i l k x).2 (m_lift r i l k s).2) (hcb : c0 + 1000 ≤ cb) (hsb : s0 + 14000 ≤ sb) (hK : nxtG P K I i c0 s0) : G P n_K_law K 30 2060 [some (.retAddr 0), some (.ref 0), some (.ref 5), some (.ref 13), some (.int i), none, none] [] (hm s x (oc n w :: t)) cb sb := by
  obtain ⟨v1, v2, v3, v4, v5⟩ := hv
  refine go ok_K_law 120 ?_
  refine ⟨v1, ?_⟩
  refine ⟨v2, ?_⟩
  refine ⟨v3, ?_⟩
  refine ⟨fun b2 => ?_, fun b2 => ?_⟩
  · skip
    refine ⟨v4, ?_⟩
    refine ⟨_, _, _, K_lift _ _ _ _ (anK_any (fun c n1 w1 t1 => ?_)), by omega, by omega, by decide⟩
    refine ⟨v1, ?_⟩
    refine ⟨v2, ?_⟩
    refine ⟨v3, ?_⟩
    refine ⟨fun _ => ?_, fun e => absurd b2 e⟩
    refine ⟨v4, ?_⟩
    refine ⟨_, _, _, M_lift _ _ _ _ ?_, by omega, by omega, by decide⟩
    refine nxtG_ok hK (hI _ _ _ _) ?_ ?_ <;> omega
  · skip
    refine ⟨v4, ?_⟩
    refine ⟨_, _, _, K_lift _ _ _ _ (anK_any (fun c n1 w1 t1 => ?_)), by omega, by omega, by decide⟩
    refine ⟨v1, ?_⟩
    refine ⟨v2, ?_⟩
    refine ⟨v3, ?_⟩
    refine ⟨fun e => absurd e b2, fun _ => ?_⟩
    refine ⟨v4, ?_⟩
    refine ⟨_, _, _, M_lift _ _ _ _ ?_, by omega, by omega, by decide⟩
    refine nxtG_ok hK (hI _ _ _ _) ?_ ?_ <;> omega
theorem c_plus (hv : hvs P i) (hz : ∀ r, ¬ mMod r s = 0) (hI : ∀ r k f m : Int32, I (xPlus r k f m x).2 (m_plus r k f m s).2) (hcb : c0 + 1000 ≤ cb) (hsb : s0 + 14000 ≤ sb) (hK : nxtG P K I i c0 s0) : G P n_K_law K 30 2140 [some (.retAddr 0), some (.ref 0), some (.ref 5), some (.ref 13), some (.int i), none, none] [] (hm s x (oc n w :: t)) cb sb := by
  have hz64 := fun r => nz64 (hz r)
  obtain ⟨v1, v2, v3, v4, v5⟩ := hv
  refine go ok_K_law 120 ?_
  refine ⟨v1, ?_⟩
  refine ⟨v2, ?_⟩
  refine ⟨v3, ?_⟩
  refine ⟨v4, ?_⟩
  refine ⟨fun b3 => ?_, fun b3 => ?_⟩
  · skip
    refine ⟨_, _, _, K_plus _ _ _ _ (anK_any (fun c n1 w1 t1 => ?_)), by omega, by omega, by decide⟩
    refine ⟨v1, ?_⟩
    refine ⟨v2, ?_⟩
    refine ⟨v3, ?_⟩
    refine ⟨v4, ?_⟩
    refine ⟨fun _ => ?_, fun e => absurd b3 e⟩
    refine ⟨_, _, _, M_plus _ _ _ _ (hz64 _) ?_, by omega, by omega, by decide⟩
    refine nxtG_ok hK (hI _ _ _ _) ?_ ?_ <;> omega
  · skip
    refine ⟨_, _, _, K_plus _ _ _ _ (anK_any (fun c n1 w1 t1 => ?_)), by omega, by omega, by decide⟩
    refine ⟨v1, ?_⟩
    refine ⟨v2, ?_⟩
    refine ⟨v3, ?_⟩
    refine ⟨v4, ?_⟩
    refine ⟨fun e => absurd e b3, fun _ => ?_⟩
    refine ⟨_, _, _, M_plus _ _ _ _ (hz64 _) ?_, by omega, by omega, by decide⟩
    refine nxtG_ok hK (hI _ _ _ _) ?_ ?_ <;> omega
theorem c_times (hv : hvs P i) (hz : ∀ r, ¬ mMod r s = 0) (hI : ∀ r k f : Int32, I (xTimes r k f x).2 (m_times r k f s).2) (hcb : c0 + 1000 ≤ cb) (hsb : s0 + 14000 ≤ sb) (hK : nxtG P K I i c0 s0) : G P n_K_law K 30 2220 [some (.retAddr 0), some (.ref 0), some (.ref 5), some (.ref 13), some (.int i), none, none] [] (hm s x (oc n w :: t)) cb sb := by
  have hz64 := fun r => nz64 (hz r)
  obtain ⟨v1, v2, v3, v4, v5⟩ := hv
  refine go ok_K_law 120 ?_
  refine ⟨v1, ?_⟩
  refine ⟨v2, ?_⟩
  refine ⟨v3, ?_⟩
  refine ⟨_, _, _, K_times _ _ _ (anK_any (fun c n1 w1 t1 => ?_)), by omega, by omega, by decide⟩
  refine ⟨v1, ?_⟩
  refine ⟨v2, ?_⟩
  refine ⟨v3, ?_⟩
  refine ⟨_, _, _, M_times _ _ _ (hz64 _) ?_, by omega, by omega, by decide⟩
  refine nxtG_ok hK (hI _ _ _) ?_ ?_ <;> omega
theorem c_power (hv : hvs P i) (hz : ∀ r, ¬ mMod r s = 0) (hI : ∀ r k e : Int32, I (xPower r k e x).2 (m_power r k e s).2) (hcb : c0 + 1000 ≤ cb) (hsb : s0 + 14000 ≤ sb) (hK : nxtG P K I i c0 s0) : G P n_K_law K 30 2272 [some (.retAddr 0), some (.ref 0), some (.ref 5), some (.ref 13), some (.int i), none, none] [] (hm s x (oc n w :: t)) cb sb := by
  have hz64 := fun r => nz64 (hz r)
  obtain ⟨v1, v2, v3, v4, v5⟩ := hv
  refine go ok_K_law 120 ?_
  refine ⟨v1, ?_⟩
  refine ⟨v2, ?_⟩
  refine ⟨v3, ?_⟩
  refine ⟨_, _, _, K_power _ _ _ (anK_any (fun c n1 w1 t1 => ?_)), by omega, by omega, by decide⟩
  refine ⟨v1, ?_⟩
  refine ⟨v2, ?_⟩
  refine ⟨v3, ?_⟩
  refine ⟨_, _, _, M_power _ _ _ (hz64 _) ?_, by omega, by omega, by decide⟩
  refine nxtG_ok hK (hI _ _ _) ?_ ?_ <;> omega
theorem c_inverse (hv : hvs P i) (hz : ∀ r, ¬ mMod r s = 0) (hI : ∀ r k : Int32, I (xInverse r k x).2 (m_inverse r k s).2) (hcb : c0 + 1000 ≤ cb) (hsb : s0 + 14000 ≤ sb) (hK : nxtG P K I i c0 s0) : G P n_K_law K 30 2324 [some (.retAddr 0), some (.ref 0), some (.ref 5), some (.ref 13), some (.int i), none, none] [] (hm s x (oc n w :: t)) cb sb := by
  have hz64 := fun r => nz64 (hz r)
  obtain ⟨v1, v2, v3, v4, v5⟩ := hv
  refine go ok_K_law 120 ?_
  refine ⟨v1, ?_⟩
  refine ⟨v2, ?_⟩
  refine ⟨_, _, _, K_inverse _ _ (anK_any (fun c n1 w1 t1 => ?_)), by omega, by omega, by decide⟩
  refine ⟨v1, ?_⟩
  refine ⟨v2, ?_⟩
  refine ⟨_, _, _, M_inverse _ _ (hz64 _) ?_, by omega, by omega, by decide⟩
  refine nxtG_ok hK (hI _ _) ?_ ?_ <;> omega
theorem c_isUnit (hv : hvs P i) (hI : ∀ r k : Int32, I (xUnit r k x).2 (m_isUnit r k s).2) (hcb : c0 + 1000 ≤ cb) (hsb : s0 + 14000 ≤ sb) (hK : nxtG P K I i c0 s0) : G P n_K_law K 30 2364 [some (.retAddr 0), some (.ref 0), some (.ref 5), some (.ref 13), some (.int i), none, none] [] (hm s x (oc n w :: t)) cb sb := by
  obtain ⟨v1, v2, v3, v4, v5⟩ := hv
  refine go ok_K_law 120 ?_
  refine ⟨v1, ?_⟩
  refine ⟨v2, ?_⟩
  refine ⟨_, _, _, K_isUnit _ _ (anB_any (fun c n1 w1 t1 => ?_)), by omega, by omega, by decide⟩
  refine ⟨v1, ?_⟩
  refine ⟨v2, ?_⟩
  refine ⟨_, _, _, M_isUnit _ _ ?_, by omega, by omega, by decide⟩
  refine nxtG_ok hK (hI _ _) ?_ ?_ <;> omega
theorem c_residue (hv : hvs P i) (hI : ∀ r k : Int32, I (xResidue r k x).2 (m_residue r k s).2) (hcb : c0 + 1000 ≤ cb) (hsb : s0 + 14000 ≤ sb) (hK : nxtG P K I i c0 s0) : G P n_K_law K 30 2404 [some (.retAddr 0), some (.ref 0), some (.ref 5), some (.ref 13), some (.int i), none, none] [] (hm s x (oc n w :: t)) cb sb := by
  obtain ⟨v1, v2, v3, v4, v5⟩ := hv
  refine go ok_K_law 120 ?_
  refine ⟨v1, ?_⟩
  refine ⟨v2, ?_⟩
  refine ⟨_, _, _, K_residue _ _ (anK_any (fun c n1 w1 t1 => ?_)), by omega, by omega, by decide⟩
  refine ⟨v1, ?_⟩
  refine ⟨v2, ?_⟩
  refine ⟨_, _, _, M_residue _ _ ?_, by omega, by omega, by decide⟩
  refine nxtG_ok hK (hI _ _) ?_ ?_ <;> omega
theorem c_ringText (hv : hvs P i) (hI : ∀ r : Int32, I (xRingText r x).2 (m_ringText r s)) (hcb : c0 + 1000 ≤ cb) (hsb : s0 + 14000 ≤ sb) (hK : nxtG P K I i c0 s0) : G P n_K_law K 30 2444 [some (.retAddr 0), some (.ref 0), some (.ref 5), some (.ref 13), some (.int i), none, none] [] (hm s x (oc n w :: t)) cb sb := by
  obtain ⟨v1, v2, v3, v4, v5⟩ := hv
  refine go ok_K_law 120 ?_
  refine ⟨v1, ?_⟩
  refine ⟨_, _, _, K_ringText _ (anS_any (fun c n1 w1 t1 => ?_)), by omega, by omega, by decide⟩
  refine ⟨v1, ?_⟩
  refine ⟨_, _, _, M_ringText _ ⟨?_, fun l9 r9 => ?_⟩, by omega, by omega, by decide⟩
  · refine nxtG_ok hK (hI _ ) ?_ ?_ <;> omega
  · refine nxtG_ok hK (hI _ ) ?_ ?_ <;> omega
theorem c_areAlike (hv : hvs P i) (hz : ∀ r, ¬ mMod r s = 0) (hI : ∀ r l a b : Int32, I (xAlike r l a b x).2 (m_areAlike r l a b s).2) (hcb : c0 + 1000 ≤ cb) (hsb : s0 + 14000 ≤ sb) (hK : nxtG P K I i c0 s0) : G P n_K_law K 30 2472 [some (.retAddr 0), some (.ref 0), some (.ref 5), some (.ref 13), some (.int i), none, none] [] (hm s x (oc n w :: t)) cb sb := by
  have hz64 := fun r => nz64 (hz r)
  obtain ⟨v1, v2, v3, v4, v5⟩ := hv
  refine go ok_K_law 120 ?_
  refine ⟨v1, ?_⟩
  refine ⟨v2, ?_⟩
  refine ⟨fun b1 => ?_, fun b1 => ?_⟩
  · skip
    refine ⟨v3, ?_⟩
    refine ⟨v4, ?_⟩
    refine ⟨_, _, _, K_areAlike _ _ _ _ (anB_any (fun c n1 w1 t1 => ?_)), by omega, by omega, by decide⟩
    refine ⟨v1, ?_⟩
    refine ⟨v2, ?_⟩
    refine ⟨fun _ => ?_, fun e => absurd b1 e⟩
    refine ⟨v3, ?_⟩
    refine ⟨v4, ?_⟩
    refine ⟨_, _, _, M_areAlike _ _ _ _ (hz64 _) ?_, by omega, by omega, by decide⟩
    refine nxtG_ok hK (hI _ _ _ _) ?_ ?_ <;> omega
  · skip
    refine ⟨v3, ?_⟩
    refine ⟨v4, ?_⟩
    refine ⟨_, _, _, K_areAlike _ _ _ _ (anB_any (fun c n1 w1 t1 => ?_)), by omega, by omega, by decide⟩
    refine ⟨v1, ?_⟩
    refine ⟨v2, ?_⟩
    refine ⟨fun e => absurd e b1, fun _ => ?_⟩
    refine ⟨v3, ?_⟩
    refine ⟨v4, ?_⟩
    refine ⟨_, _, _, M_areAlike _ _ _ _ (hz64 _) ?_, by omega, by omega, by decide⟩
    refine nxtG_ok hK (hI _ _ _ _) ?_ ?_ <;> omega
theorem c_together (hv : hvs P i) (hz : ∀ r, ¬ mMod r s = 0) (hI : ∀ k r a q b : Int32, I (xTogether k r a q b x).2 (m_together k r a q b s).2) (hcb : c0 + 1000 ≤ cb) (hsb : s0 + 14000 ≤ sb) (hK : nxtG P K I i c0 s0) : G P n_K_law K 30 2552 [some (.retAddr 0), some (.ref 0), some (.ref 5), some (.ref 13), some (.int i), none, none] [] (hm s x (oc n w :: t)) cb sb := by
  obtain ⟨v1, v2, v3, v4, v5⟩ := hv
  refine go ok_K_law 120 ?_
  refine ⟨v1, ?_⟩
  refine ⟨v2, ?_⟩
  refine ⟨v3, ?_⟩
  refine ⟨v4, ?_⟩
  refine ⟨v5, ?_⟩
  refine ⟨_, _, _, K_together _ _ _ _ _ (anK_any (fun c n1 w1 t1 => ?_)), by omega, by omega, by decide⟩
  refine ⟨v1, ?_⟩
  refine ⟨v2, ?_⟩
  refine ⟨v3, ?_⟩
  refine ⟨v4, ?_⟩
  refine ⟨v5, ?_⟩
  refine ⟨_, _, _, M_together _ _ _ _ _ (hz _) (hz _) ?_, by omega, by omega, by decide⟩
  refine nxtG_ok hK (hI _ _ _ _ _) ?_ ?_ <;> omega
theorem c_common (hv : hvs P i) (hz : ∀ r, ¬ mMod r s = 0) (hI : ∀ r q : Int32, I (xCommon r q x).2 (m_common r q s)) (hcb : c0 + 1000 ≤ cb) (hsb : s0 + 14000 ≤ sb) (hK : nxtG P K I i c0 s0) : G P n_K_law K 30 2628 [some (.retAddr 0), some (.ref 0), some (.ref 5), some (.ref 13), some (.int i), none, none] [] (hm s x (oc n w :: t)) cb sb := by
  obtain ⟨v1, v2, v3, v4, v5⟩ := hv
  refine go ok_K_law 120 ?_
  refine ⟨v1, ?_⟩
  refine ⟨v2, ?_⟩
  refine ⟨v3, ?_⟩
  refine ⟨fun b2 => ?_, fun b2 => ?_⟩
  · skip
    refine ⟨_, _, _, K_common _ _ _ (anS_any (fun c n1 w1 t1 => ?_)), by omega, by omega, by decide⟩
    refine ⟨v1, ?_⟩
    refine ⟨v2, ?_⟩
    refine ⟨v3, ?_⟩
    refine ⟨fun _ => ?_, fun e => absurd b2 e⟩
    refine ⟨_, _, _, M_common _ _ _ (hz _) (hz _) ⟨?_, fun l9 r9 => ?_⟩, by omega, by omega, by decide⟩
    · refine nxtG_ok hK (hI _ _) ?_ ?_ <;> omega
    · refine nxtG_ok hK (hI _ _) ?_ ?_ <;> omega
  · skip
    refine ⟨_, _, _, K_common _ _ _ (anS_any (fun c n1 w1 t1 => ?_)), by omega, by omega, by decide⟩
    refine ⟨v1, ?_⟩
    refine ⟨v2, ?_⟩
    refine ⟨v3, ?_⟩
    refine ⟨fun e => absurd e b2, fun _ => ?_⟩
    refine ⟨_, _, _, M_common _ _ _ (hz _) (hz _) ⟨?_, fun l9 r9 => ?_⟩, by omega, by omega, by decide⟩
    · refine nxtG_ok hK (hI _ _) ?_ ?_ <;> omega
    · refine nxtG_ok hK (hI _ _) ?_ ?_ <;> omega
theorem c_house (hv : hvs P i) (hI : ∀ q : Int32, I (xHouse q x).2 (m_house q s).2) (hcb : c0 + 1000 ≤ cb) (hsb : s0 + 14000 ≤ sb) (hK : nxtG P K I i c0 s0) : G P n_K_law K 30 2696 [some (.retAddr 0), some (.ref 0), some (.ref 5), some (.ref 13), some (.int i), none, none] [] (hm s x (oc n w :: t)) cb sb := by
  obtain ⟨v1, v2, v3, v4, v5⟩ := hv
  refine go ok_K_law 120 ?_
  refine ⟨v1, ?_⟩
  refine ⟨_, _, _, K_house _ (anK_any (fun c n1 w1 t1 => ?_)), by omega, by omega, by decide⟩
  refine ⟨v1, ?_⟩
  refine ⟨_, _, _, M_house _ ?_, by omega, by omega, by decide⟩
  refine nxtG_ok hK (hI _ ) ?_ ?_ <;> omega
theorem c_knock (hI : I (xKnock x).2 (m_knock s).2) (hcb : c0 + 1000 ≤ cb) (hsb : s0 + 14000 ≤ sb) (hK : nxtG P K I i c0 s0) : G P n_K_law K 30 2724 [some (.retAddr 0), some (.ref 0), some (.ref 5), some (.ref 13), some (.int i), none, none] [] (hm s x (oc n w :: t)) cb sb := by
  refine go ok_K_law 60 ?_
  refine ⟨_, _, _, L_knock ?_, by omega, by omega, by decide⟩
  refine ⟨_, _, _, M_knock ?_, by omega, by omega, by decide⟩
  refine nxtG_ok hK hI ?_ ?_ <;> omega
theorem c_isSound (hI : I x (sT 0 s)) (hcb : c0 + 1000 ≤ cb) (hsb : s0 + 14000 ≤ sb) (hK : nxtG P K I i c0 s0) : G P n_K_law K 30 2737 [some (.retAddr 0), some (.ref 0), some (.ref 5), some (.ref 13), some (.int i), none, none] [] (hm s x (oc n w :: t)) cb sb := by
  refine go ok_K_law 60 ?_
  refine ⟨_, _, _, L_isSound ?_, by omega, by omega, by decide⟩
  refine ⟨_, _, _, M_isSound ?_, by omega, by omega, by decide⟩
  refine nxtG_ok hK hI ?_ ?_ <;> omega
theorem c_none (hI : I x s) (hcb : c0 + 1000 ≤ cb) (hsb : s0 + 14000 ≤ sb) (hK : nxtG P K I i c0 s0) : G P n_K_law K 30 2764 [some (.retAddr 0), some (.ref 0), some (.ref 5), some (.ref 13), some (.int i), none, none] [] (hm s x (oc n w :: t)) cb sb := by
  refine go ok_K_law 60 ?_
  refine nxtG_ok hK hI ?_ ?_ <;> omega
end LAWC
end
section
/-! THE LAW: the case that is compared -/
theorem cd2_nz (E : Nat) : ¬ cd2 E = 0 := by
  unfold cd2
  split <;> decide
theorem cdH_nz (E : Nat) : ¬ cdH E = 0 := by
  unfold cdH
  decide
theorem anK_agr {K : Kt} {s : MS} {n : Int64} {w : Value} {t : mH} {cd : Nat → Int32} {o : Out} {mo : MO} (hz : ∀ E, ¬ cd E = 0) (hA : agI cd o mo) (h : ∀ c n1 w1 t1, mTh mo.2 = c → (c = 0 → n1 = mo.1.toInt64) → K (.inl (some (.int c))) (hm s o.2 (oc n1 w1 :: t1))) : ansK K s n w t cd o := by
  obtain ⟨o, y⟩ := o
  cases o with
  | inl v => exact h _ _ _ _ hA.1 (fun _ => by rw [← hA.2])
  | inr E => exact fun j => h _ _ _ _ hA (fun e => absurd e (hz E))
theorem anB_agr {K : Kt} {s : MS} {n : Int64} {w : Value} {t : mH} {cd : Nat → Int32} {o : Out} {mo : MO} (hz : ∀ E, ¬ cd E = 0) (hA : agI cd o mo) (h : ∀ c n1 w1 t1, mTh mo.2 = c → (c = 0 → n1 = bz mo.1) → K (.inl (some (.int c))) (hm s o.2 (oc n1 w1 :: t1))) : ansB K s n w t cd o := by
  obtain ⟨o, y⟩ := o
  cases o with
  | inl v => exact h _ _ _ _ hA.1 (fun _ => by rw [← hA.2])
  | inr E => exact fun j => h _ _ _ _ hA (fun e => absurd e (hz E))
section LAWM
variable {P : GP} {K : Kt} {I : XS → MS → Prop} {i : Int32} {c0 s0 cb sb : Nat} {x : XS} {s : MS} {n : Int64} {w : Value} {t : mH}
theorem c_digest (hI : I x (sT 0 s)) (hA : xDigest x = m_digest (sT 0 s)) (hcb : c0 + 1000 ≤ cb) (hsb : s0 + 14000 ≤ sb) (hK : nxtG P K I i c0 s0) : G P n_K_law K 30 2750 [some (.retAddr 0), some (.ref 0), some (.ref 5), some (.ref 13), some (.int i), none, none] [] (hm s x (oc n w :: t)) cb sb := by
  refine go ok_K_law 60 ?_
  refine ⟨_, _, _, L_digest ?_, by omega, by omega, by decide⟩
  refine ⟨_, _, _, M_digest (fun t9 => ?_), by omega, by omega, by decide⟩
  refine ⟨fun _ => ?_, fun e => absurd hA e⟩
  refine nxtG_ok hK hI ?_ ?_ <;> omega
end LAWM
theorem lp_hv {P : GP} {i : Int32} (h0 : 0 ≤ i.toInt) (h : i.toInt + 6 ≤ gL P) (hL : gL P ≤ 3072) : hvs P i ∧ vp_in i (gL P) ∧ (i + 6).toInt = i.toInt + 6 := by
  have ad : ∀ (c : Int32) (k : Int), c.toInt = k → 0 ≤ k → k ≤ 6 → (i + c).toInt = i.toInt + k := fun c k hc h1 h2 => by
    rw [Int32.toInt_add, hc]
    exact Int.bmod_eq_of_le (by omega) (by omega)
  have a1 := ad 1 1 (by decide) (by decide) (by decide)
  have a2 := ad 2 2 (by decide) (by decide) (by decide)
  have a3 := ad 3 3 (by decide) (by decide) (by decide)
  have a4 := ad 4 4 (by decide) (by decide) (by decide)
  have a5 := ad 5 5 (by decide) (by decide) (by decide)
  refine ⟨⟨?_, ?_, ?_, ?_, ?_⟩, ?_, ad 6 6 (by decide) (by decide) (by decide)⟩
  · rw [vp_in_iff, a1]
    omega
  · rw [vp_in_iff, a2]
    omega
  · rw [vp_in_iff, a3]
    omega
  · rw [vp_in_iff, a4]
    omega
  · rw [vp_in_iff, a5]
    omega
  · rw [vp_in_iff]
    omega
theorem lp_L {L : Nat} (hL : L ≤ 3072) : (Int32.ofNat L - 6).toInt = (L : Int) - 6 := by
  have e6 : (6 : Int32).toInt = 6 := by decide
  rw [Int32.toInt_sub, oN (by omega), e6]
  exact Int.bmod_eq_of_le (by omega) (by omega)
theorem lp_in {i : Int32} {L : Nat} (hL : L ≤ 3072) (h : ¬ Int32.ofNat L - 6 < i) : i.toInt + 6 ≤ L := by
  rw [Int32.lt_iff_toInt_lt, lp_L hL] at h
  omega
theorem lp_end {i : Int32} {L : Nat} (hL : L ≤ 3072) (h : (L : Int) ≤ i.toInt + 5) : Int32.ofNat L - 6 < i := by
  rw [Int32.lt_iff_toInt_lt, lp_L hL]
  omega
theorem lp_next {i j : Int32} {L m : Nat} (h0 : 0 ≤ i.toInt) (hj : j.toInt = i.toInt + 6) (hm : (L : Int) ≤ i.toInt + 6 * ((m + 1 : Nat) : Int) + 5) : 0 ≤ j.toInt ∧ (L : Int) ≤ j.toInt + 6 * (m : Int) + 5 := by omega
theorem lp_b {m cb a : Nat} (h : a * (m + 1) ≤ cb) : a * m + a ≤ cb := by
  rw [Nat.mul_succ] at h
  exact h
end
section
/-! THE LAW: its loop -/
section LAWL
variable {P : GP} {K : Kt}
theorem l_law (hL : gL P ≤ 3072) (hK : ∀ h, K (.inl (some (.int 1))) h) : ∀ (m : Nat) (i : Int32) (x : XS) (s : MS) (n : Int64) (w : Value) (t : mH) (cb sb : Nat), 0 ≤ i.toInt → (gL P : Int) ≤ i.toInt + 6 * (m : Int) + 5 → Rel2 x s → 1000 * m ≤ cb → 14000 * m ≤ sb →
    G P n_K_law K 30 27 [some (.retAddr 0), some (.ref 0), some (.ref 5), some (.ref 13), some (.int i), none, none] [] (hm s x (oc n w :: t)) cb sb
  | 0, i, x, s, n, w, t, cb, sb, h0, hm, hR, hcb, hsb => by
    refine go ok_K_law 12 ?_
    refine ⟨fun _ => ⟨rfl, hK _⟩, fun q => absurd (lp_end hL (by simpa using hm)) q⟩
  | m + 1, i, x, s, n, w, t, cb, sb, h0, hm, hR, hcb, hsb => by
    refine go ok_K_law 12 ?_
    refine ⟨fun _ => ⟨rfl, hK _⟩, fun q => ?_⟩
    obtain ⟨hv, hvi, h6⟩ := lp_hv h0 (lp_in hL q) hL
    have hn := lp_next h0 h6 hm
    have hcb := lp_b hcb
    have hsb := lp_b hsb
    have hz : ∀ r, ¬ mMod r s = 0 := fun r => mod_nz hR.1 r
    have nx : nxtG P K Rel2 i (1000 * m) (14000 * m) := fun x' s' n' w' t' hI => l_law hL hK m (i + 6) x' s' n' w' t' _ _ hn.1 hn.2 hI (Nat.le_refl _) (Nat.le_refl _)
    refine ⟨hvi, ?_⟩
    refine ⟨fun _ => c_put hv (fun l k hi lo => (rb_put hR l k hi lo)) hcb hsb nx, fun _ => ?_⟩
    refine ⟨fun _ => c_copy hv (fun l k f => (rb_copy hR l k f)) hcb hsb nx, fun _ => ?_⟩
    refine ⟨fun _ => c_widen hv (fun k f => (rb_widen hR k f)) hcb hsb nx, fun _ => ?_⟩
    refine ⟨fun _ => c_narrow hv (fun k f => (rb_narrow hR k f)) hcb hsb nx, fun _ => ?_⟩
    refine ⟨fun _ => c_exact hv (fun l k f q => (rb_exact hR l k f q)) hcb hsb nx, fun _ => ?_⟩
    refine ⟨fun _ => c_fits hv (fun l k f q => (rb_fits hR l k f q)) hcb hsb nx, fun _ => ?_⟩
    refine ⟨fun _ => c_alone hv (fun l k q => (rb_alone hR l k q)) hcb hsb nx, fun _ => ?_⟩
    refine ⟨fun _ => c_timesInt hv (fun k f => (rb_timesInt hR k f)) hcb hsb nx, fun _ => ?_⟩
    refine ⟨fun _ => c_full hv (fun k a b => (rb_full hR k a b)) hcb hsb nx, fun _ => ?_⟩
    refine ⟨fun _ => c_high hv (fun k a b => (rb_high hR k a b)) hcb hsb nx, fun _ => ?_⟩
    refine ⟨fun _ => c_round hv (fun l k f q => (rb_round hR l k f q)) hcb hsb nx, fun _ => ?_⟩
    refine ⟨fun _ => c_abs hv (fun l k => (rb_abs hR l k)) hcb hsb nx, fun _ => ?_⟩
    refine ⟨fun _ => c_extreme hv (fun l k f g => (rb_extreme hR l k f g)) hcb hsb nx, fun _ => ?_⟩
    refine ⟨fun _ => c_floor hv (fun l k f r => (rb_floor hR l k f r)) hcb hsb nx, fun _ => ?_⟩
    refine ⟨fun _ => c_floorInt hv (fun k f r => (rb_floorInt hR k f r)) hcb hsb nx, fun _ => ?_⟩
    refine ⟨fun _ => c_towards hv (fun l k f r => (rb_towards hR l k f r)) hcb hsb nx, fun _ => ?_⟩
    refine ⟨fun _ => c_average hv (fun l k f u => (rb_average hR l k f u)) hcb hsb nx, fun _ => ?_⟩
    refine ⟨fun _ => c_chain hv (fun k a b c => (rb_chain hR k a b c)) hcb hsb nx, fun _ => ?_⟩
    refine ⟨fun _ => c_atOnce hv (fun k a b c => (rb_atOnce hR k a b c)) hcb hsb nx, fun _ => ?_⟩
    refine ⟨fun _ => c_distance hv (fun l a b => (rb_distance hR l a b)) hcb hsb nx, fun _ => ?_⟩
    refine ⟨fun _ => c_compare hv (fun l k f => (rb_compare hR l k f)) hcb hsb nx, fun _ => ?_⟩
    refine ⟨fun _ => c_text hv (fun l k => (rb_text hR l k)) hcb hsb nx, fun _ => ?_⟩
    refine ⟨fun _ => c_ofNumber hv (fun l k q => (rb_ofNumber hR l k q)) hcb hsb nx, fun _ => ?_⟩
    refine ⟨fun _ => c_rest hv (fun l k m => (rb_rest hR l k m)) hcb hsb nx, fun _ => ?_⟩
    refine ⟨fun _ => c_quotient hv (fun l k m => (rb_quotient hR l k m)) hcb hsb nx, fun _ => ?_⟩
    refine ⟨fun _ => c_modulus hv (fun r m => (rb_modulus hR r m)) hcb hsb nx, fun _ => ?_⟩
    refine ⟨fun _ => c_bring hv hz (fun r k l f => (rb_bring hR r k l f)) hcb hsb nx, fun _ => ?_⟩
    refine ⟨fun _ => c_lift hv (fun r i l k => (rb_lift hR r i l k)) hcb hsb nx, fun _ => ?_⟩
    refine ⟨fun _ => c_plus hv hz (fun r k f m => (rb_plus hR r k f m)) hcb hsb nx, fun _ => ?_⟩
    refine ⟨fun _ => c_times hv hz (fun r k f => (rb_times hR r k f)) hcb hsb nx, fun _ => ?_⟩
    refine ⟨fun _ => c_power hv hz (fun r k e => (rb_power hR r k e)) hcb hsb nx, fun _ => ?_⟩
    refine ⟨fun _ => c_inverse hv hz (fun r k => (rb_inverse hR r k)) hcb hsb nx, fun _ => ?_⟩
    refine ⟨fun _ => c_isUnit hv (fun r k => (rb_isUnit hR r k)) hcb hsb nx, fun _ => ?_⟩
    refine ⟨fun _ => c_residue hv (fun r k => (rb_residue hR r k)) hcb hsb nx, fun _ => ?_⟩
    refine ⟨fun _ => c_ringText hv (fun r => (rb_ringText hR r)) hcb hsb nx, fun _ => ?_⟩
    refine ⟨fun _ => c_areAlike hv hz (fun r l a b => (rb_areAlike hR r l a b)) hcb hsb nx, fun _ => ?_⟩
    refine ⟨fun _ => c_together hv hz (fun k r a q b => (rb_together hR k r a q b)) hcb hsb nx, fun _ => ?_⟩
    refine ⟨fun _ => c_common hv hz (fun r q => (rb_common hR r q)) hcb hsb nx, fun _ => ?_⟩
    refine ⟨fun _ => c_house hv (fun q => (rb_house hR q)) hcb hsb nx, fun _ => ?_⟩
    refine ⟨fun _ => c_knock (rb_knock hR) hcb hsb nx, fun _ => ?_⟩
    refine ⟨fun _ => c_isSound (rel2_T hR 0) hcb hsb nx, fun _ => ?_⟩
    refine ⟨fun _ => c_digest (rel2_T hR 0) (dig_eq (rel2_T hR 0)) hcb hsb nx, fun _ => ?_⟩
    exact c_none hR hcb hsb nx
end LAWL
end
section
/-! THE START: what every method finds -/
theorem nc_rep {P : GP} {h : mH} {H : Heap} {i k n : Nat} {g g' : Nat → Int32} (w : Wd P h H) (hi : nth h i = some (.inl (k, n, .inl g))) (hg : ∀ j, j < n → g j = g' j) : Wd P (h.set i (.inl (k, n, .inl g'))) H := by
  refine wd_set w hi rfl ?_ (fun _ _ => rfl)
  have h1 : H[gN P + i]? = some (vp_cell (gC P k) (n, .inl g)) := wd_arr w hi
  show H[gN P + i]? = some (vp_cell (gC P k) (n, .inl g'))
  rw [h1, vp_cell_i, vp_cell_i]
  unfold arrV
  congr 3
  funext j
  show Value.int (g j.1) = Value.int (g' j.1)
  rw [hg j.1 j.2]
theorem G_ext {P : GP} {a : Nat} {K : Kt} {d pc : Nat} {L : mLs} {st : List Value} {h h' : mH} {cb sb : Nat} (hw : ∀ H, Wd P h H → Wd P h' H) (q : G P a K d pc L st h' cb sb) : G P a K d pc L st h cb sb := by
  intro p e R s m args below meth c H locs cells slots ls F Y V
  exact q p e R s m args below meth c H locs cells slots ls F ⟨Y.1, Y.2.1, Y.2.2.1, hw _ Y.2.2.2⟩ V
def mod1 : Nat → Int32 := upd (upd (upd (fun _ => 1) 0 7) 1 10) 2 (-12)
theorem mod01 : ∀ j, j < 3 → mod0 j = mod1 j
  | 0, _ => rfl
  | 1, _ => rfl
  | 2, _ => rfl
  | _ + 3, h => absurd h (by omega)
theorem mod1_nz (j : Nat) : ¬ mod1 j = 0 := by
  unfold mod1 upd
  by_cases h2 : j = 2
  · rw [if_pos h2]
    decide
  · rw [if_neg h2]
    by_cases h1 : j = 1
    · rw [if_pos h1]
      decide
    · rw [if_neg h1]
      by_cases h0 : j = 0
      · rw [if_pos h0]
        decide
      · rw [if_neg h0]
        show ¬ (1 : Int32) = 0
        decide
def xs1 : XS := (fun _ => 0, fun _ => 0, mod1, fun _ => 0, 0, 0)
def ms1 : MS := (0, fun _ => 0, fun _ => 0, mod1, fun _ _ => 0, 0, 0)
def K1 : Kt := fun r _ => r = .inl (some (.int 1))
theorem rel_1 : Rel xs1 ms1 := ⟨rfl, rfl, fun _ => rt_I 0, rfl, mod1_nz, fun _ _ _ _ => rfl, rfl, rfl⟩
theorem red_1 : Red ms1 := fun i _ _ _ => res_0 (mod1_nz i)
theorem rel2_1 : Rel2 xs1 ms1 := ⟨rel_1, red_1⟩
theorem l_start {P : GP} (hL : gL P ≤ 3072) : G P n_K_law K1 30 0 [some (.retAddr 0), none, none, none, none, none, none] [] [] 601024 7293034 := by
  refine go ok_K_law 60 ?_
  refine ⟨⟨Nat.le_of_ble_eq_true rfl, Nat.le_of_ble_eq_true rfl⟩, ?_⟩
  refine ⟨_, _, _, L_Xnew ?_, Nat.le_of_ble_eq_true rfl, Nat.le_of_ble_eq_true rfl, by decide⟩
  refine ⟨⟨Nat.le_of_ble_eq_true rfl, Nat.le_of_ble_eq_true rfl⟩, ?_⟩
  refine ⟨_, _, _, L_Mnew ?_, Nat.le_of_ble_eq_true rfl, Nat.le_of_ble_eq_true rfl, by decide⟩
  refine ⟨⟨Nat.le_of_ble_eq_true rfl, Nat.le_of_ble_eq_true rfl⟩, ?_⟩
  refine ⟨_, _, _, L_Onew ?_, Nat.le_of_ble_eq_true rfl, Nat.le_of_ble_eq_true rfl, by decide⟩
  refine G_ext (h' := hm ms1 xs1 (oc 0 .null :: [])) (fun H w => ?_) ?_
  · have w1 := nc_rep (i := 3) (g' := mod1) w rfl mod01
    exact nc_rep (i := 8) (g' := mod1) w1 rfl mod01
  · exact l_law hL (fun _ => rfl) 512 0 xs1 ms1 0 .null [] _ _ (by decide) (by
      have : (0 : Int32).toInt = 0 := by decide
      omega) rel2_1 (Nat.le_of_ble_eq_true rfl) (Nat.le_of_ble_eq_true rfl)
theorem lx_ok {args : Array Value} {s : State} (hts : ∀ w ∈ lw_tbl, w.before args s = true) : ∀ w ∈ lx, w.before args s = true := by
  have w0 := hts (.selects rc_SB ⟨rc_ASB, "isLatin1", "()Z"⟩ ⟨rc_ASB, "isLatin1", "()Z"⟩) (by decide +kernel)
  have key : ∀ y ∈ lxM, y.cls = rc_ASB ∧ Jvm.Cond.privateMethod y ∈ lw_tbl ∧ Jvm.Cond.instanceMethod y ∈ lw_tbl := by decide +kernel
  obtain ⟨c, r, m9, hc, -, hm9, -, k9, hk9, hi9⟩ := Jvm.Cond.selects_spec w0
  intro w hw
  obtain ⟨y, hy, rfl⟩ := List.mem_map.mp hw
  obtain ⟨hy0, hy1, hy2⟩ := key y hy
  obtain ⟨mk, methM, hnamed, hmethM, -, -⟩ := Jvm.Cond.instanceMethod_spec (hts _ hy2)
  have hfound : s.methodFound? y.cls y.name y.desc = some mk := State.methodFound?_of_named hnamed (by rw [hy0]; decide)
  have hcls : mk.cls = m9.cls := Option.some.inj ((findClass_of_methodNamed hnamed).symm.trans ((by rw [hy0] : s.vm.findClass y.cls = s.vm.findClass rc_ASB).trans (findClass_of_methodNamed hm9)))
  have hsel : selectMethod {} s.vm c mk = .method mk := selectMethod_private hmethM (Jvm.Cond.privateMethod_at (hts _ hy1) mk methM hnamed hmethM)
  have hk2 : s.vm.classes[mk.cls]? = some k9 := by rw [hcls]; exact hk9
  simp only [Jvm.Cond.before, Jvm.Cond.holds, Jvm.Cond.value, hc, hfound, hnamed, hsel, hk2]
  simp
  exact hi9
end
section
/-! THE START: what the Statement gives of it -/
section ST
variable {s : State} {b : Nat}
def fl0 : List Jvm.Cond := flatC (Jvm.Cond.and given_1 narrow_1)
theorem st_arr {args : Array Value} {ty : FieldType} (h : (Jvm.Cond.arrayClass ty).before args s = true) : ∃ cA : ClassId, ArrOfT s cA ty ∧ s.vm.findClass ("[" ++ ty.toString) = some cA := by
  obtain ⟨cA, kC, cc, h1, h2, h3⟩ := Jvm.Cond.arrayClass_spec h
  exact ⟨cA, fun n z => ⟨fun _ e => (by cases e), kC, h2, cc, h3⟩, h1⟩
theorem st_arrA {args : Array Value} (h : (Jvm.Cond.arrayOver (.array .int)).before args s = true) : ∃ cA : ClassId, ArrOfT s cA (.array .int) ∧ s.vm.findClass ("[" ++ (FieldType.array .int).toString) = some cA := by
  obtain ⟨comp, c, k, hc, hi, hk, hkind, hn⟩ := arrayOverA_spec h
  exact ⟨c, fun n z => ⟨fun _ e => (by cases e), k, hk, comp, hkind⟩, hn⟩
theorem ne_heap (s : State) : ∀ a : Nat, a < s.heap.size → ¬ (fun q : Nat => s.heap.size ≤ q) a := fun _ h h2 => absurd h (Nat.not_lt.mpr h2)
theorem nth_drop' {α : Type} : ∀ (l : List α) (k j : Nat), nth (l.drop k) j = nth l (k + j) := fun l k j => by rw [nth_eq, nth_eq, List.getElem?_drop]
def xTen (j : Nat) : Jvm.Cond := .eq (.elem (.static "java/lang/Integer" "DigitTens" "[B") (.int (Int32.ofNat j))) (.int (dTen j))
def xOne (j : Nat) : Jvm.Cond := .eq (.elem (.static "java/lang/Integer" "DigitOnes" "[B") (.int (Int32.ofNat j))) (.int (dOne j))
theorem m_ten0 : (fl0.drop 117).take 20 = (List.range 20).map (fun j => xTen (0 + j)) := by rfl
theorem m_ten20 : (fl0.drop 137).take 20 = (List.range 20).map (fun j => xTen (20 + j)) := by rfl
theorem m_ten40 : (fl0.drop 157).take 20 = (List.range 20).map (fun j => xTen (40 + j)) := by rfl
theorem m_ten60 : (fl0.drop 177).take 20 = (List.range 20).map (fun j => xTen (60 + j)) := by rfl
theorem m_ten80 : (fl0.drop 197).take 20 = (List.range 20).map (fun j => xTen (80 + j)) := by rfl
theorem m_ten : ∀ j, j < 100 → xTen j ∈ fl0 := fun j hj => by
  have key : ∀ a, (fl0.drop (117 + a)).take 20 = (List.range 20).map (fun j => xTen (a + j)) → a ≤ j → j < a + 20 → xTen j ∈ fl0 := fun a h h1 h2 => by
    have hm : xTen j ∈ (List.range 20).map (fun j => xTen (a + j)) := List.mem_map.mpr ⟨j - a, List.mem_range.mpr (by omega), by rw [show a + (j - a) = j by omega]⟩
    rw [← h] at hm
    exact List.mem_of_mem_drop (List.mem_of_mem_take hm)
  by_cases h1 : j < 20
  · exact key 0 m_ten0 (by omega) (by omega)
  · by_cases h2 : j < 40
    · exact key 20 m_ten20 (by omega) (by omega)
    · by_cases h3 : j < 60
      · exact key 40 m_ten40 (by omega) (by omega)
      · by_cases h4 : j < 80
        · exact key 60 m_ten60 (by omega) (by omega)
        · exact key 80 m_ten80 (by omega) (by omega)
theorem m_one0 : (fl0.drop 14).take 20 = (List.range 20).map (fun j => xOne (0 + j)) := by rfl
theorem m_one20 : (fl0.drop 34).take 20 = (List.range 20).map (fun j => xOne (20 + j)) := by rfl
theorem m_one40 : (fl0.drop 54).take 20 = (List.range 20).map (fun j => xOne (40 + j)) := by rfl
theorem m_one60 : (fl0.drop 74).take 20 = (List.range 20).map (fun j => xOne (60 + j)) := by rfl
theorem m_one80 : (fl0.drop 94).take 20 = (List.range 20).map (fun j => xOne (80 + j)) := by rfl
theorem m_one : ∀ j, j < 100 → xOne j ∈ fl0 := fun j hj => by
  have key : ∀ a, (fl0.drop (14 + a)).take 20 = (List.range 20).map (fun j => xOne (a + j)) → a ≤ j → j < a + 20 → xOne j ∈ fl0 := fun a h h1 h2 => by
    have hm : xOne j ∈ (List.range 20).map (fun j => xOne (a + j)) := List.mem_map.mpr ⟨j - a, List.mem_range.mpr (by omega), by rw [show a + (j - a) = j by omega]⟩
    rw [← h] at hm
    exact List.mem_of_mem_drop (List.mem_of_mem_take hm)
  by_cases h1 : j < 20
  · exact key 0 m_one0 (by omega) (by omega)
  · by_cases h2 : j < 40
    · exact key 20 m_one20 (by omega) (by omega)
    · by_cases h3 : j < 60
      · exact key 40 m_one40 (by omega) (by omega)
      · by_cases h4 : j < 80
        · exact key 60 m_one60 (by omega) (by omega)
        · exact key 80 m_one80 (by omega) (by omega)
theorem st_dig {args : Array Value} {nm : String} {f : Nat → Int32} (hs : ∀ w ∈ fl0, w.before args s = true) (hts : ∀ w ∈ lw_tbl, w.before args s = true) (h1 : Jvm.Cond.arrayOf (.static "java/lang/Integer" nm "[B") .byte ∈ fl0) (h2 : Jvm.Cond.eq (.length (.static "java/lang/Integer" nm "[B")) (.int 100) ∈ fl0)
    (h3 : ∀ j, j < 100 → Jvm.Cond.eq (.elem (.static "java/lang/Integer" nm "[B") (.int (Int32.ofNat j))) (.int (f j)) ∈ fl0) (h4 : Jvm.Cond.laysStatic "java/lang/Integer" nm "[B" ∈ lw_tbl) (h5 : Jvm.Cond.initialized "java/lang/Integer" ∈ lw_tbl) :
    ∃ t : Nat, va_Z "java/lang/Integer" nm "[B" (.ref t) (fun q : Nat => s.heap.size ≤ q) s s.heap ∧ va_T .byte t 100 (fun j => .int (f j)) (fun q : Nat => s.heap.size ≤ q) s s.heap := by
  obtain ⟨t, ht, hT⟩ := va_Tof (N := 100) (f := fun j => .int (f j)) (A := fun q : Nat => s.heap.size ≤ q) (by decide) (hs _ h1) (va_eqt (hs _ h2)) (fun j hj => va_eqt (hs _ (h3 j hj))) (ne_heap s)
  exact ⟨t, va_Zof (hts _ h4) (hts _ h5) ht (ne_heap s), hT⟩
def tmS (i : Nat) : Jvm.Term := match i with | 0 => .string "ModringsModel" 98 | 1 => .string "ModringsModel" 156 | _ => .string "ModringsModel" 158
theorem st_str {args : Array Value} (hs : ∀ w ∈ fl0, w.before args s = true) : ∃ adK adV : Nat → Nat, vk_S 3 kSl kSb adK adV (fun q : Nat => s.heap.size ≤ q) s s.heap ∧ ∀ i : Nat, i < 3 → (tmS i).eval args s none [] s = some (.ref (adK i)) := by
  have m1 : ∀ i, i < 3 → Jvm.Cond.exactly (tmS i) "java/lang/String" ∈ fl0 := by decide +kernel
  have m2 : ∀ i, i < 3 → Jvm.Cond.eq (.field (tmS i) "java/lang/String" "code\x72" "B") (.int 0) ∈ fl0 := by decide +kernel
  have m3 : ∀ i, i < 3 → Jvm.Cond.arrayOf (.field (tmS i) "java/lang/String" "value" "[B") .byte ∈ fl0 := by decide +kernel
  have m4 : ∀ i, i < 3 → Jvm.Cond.eq (.length (.field (tmS i) "java/lang/String" "value" "[B")) (.int (Int32.ofNat (kSl.getD i 0))) ∈ fl0 := by decide +kernel
  have m5 : ∀ i, i < 3 → ∀ j, j < kSl.getD i 0 → Jvm.Cond.eq (.elem (.field (tmS i) "java/lang/String" "value" "[B") (.int (Int32.ofNat j))) (.int ((kSb.getD i []).getD j 0)) ∈ fl0 := by decide +kernel
  have m6 : ∀ i, i < 3 → ∀ j, j < 3 → i ≠ j → Jvm.Cond.not (Jvm.Cond.eq (tmS i) (tmS j)) ∈ fl0 ∨ Jvm.Cond.not (Jvm.Cond.eq (tmS j) (tmS i)) ∈ fl0 := by decide +kernel
  have m7 : ∀ i, i < 3 → kSl.getD i 0 < 2 ^ 31 := by decide
  exact vk_Sof (tm := tmS) m7 (fun i hi => hs _ (m1 i hi)) (fun i hi => hs _ (m2 i hi)) (fun i hi => hs _ (m3 i hi)) (fun i hi => hs _ (m4 i hi)) (fun i hi j hj => hs _ (m5 i hi j hj)) (fun i j hi hj e => (m6 i hi j hj e).imp (fun h => hs _ h) (fun h => hs _ h)) (ne_heap s)
theorem st_LR {args : Array Value} (hs : ∀ w ∈ fl0, w.before args s = true) (hts : ∀ w ∈ lw_tbl, w.before args s = true) : ∀ q ∈ LR, ∃ sa : Nat, vk_R q.1 q.2.1 q.2.2 sa s := by
  have key : ∀ q ∈ LR, Jvm.Cond.stringRef q.1 q.2.1 q.2.2 ∈ lw_tbl ∧ Jvm.Cond.exactly (.string q.1 q.2.1) "java/lang/String" ∈ fl0 := by decide +kernel
  intro q hq
  obtain ⟨h1, h2⟩ := key q hq
  obtain ⟨a, c, cA, kA, q1, -⟩ := Jvm.Cond.exactly_spec (hs _ h2)
  exact ⟨a, vk_R.of (hts _ h1) q1⟩
def gAf (b : Nat) (adK adV : Nat → Nat) (t1 t2 : Nat) : Nat → Nat := fun c => match c with
  | 0 => b
  | 10 => adK 0
  | 11 => adK 1
  | 12 => adK 2
  | 30 => adV 0
  | 31 => adV 1
  | 32 => adV 2
  | 50 => t1
  | _ => t2
theorem st_env {args : Array Value} {L : Nat} {xs : Nat → Int32} {l : Launch} (hs : ∀ w ∈ fl0, w.before args s = true) (hts : ∀ w ∈ lw_tbl, w.before args s = true) (hX : va_X b L xs s s.heap) (hbl : b < s.heap.size) (hst : l.stackTraces = false) :
    ∃ P : GP, gl P = l ∧ gN P = s.heap.size ∧ gA P 0 = b ∧ gL P = L ∧ Env P s ∧ ∀ w ∈ TB, w.before args s = true := by
  have hlT : ∀ w ∈ lT, w.before args s = true := fun w hw => (List.mem_append.mp hw).elim (hts w) (lx_ok hts w)
  have hTB : ∀ w ∈ TB, w.before args s = true := fun w hw => hlT w (List.mem_filter.mp hw).1
  obtain ⟨c0, i0, k0⟩ := u_known (C := mCn 0) (T := mTt 0) (N := mNn 0) (n := 4) hTB (inW 0 (by decide)) (hts (.instantiable rc_STR 4) (by decide +kernel))
  obtain ⟨c1, i1, k1⟩ := u_known (C := mCn 1) (T := mTt 1) (N := mNn 1) (n := 4) hTB (inW 1 (by decide)) (hts (.instantiable rc_SB 4) (by decide +kernel))
  obtain ⟨c2, i2, k2⟩ := u_known (C := mCn 2) (T := mTt 2) (N := mNn 2) (n := 6) hTB (inW 2 (by decide)) (hts (.instantiable rc_X 6) (by decide +kernel))
  obtain ⟨c3, i3, k3⟩ := u_known (C := mCn 3) (T := mTt 3) (N := mNn 3) (n := 2) hTB (inW 3 (by decide)) (hts (.instantiable rc_O 2) (by decide +kernel))
  obtain ⟨c4, i4, k4⟩ := u_known (C := mCn 4) (T := mTt 4) (N := mNn 4) (n := 7) hTB (inW 4 (by decide)) (hts (.instantiable rc_M 7) (by decide +kernel))
  obtain ⟨aB, hB1, hB2⟩ := st_arr (hts (.arrayClass .byte) (by decide +kernel))
  obtain ⟨aI, hI1, hI2⟩ := st_arr (hts (.arrayClass .int) (by decide +kernel))
  obtain ⟨aL, hL1, hL2⟩ := st_arr (hts (.arrayClass .long) (by decide +kernel))
  have hAO : (Jvm.Cond.arrayOver (.array .int)).before args s = true := hts _ (by decide +kernel)
  obtain ⟨aA, hA1, hA2⟩ := st_arrA hAO
  obtain ⟨t1, hz1, ht1⟩ := st_dig (nm := "DigitTens") (f := dTen) hs hts (by decide +kernel) (by decide +kernel) m_ten (by decide +kernel) (by decide +kernel)
  obtain ⟨t2, hz2, ht2⟩ := st_dig (nm := "DigitOnes") (f := dOne) hs hts (by decide +kernel) (by decide +kernel) m_one (by decide +kernel) (by decide +kernel)
  obtain ⟨adK, adV, hS, hev⟩ := st_str hs
  refine ⟨(l, ((fun k => match k with | 0 => c0 | 1 => c1 | 2 => c2 | 3 => c3 | _ => c4), (fun k => match k with | 0 => i0 | 1 => i1 | 2 => i2 | 3 => i3 | _ => i4)), (fun k => match k with | 0 => aB | 1 => aI | 2 => aL | _ => aA), gAf b adK adV t1 t2, s.heap.size, xs, L), rfl, rfl, rfl, rfl, ?_, hTB⟩
  refine ⟨⟨fun k q hq => ?_, fun k q hk => ?_⟩, Nat.le_refl _, hX, hbl, fun w hw => ?_, fun w hw => ?_, ?_, ?_, st_LR hs hts, fun i q hq => ?_, ⟨fun i hi => ?_, fun i j hi hj => ?_⟩, ?_, ⟨hz1, ht1⟩, ⟨hz2, ht2⟩, ⟨?_, ?_⟩, hst, over_moved (Vm.Alike.refl _) hAO⟩
  · match k, hq with
    | 0, hq => cases hq; exact k0
    | 1, hq => cases hq; exact k1
    | 2, hq => cases hq; exact k2
    | 3, hq => cases hq; exact k3
    | 4, hq => cases hq; exact k4
    | _ + 5, hq => cases hq
  · match k, hk with
    | 0, hk => cases hk; exact ⟨hB1, hB2⟩
    | 1, hk => cases hk; exact ⟨hI1, hI2⟩
    | 2, hk => cases hk; exact ⟨hL1, hL2⟩
    | 3, hk => cases hk; exact ⟨hA1, hA2⟩
    | _ + 4, hk => cases hk
  · have h2 := (List.mem_filter.mp hw).2
    rw [Bool.and_eq_true] at h2
    exact va_any h2.1 (hlT w (List.mem_filter.mp hw).1)
  · have h2 := (List.mem_filter.mp hw).2
    have h3 := hlT w (List.mem_filter.mp hw).1
    refine va_any ?_ h3
    cases w <;> first | rfl | (simp [isNest] at h2; done)
  · exact vx_Zqof (hts (.laysStatic "java/lang/Throwable" "UNASSIGNED_STACK" "[Ljava/lang/StackTraceElement;") (by decide +kernel)) (hts (.initialized "java/lang/Throwable") (by decide +kernel)) (hs (.isRef (.static "java/lang/Throwable" "UNASSIGNED_STACK" "[Ljava/lang/StackTraceElement;")) (by decide +kernel)) (ne_heap s)
  · exact vx_Zqof (hts (.laysStatic "java/lang/Throwable" "SUPPRESSED_SENTINEL" "Ljava/util/List;") (by decide +kernel)) (hts (.initialized "java/lang/Throwable") (by decide +kernel)) (hs (.isRef (.static "java/lang/Throwable" "SUPPRESSED_SENTINEL" "Ljava/util/List;")) (by decide +kernel)) (ne_heap s)
  · match i, hq with
    | 0, hq => cases hq; exact vk_R.of (hts (.stringRef "ModringsModel" 98 "") (by decide +kernel)) (hev 0 (by decide))
    | 1, hq => cases hq; exact vk_R.of (hts (.stringRef "ModringsModel" 156 ": ") (by decide +kernel)) (hev 1 (by decide))
    | 2, hq => cases hq; exact vk_R.of (hts (.stringRef "ModringsModel" 158 " ") (by decide +kernel)) (hev 2 (by decide))
    | _ + 3, hq => cases hq
  · match i, hi with
    | 0, hi => exact hS.1 0 hi
    | 1, hi => exact hS.1 1 hi
    | 2, hi => exact hS.1 2 hi
    | _ + 3, hi => exact absurd hi (by omega)
  · match i, j, hi, hj with
    | 0, 0, hi, hj => exact hS.2 0 0 hi hj
    | 0, 1, hi, hj => exact hS.2 0 1 hi hj
    | 0, 2, hi, hj => exact hS.2 0 2 hi hj
    | 1, 0, hi, hj => exact hS.2 1 0 hi hj
    | 1, 1, hi, hj => exact hS.2 1 1 hi hj
    | 1, 2, hi, hj => exact hS.2 1 2 hi hj
    | 2, 0, hi, hj => exact hS.2 2 0 hi hj
    | 2, 1, hi, hj => exact hS.2 2 1 hi hj
    | 2, 2, hi, hj => exact hS.2 2 2 hi hj
    | _ + 3, _, hi, _ => exact absurd hi (by omega)
    | _, _ + 3, _, hj => exact absurd hj (by omega)
  · exact va_Zof (hts (.laysStatic "java/lang/String" "COMPACT_STRINGS" "Z") (by decide +kernel)) (hts (.initialized "java/lang/String") (by decide +kernel)) (va_eqt (hs (.eq (.static "java/lang/String" "COMPACT_STRINGS" "Z") (.int 1)) (by decide +kernel))) (ne_heap s)
  · exact va_Nc.of (hs (.not (.castable (exN 1) (exN 0))) (by decide +kernel))
  · exact va_Nc.of (hs (.not (.castable (exN 0) (exN 1))) (by decide +kernel))
end ST
end
