/-! THE MODEL: its house -/
def b01 (v : Int64) : Int32 := if v = 0 then 1 else 0
def mzL (s : MS) : Nat → Int32 → Int32 → Int32
  | 0, _, c => c
  | n + 1, i, c => mzL s n (i + 1) (c + (b01 (mI s i.toNatClampNeg) + b01 (mL s i.toNatClampNeg)))
termination_by n => n
def muI (s : MS) (r : Int32) : Nat → Int32 → Int32 → Int32
  | 0, _, c => c
  | n + 1, i, c => muI s r n (i + 1) (c + (if mUnit r i s = 0 then 0 else 1))
termination_by n => n
def muO (s : MS) : Nat → Int32 → Int32 → Int32
  | 0, _, c => c
  | n + 1, r, c => muO s n (r + 1) (muI s r 4 0 c)
termination_by n => n
def mHs (w : Int32) (s : MS) : Int32 := if w = 0 then mF s else if w = 1 then mK s else if w = 2 then mzL s 4 0 0 else muO s 3 0 0
def m_house (w : Int32) (s : MS) : MO := gd (¬ w < 0 ∧ ¬ 3 < w) s (mHs w (sT 0 s), sT 0 s)
section MODH
variable {P : GP} {K : Kt} {s : MS} {x : XS} {t : mH}
theorem l_muI {w c0 r : Int32} (hr : ok3 r) : ∀ (n : Nat) (i c : Int32), 0 ≤ i.toInt → i.toInt + n = 4 → (∀ y, G P n_M_houseNow K 9 60 [some (.ref 5), some (.int w), some (.int c0), some (.int (muI s r n i c)), some (.int (r + 1)), y] [] (hm s x t) 0 0) →
    G P n_M_houseNow K 9 69 [some (.ref 5), some (.int w), some (.int c0), some (.int c), some (.int r), some (.int i)] [] (hm s x t) 0 0
  | 0, i, c, h0, hb, hK => by
    refine go ok_M_houseNow 80 ?_
    have hn := i32_nlt (m := 4) (by omega) 4 (by decide) (b := i)
    refine ⟨fun q => absurd q hn, fun q => ?_⟩
    rw [muI] at hK
    exact hK _
  | n + 1, i, c, h0, hb, hK => by
    refine go ok_M_houseNow 80 ?_
    have hn := i32_lt (b := i) (n := n) (m := 4) (by omega) 4 (by decide)
    have hs := i32_s (b := i) (n := n) (m := 4) h0 (by omega) (by decide)
    have hz0 : (0 : Int32).toInt = 0 := by decide
    have hi : ok4 i := ⟨fun e => by rw [Int32.lt_iff_toInt_lt] at e; omega, hn⟩
    refine ⟨fun q => ?_, fun q => absurd hn q⟩
    rw [muI] at hK
    refine ⟨_, _, _, L_unitNow _ _ hr hi ?_, by decide, by decide, by decide⟩
    refine ⟨fun q => ?_, fun q => ?_⟩
    · rw [if_pos q] at hK
      exact l_muI hr n (i + 1) _ (by omega) (by omega) hK
    · rw [if_neg q] at hK
      exact l_muI hr n (i + 1) _ (by omega) (by omega) hK
theorem l_muO {w c0 : Int32} : ∀ (n : Nat) (r c : Int32) (y : Option Value), 0 ≤ r.toInt → r.toInt + n = 3 → K (.inl (some (.int (if w = 0 then mF s else if w = 1 then mK s else if w = 2 then c0 else muO s n r c)))) (hm s x t) →
    G P n_M_houseNow K 9 60 [some (.ref 5), some (.int w), some (.int c0), some (.int c), some (.int r), y] [] (hm s x t) 0 0
  | 0, r, c, y, h0, hb, hK => by
    have hn := i32_nlt (m := 3) (by omega) 3 (by decide) (b := r)
    rw [muO] at hK
    refine go ok_M_houseNow 80 ?_
    refine ⟨fun q => absurd q hn, fun q => ?_⟩
    refine ⟨fun q0 => ?_, fun q0 => ?_⟩
    · rw [if_pos q0] at hK
      exact hK
    · rw [if_neg q0] at hK
      refine ⟨fun q1 => ?_, fun q1 => ?_⟩
      · rw [if_pos q1] at hK
        exact hK
      · rw [if_neg q1] at hK
        refine ⟨fun q2 => ?_, fun q2 => ?_⟩
        · rw [if_pos q2] at hK
          exact hK
        · rw [if_neg q2] at hK
          exact hK
  | n + 1, r, c, y, h0, hb, hK => by
    refine go ok_M_houseNow 80 ?_
    have hn := i32_lt (b := r) (n := n) (m := 3) (by omega) 3 (by decide)
    have hs := i32_s (b := r) (n := n) (m := 3) h0 (by omega) (by decide)
    have hz0 : (0 : Int32).toInt = 0 := by decide
    have hr : ok3 r := ⟨fun e => by rw [Int32.lt_iff_toInt_lt] at e; omega, hn⟩
    refine ⟨fun q => ?_, fun q => absurd hn q⟩
    rw [muO] at hK
    exact l_muI hr 4 0 c (by decide) (by decide) (fun y => l_muO n (r + 1) _ y (by omega) (by omega) hK)
theorem l_mz {w : Int32} : ∀ (n : Nat) (i c : Int32) (y : Option Value), 0 ≤ i.toInt → i.toInt + n = 4 → K (.inl (some (.int (if w = 0 then mF s else if w = 1 then mK s else if w = 2 then mzL s n i c else muO s 3 0 0)))) (hm s x t) →
    G P n_M_houseNow K 9 7 [some (.ref 5), some (.int w), some (.int c), some (.int 0), some (.int i), y] [] (hm s x t) 0 0
  | 0, i, c, y, h0, hb, hK => by
    refine go ok_M_houseNow 80 ?_
    have hn := i32_nlt (m := 4) (by omega) 4 (by decide) (b := i)
    refine ⟨fun q => absurd q hn, fun q => ?_⟩
    rw [mzL] at hK
    exact l_muO 3 0 0 y (by decide) (by decide) hK
  | n + 1, i, c, y, h0, hb, hK => by
    refine go ok_M_houseNow 80 ?_
    have hn := i32_lt (b := i) (n := n) (m := 4) (by omega) 4 (by decide)
    have hs := i32_s (b := i) (n := n) (m := 4) h0 (by omega) (by decide)
    have hz0 : (0 : Int32).toInt = 0 := by decide
    have hi : ok4 i := ⟨fun e => by rw [Int32.lt_iff_toInt_lt] at e; omega, hn⟩
    refine ⟨fun q => ⟨vp4 hi, ?_⟩, fun q => absurd hn q⟩
    rw [mzL] at hK
    unfold b01 at hK
    refine ⟨fun qa => ?_, fun qa => ?_⟩
    · rw [if_pos (c := mI s i.toNatClampNeg = 0) qa] at hK
      refine ⟨vp4 hi, ?_⟩
      refine ⟨fun qb => ?_, fun qb => ?_⟩
      · rw [if_pos (c := mL s i.toNatClampNeg = 0) qb] at hK
        exact l_mz n (i + 1) _ y (by omega) (by omega) hK
      · rw [if_neg (c := mL s i.toNatClampNeg = 0) qb] at hK
        exact l_mz n (i + 1) _ y (by omega) (by omega) hK
    · rw [if_neg (c := mI s i.toNatClampNeg = 0) qa] at hK
      refine ⟨vp4 hi, ?_⟩
      refine ⟨fun qb => ?_, fun qb => ?_⟩
      · rw [if_pos (c := mL s i.toNatClampNeg = 0) qb] at hK
        exact l_mz n (i + 1) _ y (by omega) (by omega) hK
      · rw [if_neg (c := mL s i.toNatClampNeg = 0) qb] at hK
        exact l_mz n (i + 1) _ y (by omega) (by omega) hK
theorem M_houseNow (w : Int32) (hK : K (.inl (some (.int (mHs w s)))) (hm s x t)) : M P n_M_houseNow [.ref 5, .int w] (hm s x t) 0 0 9 K := by
  refine Mgo ok_M_houseNow 80 rfl ?_
  exact l_mz 4 0 0 none (by decide) (by decide) hK
theorem M_house (w : Int32) (hK : anM K x t (m_house w s)) : M P n_M_house [.ref 5, .int w] (hm s x t) 0 0 10 K := by
  refine Mgo ok_M_house 80 rfl ?_
  have hG := an_gd hK
  refine ⟨fun q1 => ?_, fun q1 => ?_⟩
  · have hK := hG.2 (fun e => e.1 q1)
    refine ⟨_, _, _, L_start1 ?_, by decide, by decide, by decide⟩
    refine ⟨fun e => absurd e (by decide), fun _ => ?_⟩
    exact hK
  · refine ⟨fun q2 => ?_, fun q2 => ?_⟩
    · have hK := hG.2 (fun e => e.2 q2)
      refine ⟨_, _, _, L_start1 ?_, by decide, by decide, by decide⟩
      refine ⟨fun e => absurd e (by decide), fun _ => ?_⟩
      exact hK
    · have hK := hG.1 ⟨q1, q2⟩
      refine ⟨_, _, _, L_start0 ?_, by decide, by decide, by decide⟩
      refine ⟨fun _ => ?_, fun e => absurd rfl e⟩
      refine ⟨_, _, _, M_houseNow (s := sT 0 s) _ ?_, by decide, by decide, by decide⟩
      exact hK
end MODH
