/-! THE CLASS: its house, its soundness, its digest -/
def xCompare (l k f : Int32) (s : XS) : Out := nd (ok4 k) 0 s (nd (ok4 f) 0 s (.inl (wOrder (xNum l k s) (xNum l f s)), s))
def cntL : Nat → Int32 → Int64 → Int32
  | 0, c, _ => c
  | n + 1, c, r => if r / 10 = 0 then c + 1 else if c + 1 < 20 then cntL n (c + 1) (r / 10) else c + 1
termination_by n => n
def dCount (v : Int64) : Int32 := if v < 0 then cntL 20 1 v else cntL 20 0 v
def xOf (l k w : Int32) (s : XS) : Int32 := if w = 0 then wOrder (xNum l k s) 0 else if w = 1 then (xNum l k s).toInt32 else if w = 2 then (xNum l k s >>> sh32).toInt32 else if w = 3 then wEdge l (xNum l k s) else dCount (xNum l k s)
def xOfNumber (l k w : Int32) (s : XS) : Out := nd (ok4 k) 0 s (nd (okC w 4) 1 s (.inl (xOf l k w s), s))
def zL (f : Nat → Int64) : Nat → Int32 → Int32 → Int32
  | 0, _, c => c
  | n + 1, i, c => zL f n (i + 1) (if f i.toNatClampNeg = 0 then c + 1 else c)
def uI (s : XS) (r : Int32) : Nat → Int32 → Int32 → Int32
  | 0, _, c => c
  | n + 1, i, c => uI s r n (i + 1) (if rHas (xRes r i s) (xMod r s) = 0 then c else c + 1)
def uO (s : XS) : Nat → Int32 → Int32 → Int32
  | 0, _, c => c
  | n + 1, r, c => uO s n (r + 1) (uI s r 4 0 c)
def xHs (w : Int32) (s : XS) : Int32 := if w = 0 then xF s else if w = 1 then xK s else if w = 2 then zL (xI s) 4 0 0 + zL (xL s) 4 0 0 else uO s 3 0 0
def xHouse (w : Int32) (s : XS) : Out := nd (okC w 3) 1 s (.inl (xHs w s), s)
section CLH
variable {P : GP} {K : Kt} {s : XS} {t : mH}
theorem L_needChoice0 (i c : Int32) {h : mH} (hi : okC i c) (hK : K (.inl none) h) : M P n_X_needChoice [.int i, .int c] h 0 0 6 K := by
  refine Mgo ok_X_needChoice 60 rfl ?_
  refine ⟨fun q => absurd q hi.1, fun q => ?_⟩
  exact ⟨fun q2 => absurd q2 hi.2, fun _ => hK⟩
theorem L_compare (l k f : Int32) (hK : ans K t (xCompare l k f s)) : M P n_X_compare [.ref 0, .int l, .int k, .int f] (hx s t) 10 60 10 K := by
  refine Mgo ok_X_compare 60 rfl ?_
  have hK := ans_nd hK
  refine ⟨_, _, _, L_num _ _ (fun h1 => ?_) hK.2, by decide, by decide, by decide⟩
  have hK := hK.1 h1
  have hK := ans_nd hK
  refine ⟨_, _, _, L_num _ _ (fun h2 => ?_) hK.2, by decide, by decide, by decide⟩
  have hK := hK.1 h2
  refine ⟨_, _, _, L_order _ _ _ ?_, by decide, by decide, by decide⟩
  exact hK
theorem l_count {v : Int64} {h : mH} : ∀ (n : Nat) (c : Int32) (r : Int64), 0 ≤ c.toInt → 20 ≤ c.toInt + n → c < 20 → K (.inl (some (.int (cntL n c r)))) h → G P n_D_countOf K 6 14 [some (.long v), none, some (.int c), some (.long r), none] [] h 0 0
  | 0, c, r, h0, hb, hc, hK => by
    rw [Int32.lt_iff_toInt_lt] at hc
    have e : (20 : Int32).toInt = 20 := by decide
    omega
  | n + 1, c, r, h0, hb, hc, hK => by
    refine go ok_D_countOf 80 ?_
    rw [cntL] at hK
    rw [Int32.lt_iff_toInt_lt] at hc
    have e : (20 : Int32).toInt = 20 := by decide
    have hs := i32_s (b := c) (n := (20 - c.toInt - 1).toNat) (m := 20) h0 (by omega) (by decide)
    refine ⟨by decide, ?_⟩
    refine ⟨fun q => ?_, fun q => ?_⟩
    · rw [if_pos q] at hK
      exact hK
    · rw [if_neg q] at hK
      refine ⟨fun q2 => ?_, fun q2 => ?_⟩
      · rw [if_pos q2] at hK
        exact l_count n (c + 1) _ (by omega) (by omega) q2 hK
      · rw [if_neg q2] at hK
        exact hK
theorem L_countOf (v : Int64) (h : mH) (hK : K (.inl (some (.int (dCount v)))) h) : M P n_D_countOf [.long v] h 0 0 6 K := by
  refine Mgo ok_D_countOf 80 rfl ?_
  unfold dCount at hK
  refine ⟨fun q => ?_, fun q => ?_⟩
  · rw [if_pos q] at hK
    exact l_count 20 1 _ (by decide) (by decide) (by decide) hK
  · rw [if_neg q] at hK
    exact l_count 20 0 _ (by decide) (by decide) (by decide) hK
theorem L_ofNumber0 (l k w : Int32) (hk : ok4 k) (hw : okC w 4) (hK : K (.inl (some (.int (xOf l k w s)))) (hx s t)) : M P n_X_ofNumber [.ref 0, .int l, .int k, .int w] (hx s t) 0 0 8 K := by
  refine Mgo ok_X_ofNumber 60 rfl ?_
  unfold xOf at hK
  refine ⟨_, _, _, L_numberAt _ _ hk ?_, by decide, by decide, by decide⟩
  refine ⟨_, _, _, L_needChoice0 _ _ hw ?_, by decide, by decide, by decide⟩
  refine ⟨fun q => ?_, fun q => ?_⟩
  · rw [if_pos q] at hK
    refine ⟨_, _, _, L_order _ _ _ ?_, by decide, by decide, by decide⟩
    exact hK
  · rw [if_neg q] at hK
    refine ⟨fun q1 => ?_, fun q1 => ?_⟩
    · rw [if_pos q1] at hK
      exact hK
    · rw [if_neg q1] at hK
      refine ⟨fun q2 => ?_, fun q2 => ?_⟩
      · rw [if_pos q2] at hK
        exact hK
      · rw [if_neg q2] at hK
        refine ⟨fun q3 => ?_, fun q3 => ?_⟩
        · rw [if_pos q3] at hK
          refine ⟨_, _, _, L_edge _ _ _ ?_, by decide, by decide, by decide⟩
          exact hK
        · rw [if_neg q3] at hK
          refine ⟨_, _, _, L_countOf _ _ ?_, by decide, by decide, by decide⟩
          exact hK
theorem L_ofNumber (l k w : Int32) (hK : ans K t (xOfNumber l k w s)) : M P n_X_ofNumber [.ref 0, .int l, .int k, .int w] (hx s t) 10 60 10 K := by
  refine Mgo ok_X_ofNumber 60 rfl ?_
  have hK := ans_nd hK
  refine ⟨_, _, _, L_num _ _ (fun h1 => ?_) hK.2, by decide, by decide, by decide⟩
  have hK := hK.1 h1
  have hK := ans_nd hK
  refine ⟨_, _, _, L_needChoice _ _ (fun h2 => ?_) hK.2, by decide, by decide, by decide⟩
  have hK := hK.1 h2
  unfold xOf at hK
  refine ⟨fun q => ?_, fun q => ?_⟩
  · rw [if_pos q] at hK
    refine ⟨_, _, _, L_order _ _ _ ?_, by decide, by decide, by decide⟩
    exact hK
  · rw [if_neg q] at hK
    refine ⟨fun q1 => ?_, fun q1 => ?_⟩
    · rw [if_pos q1] at hK
      exact hK
    · rw [if_neg q1] at hK
      refine ⟨fun q2 => ?_, fun q2 => ?_⟩
      · rw [if_pos q2] at hK
        exact hK
      · rw [if_neg q2] at hK
        refine ⟨fun q3 => ?_, fun q3 => ?_⟩
        · rw [if_pos q3] at hK
          refine ⟨_, _, _, L_edge _ _ _ ?_, by decide, by decide, by decide⟩
          exact hK
        · rw [if_neg q3] at hK
          refine ⟨_, _, _, L_countOf _ _ ?_, by decide, by decide, by decide⟩
          exact hK
theorem l_z1 : ∀ (n : Nat) (i c : Int32) (x : Option Value), 0 ≤ i.toInt → i.toInt + n = 4 → K (.inl (some (.int (zL (xI s) n i c)))) (hx s t) → G P n_X_countZeros K 6 10 [some (.ref 1), some (.int c), some (.ref 1), some (.int 4), some (.int i), x, none] [] (hx s t) 0 0
  | 0, i, c, x, h0, hb, hK => by
    refine go ok_X_countZeros 80 ?_
    have hn := i32_nlt (m := 4) (by omega) 4 (by decide) (b := i)
    refine ⟨fun q => absurd q hn, fun q => ?_⟩
    exact hK
  | n + 1, i, c, x, h0, hb, hK => by
    refine go ok_X_countZeros 80 ?_
    have hn := i32_lt (b := i) (n := n) (m := 4) (by omega) 4 (by decide)
    have hs := i32_s (b := i) (n := n) (m := 4) h0 (by omega) (by decide)
    have hz : (0 : Int32).toInt = 0 := by decide
    have hi : ok4 i := ⟨fun e => by rw [Int32.lt_iff_toInt_lt] at e; omega, hn⟩
    refine ⟨fun q => ⟨vp4 hi, ?_⟩, fun q => absurd hn q⟩
    unfold zL at hK
    refine ⟨fun q2 => ?_, fun q2 => ?_⟩
    · rw [if_pos q2] at hK
      exact l_z1 n (i + 1) (c + 1) _ (by omega) (by omega) hK
    · rw [if_neg q2] at hK
      exact l_z1 n (i + 1) c _ (by omega) (by omega) hK
theorem L_zeros1 (hK : K (.inl (some (.int (zL (xI s) 4 0 0)))) (hx s t)) : M P n_X_countZeros [.ref 1] (hx s t) 0 0 6 K := by
  refine Mgo ok_X_countZeros 80 rfl ?_
  exact l_z1 4 0 0 none (by decide) (by decide) hK
theorem l_z2 : ∀ (n : Nat) (i c : Int32) (x : Option Value), 0 ≤ i.toInt → i.toInt + n = 4 → K (.inl (some (.int (zL (xL s) n i c)))) (hx s t) → G P n_X_countZeros K 6 10 [some (.ref 2), some (.int c), some (.ref 2), some (.int 4), some (.int i), x, none] [] (hx s t) 0 0
  | 0, i, c, x, h0, hb, hK => by
    refine go ok_X_countZeros 80 ?_
    have hn := i32_nlt (m := 4) (by omega) 4 (by decide) (b := i)
    refine ⟨fun q => absurd q hn, fun q => ?_⟩
    exact hK
  | n + 1, i, c, x, h0, hb, hK => by
    refine go ok_X_countZeros 80 ?_
    have hn := i32_lt (b := i) (n := n) (m := 4) (by omega) 4 (by decide)
    have hs := i32_s (b := i) (n := n) (m := 4) h0 (by omega) (by decide)
    have hz : (0 : Int32).toInt = 0 := by decide
    have hi : ok4 i := ⟨fun e => by rw [Int32.lt_iff_toInt_lt] at e; omega, hn⟩
    refine ⟨fun q => ⟨vp4 hi, ?_⟩, fun q => absurd hn q⟩
    unfold zL at hK
    refine ⟨fun q2 => ?_, fun q2 => ?_⟩
    · rw [if_pos q2] at hK
      exact l_z2 n (i + 1) (c + 1) _ (by omega) (by omega) hK
    · rw [if_neg q2] at hK
      exact l_z2 n (i + 1) c _ (by omega) (by omega) hK
theorem L_zeros2 (hK : K (.inl (some (.int (zL (xL s) 4 0 0)))) (hx s t)) : M P n_X_countZeros [.ref 2] (hx s t) 0 0 6 K := by
  refine Mgo ok_X_countZeros 80 rfl ?_
  exact l_z2 4 0 0 none (by decide) (by decide) hK
theorem l_uI {r : Int32} (hr : ok3 r) : ∀ (n : Nat) (i c : Int32), 0 ≤ i.toInt → i.toInt + n = 4 → (∀ x, G P n_X_countUnits K 10 4 [some (.ref 0), some (.int (uI s r n i c)), some (.int (r + 1)), x] [] (hx s t) 0 0) → G P n_X_countUnits K 10 11 [some (.ref 0), some (.int c), some (.int r), some (.int i)] [] (hx s t) 0 0
  | 0, i, c, h0, hb, hK => by
    refine go ok_X_countUnits 80 ?_
    have hn := i32_nlt (m := 4) (by omega) 4 (by decide) (b := i)
    refine ⟨fun q => absurd q hn, fun q => ?_⟩
    exact hK _
  | n + 1, i, c, h0, hb, hK => by
    refine go ok_X_countUnits 80 ?_
    have hn := i32_lt (b := i) (n := n) (m := 4) (by omega) 4 (by decide)
    have hs := i32_s (b := i) (n := n) (m := 4) h0 (by omega) (by decide)
    have hz : (0 : Int32).toInt = 0 := by decide
    have hi : ok4 i := ⟨fun e => by rw [Int32.lt_iff_toInt_lt] at e; omega, hn⟩
    refine ⟨fun q => ?_, fun q => absurd hn q⟩
    unfold uI at hK
    refine ⟨_, _, _, L_isUnit0 _ _ hr hi ?_, by decide, by decide, by decide⟩
    refine ⟨fun q2 => ?_, fun q2 => ?_⟩
    · rw [if_pos q2] at hK
      exact l_uI hr n (i + 1) c (by omega) (by omega) hK
    · rw [if_neg q2] at hK
      exact l_uI hr n (i + 1) (c + 1) (by omega) (by omega) hK
theorem l_uO : ∀ (n : Nat) (r c : Int32) (x : Option Value), 0 ≤ r.toInt → r.toInt + n = 3 → K (.inl (some (.int (uO s n r c)))) (hx s t) → G P n_X_countUnits K 10 4 [some (.ref 0), some (.int c), some (.int r), x] [] (hx s t) 0 0
  | 0, r, c, x, h0, hb, hK => by
    refine go ok_X_countUnits 80 ?_
    have hn := i32_nlt (m := 3) (by omega) 3 (by decide) (b := r)
    refine ⟨fun q => absurd q hn, fun q => ?_⟩
    exact hK
  | n + 1, r, c, x, h0, hb, hK => by
    refine go ok_X_countUnits 80 ?_
    have hn := i32_lt (b := r) (n := n) (m := 3) (by omega) 3 (by decide)
    have hs := i32_s (b := r) (n := n) (m := 3) h0 (by omega) (by decide)
    have hz : (0 : Int32).toInt = 0 := by decide
    have hr : ok3 r := ⟨fun e => by rw [Int32.lt_iff_toInt_lt] at e; omega, hn⟩
    refine ⟨fun q => ?_, fun q => absurd hn q⟩
    unfold uO at hK
    exact l_uI hr 4 0 c (by decide) (by decide) (fun x => l_uO n (r + 1) _ x (by omega) (by omega) hK)
theorem L_units (hK : K (.inl (some (.int (uO s 3 0 0)))) (hx s t)) : M P n_X_countUnits [.ref 0] (hx s t) 0 0 10 K := by
  refine Mgo ok_X_countUnits 80 rfl ?_
  exact l_uO 3 0 0 none (by decide) (by decide) hK
theorem L_house0 (w : Int32) (hw : okC w 3) (hK : K (.inl (some (.int (xHs w s)))) (hx s t)) : M P n_X_house [.ref 0, .int w] (hx s t) 0 0 11 K := by
  refine Mgo ok_X_house 80 rfl ?_
  unfold xHs at hK
  refine ⟨_, _, _, L_needChoice0 _ _ hw ?_, by decide, by decide, by decide⟩
  refine ⟨fun q => ?_, fun q => ?_⟩
  · rw [if_pos q] at hK
    exact hK
  · rw [if_neg q] at hK
    refine ⟨fun q1 => ?_, fun q1 => ?_⟩
    · rw [if_pos q1] at hK
      exact hK
    · rw [if_neg q1] at hK
      refine ⟨fun q2 => ?_, fun q2 => ?_⟩
      · rw [if_pos q2] at hK
        refine ⟨_, _, _, L_zeros1 ?_, by decide, by decide, by decide⟩
        refine ⟨_, _, _, L_zeros2 ?_, by decide, by decide, by decide⟩
        exact hK
      · rw [if_neg q2] at hK
        refine ⟨_, _, _, L_units ?_, by decide, by decide, by decide⟩
        exact hK
theorem L_house (w : Int32) (hK : ans K t (xHouse w s)) : M P n_X_house [.ref 0, .int w] (hx s t) 10 60 11 K := by
  refine Mgo ok_X_house 80 rfl ?_
  have hK := ans_nd hK
  refine ⟨_, _, _, L_needChoice _ _ (fun h2 => ?_) hK.2, by decide, by decide, by decide⟩
  have hK := hK.1 h2
  unfold xHs at hK
  refine ⟨fun q => ?_, fun q => ?_⟩
  · rw [if_pos q] at hK
    exact hK
  · rw [if_neg q] at hK
    refine ⟨fun q1 => ?_, fun q1 => ?_⟩
    · rw [if_pos q1] at hK
      exact hK
    · rw [if_neg q1] at hK
      refine ⟨fun q2 => ?_, fun q2 => ?_⟩
      · rw [if_pos q2] at hK
        refine ⟨_, _, _, L_zeros1 ?_, by decide, by decide, by decide⟩
        refine ⟨_, _, _, L_zeros2 ?_, by decide, by decide, by decide⟩
        exact hK
      · rw [if_neg q2] at hK
        refine ⟨_, _, _, L_units ?_, by decide, by decide, by decide⟩
        exact hK
end CLH
