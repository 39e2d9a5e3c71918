/-! THE MODEL: its arithmetic -/
section MODA
variable {P : GP} {K : Kt} {s : MS} {x : XS} {t : mH}
theorem L_become (l k : Int32) (v : Int64) (hk : ok4 k) (hK : anM K x t (mBecome l k v s)) : M P n_M_become [.ref 5, .int l, .int k, .long v] (hm s x t) 0 0 7 K := by
  refine Mgo ok_M_become 60 rfl ?_
  unfold mBecome sSet at hK
  refine ⟨fun q => ?_, fun q => ?_⟩
  · rw [if_pos q] at hK
    refine ⟨vp4 hk, ?_⟩
    refine ⟨_, _, _, L_now (s := (s.1, vp_updL (mI s) k.toNatClampNeg v.toInt32.toInt64, s.2.2)) _ _ hk ?_, by decide, by decide, by decide⟩
    refine ⟨_, _, _, L_sign _ ?_, by decide, by decide, by decide⟩
    exact hK
  · rw [if_neg q] at hK
    refine ⟨vp4 hk, ?_⟩
    refine ⟨_, _, _, L_now (s := (s.1, s.2.1, vp_updL (mL s) k.toNatClampNeg v, s.2.2.2)) _ _ hk ?_, by decide, by decide, by decide⟩
    refine ⟨_, _, _, L_sign _ ?_, by decide, by decide, by decide⟩
    exact hK
theorem L_mno (hK : anM K x t (mNo s)) : M P n_M_no [.ref 5] (hm s x t) 0 0 6 K := by
  refine Mgo ok_M_no 60 rfl ?_
  exact hK
theorem L_mrest (a b : Int64) {h : mH} (hb : ¬ b = 0) (hK : K (.inl (some (.long (mRest a b)))) h) : M P n_M_restOf [.long a, .long b] h 0 0 6 K := by
  refine Mgo ok_M_restOf 60 rfl ?_
  unfold mRest at hK
  refine ⟨hb, ?_⟩
  refine ⟨fun q => ?_, fun q => ?_⟩
  · rw [if_pos (show wRem a b = 0 from q)] at hK
    exact hK
  · rw [if_neg (show ¬ wRem a b = 0 from q)] at hK
    refine ⟨fun q1 => ?_, fun q1 => ?_⟩
    · rw [if_pos (show wRem a b < 0 from q1)] at hK
      refine ⟨fun q2 => ?_, fun q2 => ?_⟩
      · rw [if_pos q2] at hK
        refine ⟨fun _ => ?_, fun e => absurd rfl e⟩
        exact hK
      · rw [if_neg q2] at hK
        refine ⟨fun e => absurd e (by decide), fun _ => ?_⟩
        exact hK
    · rw [if_neg (show ¬ wRem a b < 0 from q1)] at hK
      refine ⟨fun q2 => ?_, fun q2 => ?_⟩
      · rw [if_pos q2] at hK
        refine ⟨fun e => absurd e (by decide), fun _ => ?_⟩
        exact hK
      · rw [if_neg q2] at hK
        refine ⟨fun _ => ?_, fun e => absurd rfl e⟩
        exact hK
theorem L_mfloor (a b : Int64) {h : mH} (hb : ¬ b = 0) (hK : K (.inl (some (.long (mFloor a b)))) h) : M P n_M_floorOf [.long a, .long b] h 0 0 6 K := by
  refine Mgo ok_M_floorOf 60 rfl ?_
  unfold mFloor at hK
  refine ⟨hb, ?_⟩
  refine ⟨fun q => ?_, fun q => ?_⟩
  · rw [if_pos (show wRem a b = 0 from q)] at hK
    exact ⟨hb, hK⟩
  · rw [if_neg (show ¬ wRem a b = 0 from q)] at hK
    refine ⟨fun q1 => ?_, fun q1 => ?_⟩
    · rw [if_pos q1] at hK
      refine ⟨fun q2 => ?_, fun q2 => ?_⟩
      · rw [if_pos q2] at hK
        refine ⟨fun _ => ?_, fun e => absurd rfl e⟩
        exact ⟨hb, hK⟩
      · rw [if_neg q2] at hK
        refine ⟨fun e => absurd e (by decide), fun _ => ?_⟩
        exact ⟨hb, hK⟩
    · rw [if_neg q1] at hK
      refine ⟨fun q2 => ?_, fun q2 => ?_⟩
      · rw [if_pos q2] at hK
        refine ⟨fun e => absurd e (by decide), fun _ => ?_⟩
        exact ⟨hb, hK⟩
      · rw [if_neg q2] at hK
        refine ⟨fun _ => ?_, fun e => absurd rfl e⟩
        exact ⟨hb, hK⟩
theorem L_above (a b : Int64) {h : mH} (hK : K (.inl (some (.long (mAbove a b)))) h) : M P n_M_above [.long a, .long b] h 0 0 6 K := by
  refine Mgo ok_M_above 80 rfl ?_
  exact hK
theorem L_both (a b : Int64) (w : Int32) {h : mH} (hK : K (.inl (some (.long (wJoin a b w)))) h) : M P n_M_both [.long a, .long b, .int w] h 0 0 6 K := by
  refine Mgo ok_M_both 60 rfl ?_
  unfold wJoin at hK
  refine ⟨fun q => ?_, fun q => ?_⟩
  · rw [if_pos q] at hK
    exact hK
  · rw [if_neg q] at hK
    refine ⟨fun q2 => ?_, fun q2 => ?_⟩
    · rw [if_pos q2] at hK
      exact hK
    · rw [if_neg q2] at hK
      exact hK
theorem L_mwithin (l : Int32) (a b : Int64) (w : Int32) {h : mH} (hK : K (.inl (some (.int (mWithin l a b w)))) h) : M P n_M_isWithin [.int l, .long a, .long b, .int w] h 0 0 7 K := by
  refine Mgo ok_M_isWithin 120 rfl ?_
  unfold mWithin sg at hK
  refine ⟨_, _, _, L_both _ _ _ ?_, by decide, by decide, by decide⟩
  refine ⟨fun q => ?_, fun q => ?_⟩
  · rw [if_pos q] at hK
    refine ⟨fun q2 => ?_, fun q2 => ?_⟩
    · rw [if_pos q2] at hK
      exact ⟨rfl, hK⟩
    · rw [if_neg q2] at hK
      exact ⟨rfl, hK⟩
  · rw [if_neg q] at hK
    refine ⟨fun q2 => ?_, fun q2 => ?_⟩
    · rw [if_pos q2] at hK
      refine ⟨fun qa => ?_, fun qa => ?_⟩
      · rw [if_pos qa] at hK
        refine ⟨fun qb => ?_, fun qb => ?_⟩
        · rw [if_pos qb] at hK
          rw [if_pos rfl] at hK
          refine ⟨fun _ => ?_, fun e => absurd rfl e⟩
          refine ⟨fun qr => ?_, fun qr => ?_⟩
          · rw [if_pos qr] at hK
            refine ⟨fun qc => ?_, fun qc => ?_⟩
            · refine ⟨fun _ => ?_, fun e => absurd rfl e⟩
              rw [if_pos rfl] at hK
              exact ⟨rfl, hK⟩
            · exact absurd qa qc
          · rw [if_neg qr] at hK
            refine ⟨fun qc => ?_, fun qc => ?_⟩
            · refine ⟨fun e => absurd e (by decide), fun _ => ?_⟩
              rw [if_neg (by decide)] at hK
              exact ⟨rfl, hK⟩
            · exact absurd qa qc
        · rw [if_neg qb] at hK
          rw [if_neg (by decide)] at hK
          refine ⟨fun e => absurd e (by decide), fun _ => ?_⟩
          exact ⟨rfl, hK⟩
      · rw [if_neg qa] at hK
        refine ⟨fun qb => ?_, fun qb => ?_⟩
        · rw [if_pos qb] at hK
          rw [if_neg (by decide)] at hK
          refine ⟨fun e => absurd e (by decide), fun _ => ?_⟩
          exact ⟨rfl, hK⟩
        · rw [if_neg qb] at hK
          rw [if_pos rfl] at hK
          refine ⟨fun _ => ?_, fun e => absurd rfl e⟩
          refine ⟨fun qr => ?_, fun qr => ?_⟩
          · rw [if_pos qr] at hK
            refine ⟨fun qc => ?_, fun qc => ?_⟩
            · exact absurd qc qa
            · refine ⟨fun e => absurd e (by decide), fun _ => ?_⟩
              rw [if_neg (by decide)] at hK
              exact ⟨rfl, hK⟩
          · rw [if_neg qr] at hK
            refine ⟨fun qc => ?_, fun qc => ?_⟩
            · exact absurd qc qa
            · refine ⟨fun _ => ?_, fun e => absurd rfl e⟩
              rw [if_pos rfl] at hK
              exact ⟨rfl, hK⟩
    · rw [if_neg q2] at hK
      refine ⟨fun q3 => ?_, fun q3 => ?_⟩
      · rw [if_pos q3] at hK
        refine ⟨fun qa => ?_, fun qa => ?_⟩
        · rw [if_pos qa] at hK
          refine ⟨fun qb => ?_, fun qb => ?_⟩
          · rw [if_pos qb] at hK
            rw [if_pos rfl] at hK
            refine ⟨fun _ => ?_, fun e => absurd rfl e⟩
            exact ⟨rfl, hK⟩
          · rw [if_neg qb] at hK
            rw [if_neg (by decide)] at hK
            refine ⟨fun e => absurd e (by decide), fun _ => ?_⟩
            refine ⟨fun qr => ?_, fun qr => ?_⟩
            · rw [if_pos qr] at hK
              refine ⟨fun qc => ?_, fun qc => ?_⟩
              · refine ⟨fun _ => ?_, fun e => absurd rfl e⟩
                rw [if_pos rfl] at hK
                exact ⟨rfl, hK⟩
              · exact absurd qa qc
            · rw [if_neg qr] at hK
              refine ⟨fun qc => ?_, fun qc => ?_⟩
              · refine ⟨fun e => absurd e (by decide), fun _ => ?_⟩
                rw [if_neg (by decide)] at hK
                exact ⟨rfl, hK⟩
              · exact absurd qa qc
        · rw [if_neg qa] at hK
          refine ⟨fun qb => ?_, fun qb => ?_⟩
          · rw [if_pos qb] at hK
            rw [if_neg (by decide)] at hK
            refine ⟨fun e => absurd e (by decide), fun _ => ?_⟩
            refine ⟨fun qr => ?_, fun qr => ?_⟩
            · rw [if_pos qr] at hK
              refine ⟨fun qc => ?_, fun qc => ?_⟩
              · exact absurd qc qa
              · refine ⟨fun e => absurd e (by decide), fun _ => ?_⟩
                rw [if_neg (by decide)] at hK
                exact ⟨rfl, hK⟩
            · rw [if_neg qr] at hK
              refine ⟨fun qc => ?_, fun qc => ?_⟩
              · exact absurd qc qa
              · refine ⟨fun _ => ?_, fun e => absurd rfl e⟩
                rw [if_pos rfl] at hK
                exact ⟨rfl, hK⟩
          · rw [if_neg qb] at hK
            rw [if_pos rfl] at hK
            refine ⟨fun _ => ?_, fun e => absurd rfl e⟩
            exact ⟨rfl, hK⟩
      · rw [if_neg q3] at hK
        refine ⟨_, _, _, L_above _ _ ?_, by decide, by decide, by decide⟩
        refine ⟨fun qr => ?_, fun qr => ?_⟩
        · rw [if_pos qr] at hK
          refine ⟨fun q5 => ?_, fun q5 => ?_⟩
          · rw [if_pos q5] at hK
            exact ⟨rfl, hK⟩
          · rw [if_neg q5] at hK
            exact ⟨rfl, hK⟩
        · rw [if_neg qr] at hK
          refine ⟨fun q5 => ?_, fun q5 => ?_⟩
          · rw [if_pos q5] at hK
            exact ⟨rfl, hK⟩
          · rw [if_neg q5] at hK
            exact ⟨rfl, hK⟩
theorem b_within (l : Int32) (a b : Int64) (w : Int32) : mWithin l a b w = 0 ∨ mWithin l a b w = 1 := by
  unfold mWithin
  repeat' split
  all_goals first | exact Or.inl rfl | exact Or.inr rfl
theorem l_mgcd {a b : Int64} {h : mH} : ∀ (n : Nat) (g l : Int64) (y : Option Value), l.toInt ≤ n → K (.inl (some (.long (mGcdL n g l)))) h →
    G P n_M_gcd K 7 12 [some (.long a), none, some (.long b), none, some (.long g), none, some (.long l), none, y, none] [] h 0 0
  | 0, g, l, y, hb, hK => by
    refine go ok_M_gcd 80 ?_
    rw [mGcdL] at hK
    refine ⟨fun q => ?_, fun q => ?_⟩
    · rw [Int64.lt_iff_toInt_lt] at q
      have e : (0 : Int64).toInt = 0 := by decide
      omega
    · exact hK
  | n + 1, g, l, y, hb, hK => by
    refine go ok_M_gcd 80 ?_
    rw [mGcdL] at hK
    refine ⟨fun q => ?_, fun q => ?_⟩
    · rw [if_pos q] at hK
      have hl := wRem_lt (g := g) q
      refine ⟨fun e => absurd (e ▸ q) (by decide), ?_⟩
      exact l_mgcd n l (wRem g l) _ (by omega) hK
    · rw [if_neg q] at hK
      exact hK
theorem L_mgcd (a b : Int64) {h : mH} (hK : K (.inl (some (.long (mGcd a b)))) h) : M P n_M_gcd [.long a, .long b] h 0 0 7 K := by
  refine Mgo ok_M_gcd 60 rfl ?_
  refine ⟨_, _, _, L_absJ _ _ ?_, by decide, by decide, by decide⟩
  refine ⟨_, _, _, L_absJ _ _ ?_, by decide, by decide, by decide⟩
  exact l_mgcd (lAbs b).toInt.toNat _ _ none (by omega) hK
theorem l_magainst {v m : Int64} {h : mH} (hm : ¬ m = 0) : ∀ (n : Nat) (g l f nf : Int64) (y z u : Option Value), l.toInt ≤ n → K (.inl (some (.long (mRest (mAgL n g l f nf) m)))) h →
    G P n_M_against K 7 16 [some (.long v), none, some (.long m), none, some (.long g), none, some (.long l), none, some (.long f), none, some (.long nf), none, y, none, z, none, u, none] [] h 0 0
  | 0, g, l, f, nf, y, z, u, hb, hK => by
    refine go ok_M_against 80 ?_
    rw [mAgL] at hK
    refine ⟨fun q => ?_, fun q => ?_⟩
    · rw [Int64.lt_iff_toInt_lt] at q
      have e : (0 : Int64).toInt = 0 := by decide
      omega
    · refine ⟨_, _, _, L_mrest _ _ hm ?_, by decide, by decide, by decide⟩
      exact hK
  | n + 1, g, l, f, nf, y, z, u, hb, hK => by
    refine go ok_M_against 80 ?_
    rw [mAgL] at hK
    refine ⟨fun q => ?_, fun q => ?_⟩
    · rw [if_pos q] at hK
      have hl : (g - g / l * l).toInt < l.toInt := wRem_lt (g := g) q
      refine ⟨fun e => absurd (e ▸ q) (by decide), ?_⟩
      exact l_magainst hm n l (g - g / l * l) nf (f - g / l * nf) _ _ _ (by omega) hK
    · rw [if_neg q] at hK
      refine ⟨_, _, _, L_mrest _ _ hm ?_, by decide, by decide, by decide⟩
      exact hK
theorem L_magainst (v m : Int64) {h : mH} (hm : ¬ m = 0) (hK : K (.inl (some (.long (mAgainst v m)))) h) : M P n_M_against [.long v, .long m] h 0 0 7 K := by
  refine Mgo ok_M_against 60 rfl ?_
  refine ⟨_, _, _, L_mrest _ _ hm ?_, by decide, by decide, by decide⟩
  exact l_magainst hm (mRest v m).toInt.toNat _ _ _ _ none none none (by omega) hK
theorem L_come (r k : Int32) (v : Int64) (hr : ok3 r) (hk : ok4 k) (hm0 : ¬ (mMod r s).toInt64 = 0) (hK : anM K x t (mCome r k v s)) : M P n_M_come [.ref 5, .int r, .int k, .long v] (hm s x t) 0 0 7 K := by
  refine Mgo ok_M_come 60 rfl ?_
  rcases c3 hr with rfl | rfl | rfl
  · refine ⟨vp3 hr, fun q9 e9 => ?_, fun e9 => absurd e9 (Option.some_ne_none _)⟩
    obtain rfl := Option.some.inj e9
    refine ⟨vp3 hr, ?_⟩
    refine ⟨_, _, _, L_mrest _ _ hm0 ?_, by decide, by decide, by decide⟩
    refine ⟨vp4 hk, vp3 hr, fun q9 e9 => ?_, fun e9 => absurd e9 (Option.some_ne_none _)⟩
    obtain rfl := Option.some.inj e9
    exact ⟨vp4 hk, hK⟩
  · refine ⟨vp3 hr, fun q9 e9 => ?_, fun e9 => absurd e9 (Option.some_ne_none _)⟩
    obtain rfl := Option.some.inj e9
    refine ⟨vp3 hr, ?_⟩
    refine ⟨_, _, _, L_mrest _ _ hm0 ?_, by decide, by decide, by decide⟩
    refine ⟨vp4 hk, vp3 hr, fun q9 e9 => ?_, fun e9 => absurd e9 (Option.some_ne_none _)⟩
    obtain rfl := Option.some.inj e9
    exact ⟨vp4 hk, hK⟩
  · refine ⟨vp3 hr, fun q9 e9 => ?_, fun e9 => absurd e9 (Option.some_ne_none _)⟩
    obtain rfl := Option.some.inj e9
    refine ⟨vp3 hr, ?_⟩
    refine ⟨_, _, _, L_mrest _ _ hm0 ?_, by decide, by decide, by decide⟩
    refine ⟨vp4 hk, vp3 hr, fun q9 e9 => ?_, fun e9 => absurd e9 (Option.some_ne_none _)⟩
    obtain rfl := Option.some.inj e9
    exact ⟨vp4 hk, hK⟩
theorem L_unitNow (r k : Int32) (hr : ok3 r) (hk : ok4 k) (hK : K (.inl (some (.int (mUnit r k s)))) (hm s x t)) : M P n_M_isUnitNow [.ref 5, .int r, .int k] (hm s x t) 0 0 8 K := by
  refine Mgo ok_M_isUnitNow 60 rfl ?_
  unfold mUnit at hK
  rcases c3 hr with rfl | rfl | rfl
  · refine ⟨vp3 hr, fun q9 e9 => ?_, fun e9 => absurd e9 (Option.some_ne_none _)⟩
    obtain rfl := Option.some.inj e9
    refine ⟨vp4 hk, vp3 hr, ?_⟩
    refine ⟨_, _, _, L_mgcd _ _ ?_, by decide, by decide, by decide⟩
    refine ⟨fun q => ?_, fun q => ?_⟩
    · rw [if_pos (show mGcd (mRes 0 k s).toInt64 (mMod 0 s).toInt64 = 1 from q)] at hK
      exact ⟨rfl, hK⟩
    · rw [if_neg (show ¬ mGcd (mRes 0 k s).toInt64 (mMod 0 s).toInt64 = 1 from q)] at hK
      exact ⟨rfl, hK⟩
  · refine ⟨vp3 hr, fun q9 e9 => ?_, fun e9 => absurd e9 (Option.some_ne_none _)⟩
    obtain rfl := Option.some.inj e9
    refine ⟨vp4 hk, vp3 hr, ?_⟩
    refine ⟨_, _, _, L_mgcd _ _ ?_, by decide, by decide, by decide⟩
    refine ⟨fun q => ?_, fun q => ?_⟩
    · rw [if_pos (show mGcd (mRes 1 k s).toInt64 (mMod 1 s).toInt64 = 1 from q)] at hK
      exact ⟨rfl, hK⟩
    · rw [if_neg (show ¬ mGcd (mRes 1 k s).toInt64 (mMod 1 s).toInt64 = 1 from q)] at hK
      exact ⟨rfl, hK⟩
  · refine ⟨vp3 hr, fun q9 e9 => ?_, fun e9 => absurd e9 (Option.some_ne_none _)⟩
    obtain rfl := Option.some.inj e9
    refine ⟨vp4 hk, vp3 hr, ?_⟩
    refine ⟨_, _, _, L_mgcd _ _ ?_, by decide, by decide, by decide⟩
    refine ⟨fun q => ?_, fun q => ?_⟩
    · rw [if_pos (show mGcd (mRes 2 k s).toInt64 (mMod 2 s).toInt64 = 1 from q)] at hK
      exact ⟨rfl, hK⟩
    · rw [if_neg (show ¬ mGcd (mRes 2 k s).toInt64 (mMod 2 s).toInt64 = 1 from q)] at hK
      exact ⟨rfl, hK⟩
end MODA
