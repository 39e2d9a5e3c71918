/-! THE MODEL: its digest -/
theorem G_mono {P : GP} {a : Nat} {K : Kt} {d pc : Nat} {L : mLs} {st : List Value} {h : mH} {cb sb cb' sb' : Nat} (q : G P a K d pc L st h cb sb) (h1 : cb ≤ cb') (h2 : sb ≤ sb') : G P a K d pc L st h cb' sb' := by
  intro p e R s m args below meth c H locs cells slots ls F Y V
  exact q p e R s m args below meth c H locs cells slots ls F ⟨Nat.le_trans (Nat.add_le_add_left h1 _) Y.1, Nat.le_trans (Nat.add_le_add_left h2 _) Y.2.1, Y.2.2⟩ V
theorem t4 {i : Int32} {n : Nat} (h : i.toInt + n = 4) (h0 : 0 ≤ i.toInt) (hn : 1 ≤ n) : ok4 i := by
  have e4 : (4 : Int32).toInt = 4 := by decide
  have e0 : (0 : Int32).toInt = 0 := by decide
  refine ⟨fun e => ?_, ?_⟩
  · rw [Int32.lt_iff_toInt_lt] at e
    omega
  · rw [Int32.lt_iff_toInt_lt]
    omega
theorem t3 {i : Int32} {n : Nat} (h : i.toInt + n = 3) (h0 : 0 ≤ i.toInt) (hn : 1 ≤ n) : ok3 i := by
  have e4 : (3 : Int32).toInt = 3 := by decide
  have e0 : (0 : Int32).toInt = 0 := by decide
  refine ⟨fun e => ?_, ?_⟩
  · rw [Int32.lt_iff_toInt_lt] at e
    omega
  · rw [Int32.lt_iff_toInt_lt]
    omega
theorem tw {w : Int32} {n : Nat} (h0 : 0 ≤ w.toInt) (h : w.toInt + ((n + 1 : Nat) : Int) = 4) : n4 w ∧ w < 5 ∧ 0 ≤ (w + 1).toInt ∧ (w + 1).toInt + (n : Int) = 4 := by
  have e0 : (0 : Int32).toInt = 0 := by decide
  have e3 : (3 : Int32).toInt = 3 := by decide
  have e5 : (5 : Int32).toInt = 5 := by decide
  have e1 : (w + 1).toInt = w.toInt + 1 := by
    rw [Int32.toInt_add, i1]
    exact Int.bmod_eq_of_le (by omega) (by omega)
  refine ⟨⟨fun e => ?_, fun e => ?_⟩, ?_, by omega, by omega⟩
  · rw [Int32.lt_iff_toInt_lt] at e
    omega
  · rw [Int32.lt_iff_toInt_lt] at e
    omega
  · rw [Int32.lt_iff_toInt_lt]
    omega
theorem tw4 {w : Int32} (h : w.toInt + ((0 : Nat) : Int) = 4) : w = 4 := by
  have e4 : (4 : Int32).toInt = 4 := by decide
  refine Int32.toInt_inj.mp ?_
  omega
theorem ts {i : Int32} {n m : Nat} (h0 : 0 ≤ i.toInt) (h : i.toInt + ((n + 1 : Nat) : Int) = m) (hm : m < 100) : 0 ≤ (i + 1).toInt ∧ (i + 1).toInt + (n : Int) = m := by
  have e1 : (i + 1).toInt = i.toInt + 1 := by
    rw [Int32.toInt_add, i1]
    exact Int.bmod_eq_of_le (by omega) (by omega)
  omega
theorem tl0 {i c : Int32} {m : Nat} (h : i.toInt + ((0 : Nat) : Int) = m) (hc : c.toInt = m) : ¬ i < c := by
  rw [Int32.lt_iff_toInt_lt]
  omega
theorem tl1 {i c : Int32} {n m : Nat} (h : i.toInt + ((n + 1 : Nat) : Int) = m) (hc : c.toInt = m) : i < c := by
  rw [Int32.lt_iff_toInt_lt]
  omega
theorem bg1 {c0 n cb a : Nat} (h : c0 + a * (n + 1) ≤ cb) : (c0 + a * n) + a ≤ cb ∧ c0 ≤ cb := by
  rw [Nat.mul_succ] at h
  omega
theorem bg0 {c0 cb a : Nat} (h : c0 + a * 0 ≤ cb) : c0 ≤ cb := by omega
def mdH (s : MS) : Nat → Int32 → Int64 → Int64
  | 0, _, d => d
  | n + 1, i, d => mdH s n (i + 1) (d * 31 + (mHs i s).toInt64)
termination_by n => n
def mdW (l k : Int32) (s : MS) : Nat → Int32 → Int64 → Int64
  | 0, _, d => d
  | n + 1, w, d => mdW l k s n (w + 1) (d * 31 + (mOf l k w s).toInt64)
termination_by n => n
def mdK (l : Int32) (s : MS) : Nat → Int32 → Int64 → Int64
  | 0, _, d => d
  | n + 1, k, d => mdK l s n (k + 1) (mdW l k s 5 0 d)
termination_by n => n
def mdL (s : MS) : Nat → Int32 → Int64 → Int64
  | 0, _, d => d
  | n + 1, q, d => mdL s n (q + 1) (mdK (if q = 1 then 1 else 0) s 4 0 d)
termination_by n => n
def mdS (r : Int32) (s : MS) : Nat → Int32 → Int64 → Int64
  | 0, _, d => d
  | n + 1, i, d => mdS r s n (i + 1) (d * 31 + (mRes r i s).toInt64)
termination_by n => n
def mdR (s : MS) : Nat → Int32 → Int64 → Int64
  | 0, _, d => d
  | n + 1, r, d => mdR s n (r + 1) (mdS r s 4 0 (d * 31 + (mMod r s).toInt64))
termination_by n => n
def m_digest (s : MS) : Int64 := mdR s 3 0 (mdL s 2 0 (mdH s 4 0 7837)) * 31 + 1
section MDG
variable {P : GP} {K : Kt} {s : MS} {x : XS}
theorem l_mdH {t : mH} {cb sb : Nat} : ∀ (n : Nat) (i : Int32) (d : Int64), 0 ≤ i.toInt → i.toInt + (n : Int) = (4 : Nat) → G P n_M_digest K 17 37 [some (.ref 5), some (.long (mdH s n i d)), none, some (.int 0), none, none] [] (hm s x t) cb sb →
    G P n_M_digest K 17 11 [some (.ref 5), some (.long d), none, some (.int i), none, none] [] (hm s x t) cb sb
  | 0, i, d, h0, h4, hK => by
    rw [mdH] at hK
    refine go ok_M_digest 80 ?_
    refine ⟨fun q => absurd q (tl0 h4 (by decide)), fun _ => ?_⟩
    exact hK
  | n + 1, i, d, h0, h4, hK => by
    rw [mdH] at hK
    have e := ts h0 h4 (by decide)
    refine go ok_M_digest 80 ?_
    refine ⟨fun _ => ?_, fun q => absurd (tl1 h4 (by decide)) q⟩
    refine ⟨_, _, _, M_houseNow i ?_, Nat.zero_le _, Nat.zero_le _, by decide⟩
    exact l_mdH n (i + 1) _ e.1 e.2 hK
theorem l_mdW {q k : Int32} (hk : ok4 k) {c0 s0 : Nat} : ∀ (n : Nat) (w : Int32) (d : Int64) (t : mH) (cb sb : Nat), 0 ≤ w.toInt → w.toInt + (n : Int) = 4 → c0 + 6 ≤ cb → s0 + 500 ≤ sb →
    (∀ t', G P n_M_digest K 17 45 [some (.ref 5), some (.long (mdW (if q = 1 then 1 else 0) k s (n + 1) w d)), none, some (.int q), some (.int (k + 1)), none] [] (hm s x (t ++ t')) c0 s0) →
    G P n_M_digest K 17 54 [some (.ref 5), some (.long d), none, some (.int q), some (.int k), some (.int w)] [] (hm s x t) cb sb
  | 0, w, d, t, cb, sb, h0, h4, hcb, hsb, hK => by
    have hw := tw4 h4
    subst hw
    have b1 : 6 ≤ cb := Nat.le_trans (Nat.le_add_left _ _) hcb
    have b2 : 500 ≤ sb := Nat.le_trans (Nat.le_add_left _ _) hsb
    have b3 : c0 ≤ cb - 6 := Nat.le_sub_of_add_le hcb
    have b4 : s0 ≤ sb - 500 := Nat.le_sub_of_add_le hsb
    rw [mdW, mdW] at hK
    refine go ok_M_digest 80 ?_
    refine ⟨fun _ => ?_, fun q9 => absurd (by decide) q9⟩
    refine ⟨fun q1 => ?_, fun q1 => ?_⟩
    · rw [if_pos q1] at hK
      refine ⟨_, _, _, M_ofNow4 _ _ hk (fun t' => ?_), b1, b2, by decide⟩
      refine go ok_M_digest 80 ?_
      refine ⟨fun q9 => absurd q9 (by decide), fun _ => ?_⟩
      refine G_wk ?_ (G_mono (hK t') b3 b4)
      exact ⟨rfl, rfl, rfl, rfl, trivial⟩
    · rw [if_neg q1] at hK
      refine ⟨_, _, _, M_ofNow4 _ _ hk (fun t' => ?_), b1, b2, by decide⟩
      refine go ok_M_digest 80 ?_
      refine ⟨fun q9 => absurd q9 (by decide), fun _ => ?_⟩
      refine G_wk ?_ (G_mono (hK t') b3 b4)
      exact ⟨rfl, rfl, rfl, rfl, trivial⟩
  | n + 1, w, d, t, cb, sb, h0, h4, hcb, hsb, hK => by
    have e := tw h0 h4
    rw [mdW] at hK
    refine go ok_M_digest 80 ?_
    refine ⟨fun _ => ?_, fun q9 => absurd e.2.1 q9⟩
    refine ⟨fun q1 => ?_, fun q1 => ?_⟩
    · refine ⟨_, _, _, M_ofNow0 _ _ _ hk e.1 ?_, Nat.zero_le _, Nat.zero_le _, by decide⟩
      refine l_mdW hk n (w + 1) _ t cb sb e.2.2.1 e.2.2.2 hcb hsb ?_
      rw [if_pos q1] at hK ⊢
      exact hK
    · refine ⟨_, _, _, M_ofNow0 _ _ _ hk e.1 ?_, Nat.zero_le _, Nat.zero_le _, by decide⟩
      refine l_mdW hk n (w + 1) _ t cb sb e.2.2.1 e.2.2.2 hcb hsb ?_
      rw [if_neg q1] at hK ⊢
      exact hK
theorem l_mdK {q : Int32} {c0 s0 : Nat} : ∀ (n : Nat) (k : Int32) (d : Int64) (t : mH) (cb sb : Nat), 0 ≤ k.toInt → k.toInt + (n : Int) = (4 : Nat) → c0 + 6 * n ≤ cb → s0 + 500 * n ≤ sb →
    (∀ t', G P n_M_digest K 17 37 [some (.ref 5), some (.long (mdK (if q = 1 then 1 else 0) s n k d)), none, some (.int (q + 1)), none, none] [] (hm s x (t ++ t')) c0 s0) →
    G P n_M_digest K 17 45 [some (.ref 5), some (.long d), none, some (.int q), some (.int k), none] [] (hm s x t) cb sb
  | 0, k, d, t, cb, sb, h0, h4, hcb, hsb, hK => by
    have hK := hK []
    rw [mdK, List.append_nil] at hK
    refine go ok_M_digest 80 ?_
    refine ⟨fun q => absurd q (tl0 h4 (by decide)), fun _ => ?_⟩
    refine G_wk ?_ (G_mono hK (bg0 hcb) (bg0 hsb))
    exact ⟨rfl, rfl, rfl, trivial⟩
  | n + 1, k, d, t, cb, sb, h0, h4, hcb, hsb, hK => by
    have e := ts h0 h4 (by decide)
    have hk := t4 h4 h0 (Nat.succ_pos _)
    have b1 := bg1 hcb
    have b2 := bg1 hsb
    refine go ok_M_digest 80 ?_
    refine ⟨fun _ => ?_, fun q => absurd (tl1 h4 (by decide)) q⟩
    refine l_mdW hk 4 0 d t cb sb (by decide) (by decide) b1.1 b2.1 (fun t' => ?_)
    refine l_mdK n (k + 1) _ (t ++ t') _ _ e.1 e.2 (Nat.le_refl _) (Nat.le_refl _) (fun t2 => ?_)
    have := hK (t' ++ t2)
    rw [mdK, ← List.append_assoc] at this
    exact this
theorem l_mdL {c0 s0 : Nat} : ∀ (n : Nat) (q : Int32) (d : Int64) (t : mH) (cb sb : Nat), 0 ≤ q.toInt → q.toInt + (n : Int) = (2 : Nat) → c0 + 24 * n ≤ cb → s0 + 2000 * n ≤ sb →
    (∀ t', G P n_M_digest K 17 106 [some (.ref 5), some (.long (mdL s n q d)), none, some (.int 0), none, none] [] (hm s x (t ++ t')) c0 s0) →
    G P n_M_digest K 17 37 [some (.ref 5), some (.long d), none, some (.int q), none, none] [] (hm s x t) cb sb
  | 0, q, d, t, cb, sb, h0, h4, hcb, hsb, hK => by
    have hK := hK []
    rw [mdL, List.append_nil] at hK
    refine go ok_M_digest 80 ?_
    refine ⟨fun q => absurd q (tl0 h4 (by decide)), fun _ => ?_⟩
    exact G_mono hK (bg0 hcb) (bg0 hsb)
  | n + 1, q, d, t, cb, sb, h0, h4, hcb, hsb, hK => by
    have e := ts h0 h4 (by decide)
    have b1 := bg1 hcb
    have b2 := bg1 hsb
    refine go ok_M_digest 80 ?_
    refine ⟨fun _ => ?_, fun q => absurd (tl1 h4 (by decide)) q⟩
    refine l_mdK 4 0 d t cb sb (by decide) (by decide) b1.1 b2.1 (fun t' => ?_)
    refine l_mdL n (q + 1) _ (t ++ t') _ _ e.1 e.2 (Nat.le_refl _) (Nat.le_refl _) (fun t2 => ?_)
    have := hK (t' ++ t2)
    rw [mdL, ← List.append_assoc] at this
    exact this
theorem l_mdS {r : Int32} (hr : ok3 r) {t : mH} {cb sb : Nat} : ∀ (n : Nat) (i : Int32) (d : Int64), 0 ≤ i.toInt → i.toInt + (n : Int) = (4 : Nat) → G P n_M_digest K 17 106 [some (.ref 5), some (.long (mdS r s n i d)), none, some (.int (r + 1)), none, none] [] (hm s x t) cb sb →
    G P n_M_digest K 17 128 [some (.ref 5), some (.long d), none, some (.int r), some (.int i), none] [] (hm s x t) cb sb
  | 0, i, d, h0, h4, hK => by
    rw [mdS] at hK
    refine go ok_M_digest 80 ?_
    refine ⟨fun q => absurd q (tl0 h4 (by decide)), fun _ => ?_⟩
    refine G_wk ?_ hK
    exact ⟨rfl, rfl, rfl, trivial⟩
  | n + 1, i, d, h0, h4, hK => by
    rw [mdS] at hK
    have e := ts h0 h4 (by decide)
    have hi := t4 h4 h0 (Nat.succ_pos _)
    refine go ok_M_digest 80 ?_
    refine ⟨fun _ => ?_, fun q => absurd (tl1 h4 (by decide)) q⟩
    rcases c3 hr with rfl | rfl | rfl
    · refine ⟨vp3 hr, fun q9 e9 => ?_, fun e9 => absurd e9 (Option.some_ne_none _)⟩
      obtain rfl := Option.some.inj e9
      refine ⟨vp4 hi, ?_⟩
      exact l_mdS hr n (i + 1) _ e.1 e.2 hK
    · refine ⟨vp3 hr, fun q9 e9 => ?_, fun e9 => absurd e9 (Option.some_ne_none _)⟩
      obtain rfl := Option.some.inj e9
      refine ⟨vp4 hi, ?_⟩
      exact l_mdS hr n (i + 1) _ e.1 e.2 hK
    · refine ⟨vp3 hr, fun q9 e9 => ?_, fun e9 => absurd e9 (Option.some_ne_none _)⟩
      obtain rfl := Option.some.inj e9
      refine ⟨vp4 hi, ?_⟩
      exact l_mdS hr n (i + 1) _ e.1 e.2 hK
theorem l_mdR {t : mH} {cb sb : Nat} : ∀ (n : Nat) (r : Int32) (d : Int64), 0 ≤ r.toInt → r.toInt + (n : Int) = (3 : Nat) → K (.inl (some (.long (mdR s n r d * 31 + 1)))) (hm s x t) →
    G P n_M_digest K 17 106 [some (.ref 5), some (.long d), none, some (.int r), none, none] [] (hm s x t) cb sb
  | 0, r, d, h0, h4, hK => by
    rw [mdR] at hK
    refine go ok_M_digest 80 ?_
    refine ⟨fun q => absurd q (tl0 h4 (by decide)), fun _ => ?_⟩
    exact hK
  | n + 1, r, d, h0, h4, hK => by
    rw [mdR] at hK
    have e := ts h0 h4 (by decide)
    have hr := t3 h4 h0 (Nat.succ_pos _)
    refine go ok_M_digest 80 ?_
    refine ⟨fun _ => ?_, fun q => absurd (tl1 h4 (by decide)) q⟩
    refine ⟨vp3 hr, ?_⟩
    exact l_mdS hr 4 0 _ (by decide) (by decide) (l_mdR n (r + 1) _ e.1 e.2 hK)
theorem M_digest {t : mH} (hK : ∀ t', K (.inl (some (.long (m_digest (sT 0 s))))) (hm (sT 0 s) x (t ++ t'))) : M P n_M_digest [.ref 5] (hm s x t) 50 5000 17 K := by
  refine Mgo ok_M_digest 80 rfl ?_
  refine l_mdH (s := sT 0 s) 4 0 7837 (by decide) (by decide) ?_
  refine l_mdL (c0 := 2) (s0 := 1000) 2 0 _ t 50 5000 (by decide) (by decide) (by decide) (by decide) (fun t' => ?_)
  exact l_mdR 3 0 _ (by decide) (by decide) (hK t')
end MDG
