/-! THE LAW: no modulus is ever 0; the case that is compared; the loop -/
def NZ (s : MS) : Prop := ∀ j : Nat, ¬ mM s j = 0
def NZ2 (o : MO) : Prop := NZ o.2
theorem NZ_gd {c : Prop} [Decidable c] {s : MS} {r : MO} (h : NZ s) (hr : NZ2 r) : NZ2 (gd c s r) := by
  unfold gd
  by_cases q : c
  · rw [if_pos q]
    exact hr
  · rw [if_neg q]
    exact h
theorem NZ_rf {c : Prop} [Decidable c] {s : MS} {r : MO} (h : NZ s) (hr : NZ2 r) : NZ2 (rf c s r) := by
  unfold rf
  by_cases q : c
  · rw [if_pos q]
    exact hr
  · rw [if_neg q]
    exact h
theorem NZ_ite {c : Prop} [Decidable c] {a b : MO} (ha : NZ2 a) (hb : NZ2 b) : NZ2 (if c then a else b) := by
  by_cases q : c
  · rw [if_pos q]
    exact ha
  · rw [if_neg q]
    exact hb
theorem NZ_set {s : MS} (h : NZ s) (l k : Int32) (v : Int64) : NZ (sSet l k v s) := by
  unfold sSet
  by_cases q : l = 0
  · rw [if_pos q]
    exact h
  · rw [if_neg q]
    exact h
theorem NZ_become {s : MS} (h : NZ s) {l k : Int32} {v : Int64} : NZ2 (mBecome l k v s) := NZ_set h l k v
theorem NZ_no {s : MS} (h : NZ s) : NZ2 (mNo s) := h
theorem NZ_come {s : MS} (h : NZ s) {r k : Int32} {v : Int64} : NZ2 (mCome r k v s) := h
theorem NZ_pc {s : MS} (h : NZ s) {r k : Int32} {v : Int64} {a : Int32} : NZ2 (a, (mCome r k v s).2) := h
theorem NZ_pair {s : MS} (h : NZ s) {v : Int32} : NZ2 (v, s) := h
theorem NZ_ps {s : MS} (h : NZ s) {a l k : Int32} {v : Int64} : NZ2 (a, sSet l k v s) := NZ_set h l k v
theorem NZ_mgL {r : Int32} : ∀ (n : Nat) (i : Int32) (s : MS), NZ s → NZ (mgL r n i s)
  | 0, i, s, h => by
    rw [mgL]
    exact h
  | n + 1, i, s, h => by
    rw [mgL]
    exact NZ_mgL n (i + 1) _ h
theorem NZ_mod {s : MS} (h : NZ s) {r m : Int32} (hm : ¬ m = 0) : NZ (sSetM r m s) := fun j => by
  show ¬ upd (mM s) r.toNatClampNeg m j = 0
  unfold upd
  by_cases q : j = r.toNatClampNeg
  · rw [if_pos q]
    exact hm
  · rw [if_neg q]
    exact h j
theorem nz_put {s : MS} (h : NZ s) (l k hi lo : Int32) : NZ (m_put l k hi lo s).2 := by
  have h0 : NZ (sT 0 s) := h
  show NZ2 (m_put l k hi lo s)
  unfold m_put
  repeat' first | with_reducible refine NZ_gd h ?_ | with_reducible refine NZ_rf h0 ?_ | with_reducible exact NZ_become h0 | with_reducible exact NZ_no h0 | with_reducible exact NZ_come h0 | with_reducible exact NZ_pc h0 | with_reducible exact NZ_pair h0 | with_reducible exact NZ_ps h0 | with_reducible refine NZ_ite ?_ ?_
theorem nz_copy {s : MS} (h : NZ s) (l k f : Int32) : NZ (m_copy l k f s).2 := by
  have h0 : NZ (sT 0 s) := h
  show NZ2 (m_copy l k f s)
  unfold m_copy
  repeat' first | with_reducible refine NZ_gd h ?_ | with_reducible refine NZ_rf h0 ?_ | with_reducible exact NZ_become h0 | with_reducible exact NZ_no h0 | with_reducible exact NZ_come h0 | with_reducible exact NZ_pc h0 | with_reducible exact NZ_pair h0 | with_reducible exact NZ_ps h0 | with_reducible refine NZ_ite ?_ ?_
theorem nz_widen {s : MS} (h : NZ s) (k f : Int32) : NZ (m_widen k f s).2 := by
  have h0 : NZ (sT 0 s) := h
  show NZ2 (m_widen k f s)
  unfold m_widen
  repeat' first | with_reducible refine NZ_gd h ?_ | with_reducible refine NZ_rf h0 ?_ | with_reducible exact NZ_become h0 | with_reducible exact NZ_no h0 | with_reducible exact NZ_come h0 | with_reducible exact NZ_pc h0 | with_reducible exact NZ_pair h0 | with_reducible exact NZ_ps h0 | with_reducible refine NZ_ite ?_ ?_
theorem nz_narrow {s : MS} (h : NZ s) (k f : Int32) : NZ (m_narrow k f s).2 := by
  have h0 : NZ (sT 0 s) := h
  show NZ2 (m_narrow k f s)
  unfold m_narrow
  repeat' first | with_reducible refine NZ_gd h ?_ | with_reducible refine NZ_rf h0 ?_ | with_reducible exact NZ_become h0 | with_reducible exact NZ_no h0 | with_reducible exact NZ_come h0 | with_reducible exact NZ_pc h0 | with_reducible exact NZ_pair h0 | with_reducible exact NZ_ps h0 | with_reducible refine NZ_ite ?_ ?_
theorem nz_exact {s : MS} (h : NZ s) (l k f q : Int32) : NZ (m_exact l k f q s).2 := by
  have h0 : NZ (sT 0 s) := h
  show NZ2 (m_exact l k f q s)
  unfold m_exact
  repeat' first | with_reducible refine NZ_gd h ?_ | with_reducible refine NZ_rf h0 ?_ | with_reducible exact NZ_become h0 | with_reducible exact NZ_no h0 | with_reducible exact NZ_come h0 | with_reducible exact NZ_pc h0 | with_reducible exact NZ_pair h0 | with_reducible exact NZ_ps h0 | with_reducible refine NZ_ite ?_ ?_
theorem nz_fits {s : MS} (h : NZ s) (l k f q : Int32) : NZ (m_fits l k f q s).2 := by
  have h0 : NZ (sT 0 s) := h
  show NZ2 (m_fits l k f q s)
  unfold m_fits
  repeat' first | with_reducible refine NZ_gd h ?_ | with_reducible refine NZ_rf h0 ?_ | with_reducible exact NZ_become h0 | with_reducible exact NZ_no h0 | with_reducible exact NZ_come h0 | with_reducible exact NZ_pc h0 | with_reducible exact NZ_pair h0 | with_reducible exact NZ_ps h0 | with_reducible refine NZ_ite ?_ ?_
theorem nz_alone {s : MS} (h : NZ s) (l k q : Int32) : NZ (m_alone l k q s).2 := by
  have h0 : NZ (sT 0 s) := h
  show NZ2 (m_alone l k q s)
  unfold m_alone
  repeat' first | with_reducible refine NZ_gd h ?_ | with_reducible refine NZ_rf h0 ?_ | with_reducible exact NZ_become h0 | with_reducible exact NZ_no h0 | with_reducible exact NZ_come h0 | with_reducible exact NZ_pc h0 | with_reducible exact NZ_pair h0 | with_reducible exact NZ_ps h0 | with_reducible refine NZ_ite ?_ ?_
theorem nz_timesInt {s : MS} (h : NZ s) (k f : Int32) : NZ (m_timesInt k f s).2 := by
  have h0 : NZ (sT 0 s) := h
  show NZ2 (m_timesInt k f s)
  unfold m_timesInt
  repeat' first | with_reducible refine NZ_gd h ?_ | with_reducible refine NZ_rf h0 ?_ | with_reducible exact NZ_become h0 | with_reducible exact NZ_no h0 | with_reducible exact NZ_come h0 | with_reducible exact NZ_pc h0 | with_reducible exact NZ_pair h0 | with_reducible exact NZ_ps h0 | with_reducible refine NZ_ite ?_ ?_
theorem nz_full {s : MS} (h : NZ s) (k a b : Int32) : NZ (m_full k a b s).2 := by
  have h0 : NZ (sT 0 s) := h
  show NZ2 (m_full k a b s)
  unfold m_full
  repeat' first | with_reducible refine NZ_gd h ?_ | with_reducible refine NZ_rf h0 ?_ | with_reducible exact NZ_become h0 | with_reducible exact NZ_no h0 | with_reducible exact NZ_come h0 | with_reducible exact NZ_pc h0 | with_reducible exact NZ_pair h0 | with_reducible exact NZ_ps h0 | with_reducible refine NZ_ite ?_ ?_
theorem nz_high {s : MS} (h : NZ s) (k a b : Int32) : NZ (m_high k a b s).2 := by
  have h0 : NZ (sT 0 s) := h
  show NZ2 (m_high k a b s)
  unfold m_high
  repeat' first | with_reducible refine NZ_gd h ?_ | with_reducible refine NZ_rf h0 ?_ | with_reducible exact NZ_become h0 | with_reducible exact NZ_no h0 | with_reducible exact NZ_come h0 | with_reducible exact NZ_pc h0 | with_reducible exact NZ_pair h0 | with_reducible exact NZ_ps h0 | with_reducible refine NZ_ite ?_ ?_
theorem nz_round {s : MS} (h : NZ s) (l k f q : Int32) : NZ (m_round l k f q s).2 := by
  have h0 : NZ (sT 0 s) := h
  show NZ2 (m_round l k f q s)
  unfold m_round
  repeat' first | with_reducible refine NZ_gd h ?_ | with_reducible refine NZ_rf h0 ?_ | with_reducible exact NZ_become h0 | with_reducible exact NZ_no h0 | with_reducible exact NZ_come h0 | with_reducible exact NZ_pc h0 | with_reducible exact NZ_pair h0 | with_reducible exact NZ_ps h0 | with_reducible refine NZ_ite ?_ ?_
theorem nz_abs {s : MS} (h : NZ s) (l k : Int32) : NZ (m_abs l k s).2 := by
  have h0 : NZ (sT 0 s) := h
  show NZ2 (m_abs l k s)
  unfold m_abs
  repeat' first | with_reducible refine NZ_gd h ?_ | with_reducible refine NZ_rf h0 ?_ | with_reducible exact NZ_become h0 | with_reducible exact NZ_no h0 | with_reducible exact NZ_come h0 | with_reducible exact NZ_pc h0 | with_reducible exact NZ_pair h0 | with_reducible exact NZ_ps h0 | with_reducible refine NZ_ite ?_ ?_
theorem nz_extreme {s : MS} (h : NZ s) (l k f g : Int32) : NZ (m_extreme l k f g s).2 := by
  have h0 : NZ (sT 0 s) := h
  show NZ2 (m_extreme l k f g s)
  unfold m_extreme
  repeat' first | with_reducible refine NZ_gd h ?_ | with_reducible refine NZ_rf h0 ?_ | with_reducible exact NZ_become h0 | with_reducible exact NZ_no h0 | with_reducible exact NZ_come h0 | with_reducible exact NZ_pc h0 | with_reducible exact NZ_pair h0 | with_reducible exact NZ_ps h0 | with_reducible refine NZ_ite ?_ ?_
theorem nz_floor {s : MS} (h : NZ s) (l k f r : Int32) : NZ (m_floor l k f r s).2 := by
  have h0 : NZ (sT 0 s) := h
  show NZ2 (m_floor l k f r s)
  unfold m_floor
  repeat' first | with_reducible refine NZ_gd h ?_ | with_reducible refine NZ_rf h0 ?_ | with_reducible exact NZ_become h0 | with_reducible exact NZ_no h0 | with_reducible exact NZ_come h0 | with_reducible exact NZ_pc h0 | with_reducible exact NZ_pair h0 | with_reducible exact NZ_ps h0 | with_reducible refine NZ_ite ?_ ?_
theorem nz_floorInt {s : MS} (h : NZ s) (k f r : Int32) : NZ (m_floorInt k f r s).2 := by
  have h0 : NZ (sT 0 s) := h
  show NZ2 (m_floorInt k f r s)
  unfold m_floorInt
  repeat' first | with_reducible refine NZ_gd h ?_ | with_reducible refine NZ_rf h0 ?_ | with_reducible exact NZ_become h0 | with_reducible exact NZ_no h0 | with_reducible exact NZ_come h0 | with_reducible exact NZ_pc h0 | with_reducible exact NZ_pair h0 | with_reducible exact NZ_ps h0 | with_reducible refine NZ_ite ?_ ?_
theorem nz_towards {s : MS} (h : NZ s) (l k f r : Int32) : NZ (m_towards l k f r s).2 := by
  have h0 : NZ (sT 0 s) := h
  show NZ2 (m_towards l k f r s)
  unfold m_towards
  repeat' first | with_reducible refine NZ_gd h ?_ | with_reducible refine NZ_rf h0 ?_ | with_reducible exact NZ_become h0 | with_reducible exact NZ_no h0 | with_reducible exact NZ_come h0 | with_reducible exact NZ_pc h0 | with_reducible exact NZ_pair h0 | with_reducible exact NZ_ps h0 | with_reducible refine NZ_ite ?_ ?_
theorem nz_average {s : MS} (h : NZ s) (l k f u : Int32) : NZ (m_average l k f u s).2 := by
  have h0 : NZ (sT 0 s) := h
  show NZ2 (m_average l k f u s)
  unfold m_average
  repeat' first | with_reducible refine NZ_gd h ?_ | with_reducible refine NZ_rf h0 ?_ | with_reducible exact NZ_become h0 | with_reducible exact NZ_no h0 | with_reducible exact NZ_come h0 | with_reducible exact NZ_pc h0 | with_reducible exact NZ_pair h0 | with_reducible exact NZ_ps h0 | with_reducible refine NZ_ite ?_ ?_
theorem nz_chain {s : MS} (h : NZ s) (k a b c : Int32) : NZ (m_chain k a b c s).2 := by
  have h0 : NZ (sT 0 s) := h
  show NZ2 (m_chain k a b c s)
  unfold m_chain
  repeat' first | with_reducible refine NZ_gd h ?_ | with_reducible refine NZ_rf h0 ?_ | with_reducible exact NZ_become h0 | with_reducible exact NZ_no h0 | with_reducible exact NZ_come h0 | with_reducible exact NZ_pc h0 | with_reducible exact NZ_pair h0 | with_reducible exact NZ_ps h0 | with_reducible refine NZ_ite ?_ ?_
theorem nz_atOnce {s : MS} (h : NZ s) (k a b c : Int32) : NZ (m_atOnce k a b c s).2 := by
  have h0 : NZ (sT 0 s) := h
  show NZ2 (m_atOnce k a b c s)
  unfold m_atOnce
  repeat' first | with_reducible refine NZ_gd h ?_ | with_reducible refine NZ_rf h0 ?_ | with_reducible exact NZ_become h0 | with_reducible exact NZ_no h0 | with_reducible exact NZ_come h0 | with_reducible exact NZ_pc h0 | with_reducible exact NZ_pair h0 | with_reducible exact NZ_ps h0 | with_reducible refine NZ_ite ?_ ?_
theorem nz_distance {s : MS} (h : NZ s) (a b : Int32) : NZ (m_distance a b s) := by
  unfold m_distance
  repeat' first | exact h | split
theorem nz_compare {s : MS} (h : NZ s) (l k f : Int32) : NZ (m_compare l k f s).2 := by
  have h0 : NZ (sT 0 s) := h
  show NZ2 (m_compare l k f s)
  unfold m_compare
  repeat' first | with_reducible refine NZ_gd h ?_ | with_reducible refine NZ_rf h0 ?_ | with_reducible exact NZ_become h0 | with_reducible exact NZ_no h0 | with_reducible exact NZ_come h0 | with_reducible exact NZ_pc h0 | with_reducible exact NZ_pair h0 | with_reducible exact NZ_ps h0 | with_reducible refine NZ_ite ?_ ?_
theorem nz_text {s : MS} (h : NZ s) (k : Int32) : NZ (m_text k s) := by
  unfold m_text
  repeat' first | exact h | split
theorem nz_ofNumber {s : MS} (h : NZ s) (l k q : Int32) : NZ (m_ofNumber l k q s).2 := by
  have h0 : NZ (sT 0 s) := h
  show NZ2 (m_ofNumber l k q s)
  unfold m_ofNumber
  repeat' first | with_reducible refine NZ_gd h ?_ | with_reducible refine NZ_rf h0 ?_ | with_reducible exact NZ_become h0 | with_reducible exact NZ_no h0 | with_reducible exact NZ_come h0 | with_reducible exact NZ_pc h0 | with_reducible exact NZ_pair h0 | with_reducible exact NZ_ps h0 | with_reducible refine NZ_ite ?_ ?_
theorem nz_rest {s : MS} (h : NZ s) (l k m : Int32) : NZ (m_rest l k m s).2 := by
  have h0 : NZ (sT 0 s) := h
  show NZ2 (m_rest l k m s)
  unfold m_rest
  repeat' first | with_reducible refine NZ_gd h ?_ | with_reducible refine NZ_rf h0 ?_ | with_reducible exact NZ_become h0 | with_reducible exact NZ_no h0 | with_reducible exact NZ_come h0 | with_reducible exact NZ_pc h0 | with_reducible exact NZ_pair h0 | with_reducible exact NZ_ps h0 | with_reducible refine NZ_ite ?_ ?_
theorem nz_quotient {s : MS} (h : NZ s) (k m : Int32) : NZ (m_quotient k m s) := by
  unfold m_quotient
  repeat' first | exact h | split
theorem nz_modulus {s : MS} (h : NZ s) (r m : Int32) : NZ (m_modulus r m s).2 := by
  have h0 : NZ (sT 0 s) := h
  unfold m_modulus
  refine NZ_gd h ?_
  unfold rf
  by_cases q : ¬ m = 0
  · rw [if_pos q]
    exact NZ_mgL 4 0 _ (NZ_mod h0 q)
  · rw [if_neg q]
    exact h
theorem nz_bring {s : MS} (h : NZ s) (r k l f : Int32) : NZ (m_bring r k l f s).2 := by
  have h0 : NZ (sT 0 s) := h
  show NZ2 (m_bring r k l f s)
  unfold m_bring
  repeat' first | with_reducible refine NZ_gd h ?_ | with_reducible refine NZ_rf h0 ?_ | with_reducible exact NZ_become h0 | with_reducible exact NZ_no h0 | with_reducible exact NZ_come h0 | with_reducible exact NZ_pc h0 | with_reducible exact NZ_pair h0 | with_reducible exact NZ_ps h0 | with_reducible refine NZ_ite ?_ ?_
theorem nz_lift {s : MS} (h : NZ s) (r i l k : Int32) : NZ (m_lift r i l k s).2 := by
  have h0 : NZ (sT 0 s) := h
  show NZ2 (m_lift r i l k s)
  unfold m_lift
  repeat' first | with_reducible refine NZ_gd h ?_ | with_reducible refine NZ_rf h0 ?_ | with_reducible exact NZ_become h0 | with_reducible exact NZ_no h0 | with_reducible exact NZ_come h0 | with_reducible exact NZ_pc h0 | with_reducible exact NZ_pair h0 | with_reducible exact NZ_ps h0 | with_reducible refine NZ_ite ?_ ?_
theorem nz_plus {s : MS} (h : NZ s) (r k f m : Int32) : NZ (m_plus r k f m s).2 := by
  have h0 : NZ (sT 0 s) := h
  show NZ2 (m_plus r k f m s)
  unfold m_plus
  repeat' first | with_reducible refine NZ_gd h ?_ | with_reducible refine NZ_rf h0 ?_ | with_reducible exact NZ_become h0 | with_reducible exact NZ_no h0 | with_reducible exact NZ_come h0 | with_reducible exact NZ_pc h0 | with_reducible exact NZ_pair h0 | with_reducible exact NZ_ps h0 | with_reducible refine NZ_ite ?_ ?_
theorem nz_times {s : MS} (h : NZ s) (r k f : Int32) : NZ (m_times r k f s).2 := by
  have h0 : NZ (sT 0 s) := h
  show NZ2 (m_times r k f s)
  unfold m_times
  repeat' first | with_reducible refine NZ_gd h ?_ | with_reducible refine NZ_rf h0 ?_ | with_reducible exact NZ_become h0 | with_reducible exact NZ_no h0 | with_reducible exact NZ_come h0 | with_reducible exact NZ_pc h0 | with_reducible exact NZ_pair h0 | with_reducible exact NZ_ps h0 | with_reducible refine NZ_ite ?_ ?_
theorem nz_power {s : MS} (h : NZ s) (r k e : Int32) : NZ (m_power r k e s).2 := by
  have h0 : NZ (sT 0 s) := h
  show NZ2 (m_power r k e s)
  unfold m_power
  repeat' first | with_reducible refine NZ_gd h ?_ | with_reducible refine NZ_rf h0 ?_ | with_reducible exact NZ_become h0 | with_reducible exact NZ_no h0 | with_reducible exact NZ_come h0 | with_reducible exact NZ_pc h0 | with_reducible exact NZ_pair h0 | with_reducible exact NZ_ps h0 | with_reducible refine NZ_ite ?_ ?_
theorem nz_inverse {s : MS} (h : NZ s) (r k : Int32) : NZ (m_inverse r k s).2 := by
  have h0 : NZ (sT 0 s) := h
  show NZ2 (m_inverse r k s)
  unfold m_inverse
  repeat' first | with_reducible refine NZ_gd h ?_ | with_reducible refine NZ_rf h0 ?_ | with_reducible exact NZ_become h0 | with_reducible exact NZ_no h0 | with_reducible exact NZ_come h0 | with_reducible exact NZ_pc h0 | with_reducible exact NZ_pair h0 | with_reducible exact NZ_ps h0 | with_reducible refine NZ_ite ?_ ?_
theorem nz_isUnit {s : MS} (h : NZ s) (r k : Int32) : NZ (m_isUnit r k s).2 := by
  have h0 : NZ (sT 0 s) := h
  show NZ2 (m_isUnit r k s)
  unfold m_isUnit
  repeat' first | with_reducible refine NZ_gd h ?_ | with_reducible refine NZ_rf h0 ?_ | with_reducible exact NZ_become h0 | with_reducible exact NZ_no h0 | with_reducible exact NZ_come h0 | with_reducible exact NZ_pc h0 | with_reducible exact NZ_pair h0 | with_reducible exact NZ_ps h0 | with_reducible refine NZ_ite ?_ ?_
theorem nz_residue {s : MS} (h : NZ s) (r k : Int32) : NZ (m_residue r k s).2 := by
  have h0 : NZ (sT 0 s) := h
  show NZ2 (m_residue r k s)
  unfold m_residue
  repeat' first | with_reducible refine NZ_gd h ?_ | with_reducible refine NZ_rf h0 ?_ | with_reducible exact NZ_become h0 | with_reducible exact NZ_no h0 | with_reducible exact NZ_come h0 | with_reducible exact NZ_pc h0 | with_reducible exact NZ_pair h0 | with_reducible exact NZ_ps h0 | with_reducible refine NZ_ite ?_ ?_
theorem nz_ringText {s : MS} (h : NZ s) (r : Int32) : NZ (m_ringText r s) := by
  unfold m_ringText
  repeat' first | exact h | split
theorem nz_areAlike {s : MS} (h : NZ s) (r l a b : Int32) : NZ (m_areAlike r l a b s).2 := by
  have h0 : NZ (sT 0 s) := h
  show NZ2 (m_areAlike r l a b s)
  unfold m_areAlike
  repeat' first | with_reducible refine NZ_gd h ?_ | with_reducible refine NZ_rf h0 ?_ | with_reducible exact NZ_become h0 | with_reducible exact NZ_no h0 | with_reducible exact NZ_come h0 | with_reducible exact NZ_pc h0 | with_reducible exact NZ_pair h0 | with_reducible exact NZ_ps h0 | with_reducible refine NZ_ite ?_ ?_
theorem nz_together {s : MS} (h : NZ s) (k r a q b : Int32) : NZ (m_together k r a q b s).2 := by
  have h0 : NZ (sT 0 s) := h
  show NZ2 (m_together k r a q b s)
  unfold m_together
  repeat' first | with_reducible refine NZ_gd h ?_ | with_reducible refine NZ_rf h0 ?_ | with_reducible exact NZ_become h0 | with_reducible exact NZ_no h0 | with_reducible exact NZ_come h0 | with_reducible exact NZ_pc h0 | with_reducible exact NZ_pair h0 | with_reducible exact NZ_ps h0 | with_reducible refine NZ_ite ?_ ?_
theorem nz_common {s : MS} (h : NZ s) (r q : Int32) : NZ (m_common r q s) := by
  unfold m_common
  repeat' first | exact h | split
theorem nz_house {s : MS} (h : NZ s) (q : Int32) : NZ (m_house q s).2 := by
  have h0 : NZ (sT 0 s) := h
  show NZ2 (m_house q s)
  unfold m_house
  repeat' first | with_reducible refine NZ_gd h ?_ | with_reducible refine NZ_rf h0 ?_ | with_reducible exact NZ_become h0 | with_reducible exact NZ_no h0 | with_reducible exact NZ_come h0 | with_reducible exact NZ_pc h0 | with_reducible exact NZ_pair h0 | with_reducible exact NZ_ps h0 | with_reducible refine NZ_ite ?_ ?_
def agrI (cd : Nat → Int32) (o : Out) (mo : MO) : Prop := match o.1 with
  | .inl v => mTh mo.2 = 0 ∧ v = mo.1
  | .inr E => mTh mo.2 = cd E
def agrB (cd : Nat → Int32) (o : Out) (mo : MO) : Prop := match o.1 with
  | .inl v => mTh mo.2 = 0 ∧ bz v = bz mo.1
  | .inr E => mTh mo.2 = cd E
theorem cd2_nz (E : Nat) : ¬ cd2 E = 0 := by
  unfold cd2
  split <;> decide
theorem cdH_nz (E : Nat) : ¬ cdH E = 0 := by
  unfold cdH
  decide
theorem anK_agr {K : Kt} {s : MS} {n : Int64} {w : Value} {t : mH} {o : Out} {mo : MO} (hA : agrI cd2 o mo) (h : ∀ c n1 w1 t1, mTh mo.2 = c → (c = 0 → n1 = mo.1.toInt64) → K (.inl (some (.int c))) (hm s o.2 (oc n1 w1 :: t1))) : ansK K s n w t cd2 o := by
  obtain ⟨o, y⟩ := o
  cases o with
  | inl v => exact h _ _ _ _ hA.1 (fun _ => by rw [← hA.2])
  | inr E => exact fun j => h _ _ _ _ hA (fun e => absurd e (cd2_nz E))
section LAWM
variable {P : GP} {K : Kt} {I : XS → MS → Prop} {i : Int32} {c0 s0 cb sb : Nat} {x : XS} {s : MS} {n : Int64} {w : Value} {t : mH}
theorem c_put (hv : hvs P i) (hI : ∀ l k hi lo : Int32, I (xPut l k hi lo x).2 (m_put l k hi lo s).2) (hA : ∀ l k hi lo : Int32, agrI cd2 (xPut l k hi lo x) (m_put l k hi lo s)) (hcb : c0 + 1000 ≤ cb) (hsb : s0 + 14000 ≤ sb) (hK : nxtG P K I i c0 s0) : G P n_K_law K 30 228 [some (.retAddr 0), some (.ref 0), some (.ref 5), some (.ref 13), some (.int i), none, none] [] (hm s x (oc n w :: t)) cb sb := by
  obtain ⟨v1, v2, v3, v4, v5⟩ := hv
  refine go ok_K_law 120 ?_
  refine ⟨v1, ?_⟩
  refine ⟨fun b0 => ?_, fun b0 => ?_⟩
  · skip
    refine ⟨v2, ?_⟩
    refine ⟨v3, ?_⟩
    refine ⟨v4, ?_⟩
    refine ⟨_, _, _, K_put _ _ _ _ (anK_agr (hA _ _ _ _) (fun c n1 w1 t1 g1 g2 => ?_)), by omega, by omega, by decide⟩
    refine ⟨v1, ?_⟩
    refine ⟨fun _ => ?_, fun e => absurd b0 e⟩
    refine ⟨v2, ?_⟩
    refine ⟨v3, ?_⟩
    refine ⟨v4, ?_⟩
    refine ⟨_, _, _, M_put _ _ _ _ ?_, by omega, by omega, by decide⟩
    refine ⟨_, _, _, M_thrown ?_, by omega, by omega, by decide⟩
    refine ⟨fun _ => ?_, fun e => absurd g1 e⟩
    refine ⟨fun e0 => ?_, fun _ => ?_⟩
    · refine ⟨fun _ => ?_, fun e => absurd (g2 e0) e⟩
      refine nxtG_ok hK (hI _ _ _ _) ?_ ?_ <;> omega
    · refine nxtG_ok hK (hI _ _ _ _) ?_ ?_ <;> omega
  · skip
    refine ⟨v2, ?_⟩
    refine ⟨v3, ?_⟩
    refine ⟨v4, ?_⟩
    refine ⟨_, _, _, K_put _ _ _ _ (anK_agr (hA _ _ _ _) (fun c n1 w1 t1 g1 g2 => ?_)), by omega, by omega, by decide⟩
    refine ⟨v1, ?_⟩
    refine ⟨fun e => absurd e b0, fun _ => ?_⟩
    refine ⟨v2, ?_⟩
    refine ⟨v3, ?_⟩
    refine ⟨v4, ?_⟩
    refine ⟨_, _, _, M_put _ _ _ _ ?_, by omega, by omega, by decide⟩
    refine ⟨_, _, _, M_thrown ?_, by omega, by omega, by decide⟩
    refine ⟨fun _ => ?_, fun e => absurd g1 e⟩
    refine ⟨fun e0 => ?_, fun _ => ?_⟩
    · refine ⟨fun _ => ?_, fun e => absurd (g2 e0) e⟩
      refine nxtG_ok hK (hI _ _ _ _) ?_ ?_ <;> omega
    · refine nxtG_ok hK (hI _ _ _ _) ?_ ?_ <;> omega
end LAWM
theorem lp_hv {P : GP} {i : Int32} (h0 : 0 ≤ i.toInt) (h : i.toInt + 6 ≤ gL P) (hL : gL P ≤ 3072) : hvs P i ∧ vp_in i (gL P) ∧ (i + 6).toInt = i.toInt + 6 := by
  have ad : ∀ (c : Int32) (k : Int), c.toInt = k → 0 ≤ k → k ≤ 6 → (i + c).toInt = i.toInt + k := fun c k hc h1 h2 => by
    rw [Int32.toInt_add, hc]
    exact Int.bmod_eq_of_le (by omega) (by omega)
  have a1 := ad 1 1 (by decide) (by decide) (by decide)
  have a2 := ad 2 2 (by decide) (by decide) (by decide)
  have a3 := ad 3 3 (by decide) (by decide) (by decide)
  have a4 := ad 4 4 (by decide) (by decide) (by decide)
  have a5 := ad 5 5 (by decide) (by decide) (by decide)
  refine ⟨⟨?_, ?_, ?_, ?_, ?_⟩, ?_, ad 6 6 (by decide) (by decide) (by decide)⟩
  · rw [vp_in_iff, a1]
    omega
  · rw [vp_in_iff, a2]
    omega
  · rw [vp_in_iff, a3]
    omega
  · rw [vp_in_iff, a4]
    omega
  · rw [vp_in_iff, a5]
    omega
  · rw [vp_in_iff]
    omega
theorem lp_L {L : Nat} (hL : L ≤ 3072) : (Int32.ofNat L - 6).toInt = (L : Int) - 6 := by
  have e6 : (6 : Int32).toInt = 6 := by decide
  rw [Int32.toInt_sub, oN (by omega), e6]
  exact Int.bmod_eq_of_le (by omega) (by omega)
theorem lp_in {i : Int32} {L : Nat} (hL : L ≤ 3072) (h : ¬ Int32.ofNat L - 6 < i) : i.toInt + 6 ≤ L := by
  rw [Int32.lt_iff_toInt_lt, lp_L hL] at h
  omega
theorem lp_end {i : Int32} {L : Nat} (hL : L ≤ 3072) (h : (L : Int) ≤ i.toInt + 5) : Int32.ofNat L - 6 < i := by
  rw [Int32.lt_iff_toInt_lt, lp_L hL]
  omega
theorem lp_next {i j : Int32} {L m : Nat} (h0 : 0 ≤ i.toInt) (hj : j.toInt = i.toInt + 6) (hm : (L : Int) ≤ i.toInt + 6 * ((m + 1 : Nat) : Int) + 5) : 0 ≤ j.toInt ∧ (L : Int) ≤ j.toInt + 6 * (m : Int) + 5 := by omega
theorem lp_b {m cb a : Nat} (h : a * (m + 1) ≤ cb) : a * m + a ≤ cb := by
  rw [Nat.mul_succ] at h
  exact h
