/-! steps over arrays, constants, new cells -/
section SIM4
variable {P : GP} {a : Nat} {K : Kt} {d : Nat}
variable {k : Ct} {es : List Ent} {pc n x y z : Nat} {fl : Bool} {L : mLs} {st : List Value} {h : mH} {cb sb : Nat}
theorem cBy_of {c n : Nat} {g : Nat → Int32} {s : State} (hc : cBy c = some (n, g)) (hE : Env P s) : va_T .byte (gA P c) n (fun j => .int (g j)) (gF P) s s.heap := by
  obtain ⟨-, -, -, -, -, -, -, -, -, -, hS, -, hT, hO, -⟩ := hE
  unfold cBy at hc
  split at hc
  · rename_i hb
    simp only [Bool.and_eq_true] at hb
    have h1 : 30 ≤ c := Nat.le_of_ble_eq_true hb.1
    have h2 : c < 33 := Nat.le_of_ble_eq_true hb.2
    have h3 := (hS.1 (c - 30) (by omega)).2.2.2
    dsimp only at h3
    rw [show 30 + (c - 30) = c by omega] at h3
    split at hc
    · rename_i n9 hn
      rw [nth_eq] at hn
      have e : kSl.getD (c - 30) 0 = n9 := by rw [List.getD_eq_getElem?_getD, hn]; rfl
      rw [e] at h3
      simp only [Option.some.injEq, Prod.mk.injEq] at hc
      obtain ⟨rfl, rfl⟩ := hc
      exact h3
    · cases hc
  · split at hc
    · rename_i hb
      have := Nat.eq_of_beq_eq_true hb
      subst this
      cases hc
      exact hT.2
    · split at hc
      · rename_i hb
        have := Nat.eq_of_beq_eq_true hb
        subst this
        cases hc
        exact hO.2
      · cases hc
theorem script_lt {s : State} (hE : Env P s) : gA P 0 < s.heap.size ∧ ¬ gF P (gA P 0) := ⟨Nat.lt_of_lt_of_le hE.2.2.2.1 hE.2.1, Nat.not_le.mpr hE.2.2.2.1⟩
theorem alI_of {f : Value → List Value → Prop} (q : alI P h st f) : (∃ j i r m g, st = .int j :: .ref i :: r ∧ nth h i = some (.inl (1, m, .inl g)) ∧ vp_in j m ∧ f (.int (g j.toNatClampNeg)) r) ∨ (∃ j r, st = .int j :: .retAddr 0 :: r ∧ vp_in j (gL P) ∧ f (.int (gX P j.toNatClampNeg)) r) := by
  unfold alI at q
  split at q
  · split at q
    · split at q
      · rename_i hb
        have := Nat.eq_of_beq_eq_true hb
        subst this
        exact Or.inl ⟨_, _, _, _, _, rfl, by assumption, q.1, q.2⟩
      · exact q.elim
    · exact q.elim
  · split at q
    · exact Or.inr ⟨_, _, rfl, q.1, q.2⟩
    · exact q.elim
  · exact q.elim
theorem s_iaload (hk : Goes1 P a K d k) (hA : AllOk a) (o : OkE a (pc, .iaload, n, x, y, z, fl)) (ho : IsE a es) (q : stepI P a K d k (pc, .iaload, n, x, y, z, fl) es L st h cb sb) : G P a K d pc L st h cb sb := by
  have q : alI P h st fun v r => nxt P a K d k (pc + n) es L (v :: r) h cb sb := q
  obtain ⟨hd, hl, -⟩ := dec_of o
  have hn : n = 1 := Nat.eq_of_beq_eq_true hl
  subst hn
  rcases alI_of q with ⟨j, i, r, m9, g, rfl, hi, hin, qq⟩ | ⟨j, r, rfl, hin, qq⟩
  · exact G_of fun p e R s m args below meth c H locs cells slots ls F Y V hx hb => va_iald (ws := [(gN P + i, .inl (gC P 1, m9, .inl g))]) hx hb (Env_K F.2.2.2.2.2.2.1) (one_P (wd_arr Y.2.2.2 hi)) 0 1 rfl rfl hin hd (nxt_go hk ho qq p e R s m args below meth c H locs cells slots _ F Y V)
  · exact G_of fun p e R s m args below meth c H locs cells slots ls F Y V hx hb => va_sld hx hb F.2.2.2.2.2.2.1.2.2.1 (script_lt F.2.2.2.2.2.2.1).1 (script_lt F.2.2.2.2.2.2.1).2 Y.2.2.1 hin hd (nxt_go hk ho qq p e R s m args below meth c H locs cells slots _ F Y V)
theorem alB_of {f : Value → List Value → Prop} (q : alB h st f) : (∃ j i r m g, st = .int j :: .ref i :: r ∧ nth h i = some (.inl (0, m, .inl g)) ∧ vp_in j m ∧ f (.int (g j.toNatClampNeg)) r) ∨ (∃ j c r m g, st = .int j :: .retAddr c :: r ∧ cBy c = some (m, g) ∧ vp_in j m ∧ f (.int (g j.toNatClampNeg)) r) := by
  unfold alB at q
  split at q
  · split at q
    · split at q
      · rename_i hb
        have := Nat.eq_of_beq_eq_true hb
        subst this
        exact Or.inl ⟨_, _, _, _, _, rfl, by assumption, q.1, q.2⟩
      · exact q.elim
    · exact q.elim
  · split at q
    · exact Or.inr ⟨_, _, _, _, _, rfl, by assumption, q.1, q.2⟩
    · exact q.elim
  · exact q.elim
theorem s_baload (hk : Goes1 P a K d k) (hA : AllOk a) (o : OkE a (pc, .baload, n, x, y, z, fl)) (ho : IsE a es) (q : stepI P a K d k (pc, .baload, n, x, y, z, fl) es L st h cb sb) : G P a K d pc L st h cb sb := by
  have q : alB h st fun v r => nxt P a K d k (pc + n) es L (v :: r) h cb sb := q
  obtain ⟨hd, hl, -⟩ := dec_of o
  have hn : n = 1 := Nat.eq_of_beq_eq_true hl
  subst hn
  rcases alB_of q with ⟨j, i, r, m9, g, rfl, hi, hin, qq⟩ | ⟨j, c9, r, m9, g, rfl, hc, hin, qq⟩
  · exact G_of fun p e R s m args below meth c H locs cells slots ls F Y V hx hb => va_bald (ws := [(gN P + i, .inl (gC P 0, m9, .inl g))]) hx hb (Env_K F.2.2.2.2.2.2.1) (one_P (wd_arr Y.2.2.2 hi)) 0 0 rfl rfl hin hd (nxt_go hk ho qq p e R s m args below meth c H locs cells slots _ F Y V)
  · exact G_of fun p e R s m args below meth c H locs cells slots ls F Y V hx hb => va_tb hx hb (cBy_of hc F.2.2.2.2.2.2.1) Y.2.2.1 hin rfl hd (nxt_go hk ho qq p e R s m args below meth c H locs cells slots _ F Y V)
theorem alL_of {f : Value → List Value → Prop} (q : alL h st f) : ∃ j i r m g, st = .int j :: .ref i :: r ∧ nth h i = some (.inl (2, m, .inr (.inl g))) ∧ vp_in j m ∧ f (.long (g j.toNatClampNeg)) r := by
  unfold alL at q
  split at q
  · split at q
    · split at q
      · rename_i hb
        have := Nat.eq_of_beq_eq_true hb
        subst this
        exact ⟨_, _, _, _, _, rfl, by assumption, q.1, q.2⟩
      · exact q.elim
    · exact q.elim
  · exact q.elim
theorem s_laload (hk : Goes1 P a K d k) (hA : AllOk a) (o : OkE a (pc, .laload, n, x, y, z, fl)) (ho : IsE a es) (q : stepI P a K d k (pc, .laload, n, x, y, z, fl) es L st h cb sb) : G P a K d pc L st h cb sb := by
  have q : alL h st fun v r => nxt P a K d k (pc + n) es L (v :: r) h cb sb := q
  obtain ⟨hd, hl, -⟩ := dec_of o
  have hn : n = 1 := Nat.eq_of_beq_eq_true hl
  subst hn
  obtain ⟨j, i, r, m9, g, rfl, hi, hin, qq⟩ := alL_of q
  exact G_of fun p e R s m args below meth c H locs cells slots ls F Y V hx hb => va_lald (ws := [(gN P + i, .inl (gC P 2, m9, .inr (.inl g)))]) hx hb (Env_K F.2.2.2.2.2.2.1) (one_P (wd_arr Y.2.2.2 hi)) 0 2 rfl rfl hin hd (nxt_go hk ho qq p e R s m args below meth c H locs cells slots _ F Y V)
theorem alA_of {f : Value → List Value → Prop} (q : alA h st f) : ∃ j i r m g w, st = .int j :: .ref i :: r ∧ nth h i = some (.inl (3, m, .inr (.inr (.inr (.inr g))))) ∧ vp_in j m ∧ g j.toNatClampNeg = some w ∧ f (.ref w) r := by
  unfold alA at q
  split at q
  · split at q
    · split at q
      · rename_i hb
        have := Nat.eq_of_beq_eq_true hb
        subst this
        obtain ⟨q1, q2, q3⟩ := q
        obtain ⟨w, hw⟩ := Option.ne_none_iff_exists'.mp q3
        exact ⟨_, _, _, _, _, w, rfl, by assumption, q1, hw, q2 w hw⟩
      · exact q.elim
    · exact q.elim
  · exact q.elim
theorem s_aaload (hk : Goes1 P a K d k) (hA : AllOk a) (o : OkE a (pc, .aaload, n, x, y, z, fl)) (ho : IsE a es) (q : stepI P a K d k (pc, .aaload, n, x, y, z, fl) es L st h cb sb) : G P a K d pc L st h cb sb := by
  have q : alA h st fun v r => nxt P a K d k (pc + n) es L (v :: r) h cb sb := q
  obtain ⟨hd, hl, -⟩ := dec_of o
  have hn : n = 1 := Nat.eq_of_beq_eq_true hl
  subst hn
  obtain ⟨j, i, r, m9, g, w, rfl, hi, hin, hg, qq⟩ := alA_of q
  refine G_of fun p e R s m args below meth c H locs cells slots ls F Y V hx hb => ?_
  have K1 := nxt_go hk ho qq p e R s m args below meth c H locs cells slots _ F Y V
  have hlt : j.toNatClampNeg < m9 := Nat.not_le.mp fun q => hin (Or.inr q)
  have hc : H[gN P + i]? = some (vp_cell (gC P 3) (m9, .inr (.inr (.inr (.inr (fun j => (g j).map (fun i => gN P + i))))))) := wd_arr Y.2.2.2 hi
  exact W.aald (v := .ref (gN P + w)) (ty := .array .int) hx hb hc (((Env_K F.2.2.2.2.2.2.1).2 3 _ rfl).1 m9 (fun j => va_rf ((g j).map (fun i => gN P + i)))) rfl (fun q => by cases q) (by show ¬ (j < 0 ∨ (arrV _ _ _).slots.size ≤ _); rw [arrV_size]; exact hin) (by show (arrV _ _ _).slots[_]? = _; rw [arrV_read _ _ hlt]; simp only [hg]; rfl) rfl rfl hd K1
theorem asI_of {f : mH → List Value → Prop} (q : asI h st f) : ∃ x9 j i r m g, st = .int x9 :: .int j :: .ref i :: r ∧ nth h i = some (.inl (1, m, .inl g)) ∧ vp_in j m ∧ f (h.set i (.inl (1, m, .inl (upd g j.toNatClampNeg x9)))) r := by
  unfold asI at q
  split at q
  · split at q
    · split at q
      · rename_i hb
        have := Nat.eq_of_beq_eq_true hb
        subst this
        exact ⟨_, _, _, _, _, _, rfl, by assumption, q.1, q.2⟩
      · exact q.elim
    · exact q.elim
  · exact q.elim
theorem s_iastore (hk : Goes1 P a K d k) (hA : AllOk a) (o : OkE a (pc, .iastore, n, x, y, z, fl)) (ho : IsE a es) (q : stepI P a K d k (pc, .iastore, n, x, y, z, fl) es L st h cb sb) : G P a K d pc L st h cb sb := by
  have q : asI h st fun h r => nxt P a K d k (pc + n) es L r h cb sb := q
  obtain ⟨hd, hl, -⟩ := dec_of o
  have hn : n = 1 := Nat.eq_of_beq_eq_true hl
  subst hn
  obtain ⟨x9, j, i, r, m9, g, rfl, hi, hin, qq⟩ := asI_of q
  refine G_of fun p e R s m args below meth c H locs cells slots ls F Y V hx hb => ?_
  have hc : H[gN P + i]? = some (vp_cell (gC P 1) (m9, .inl g)) := wd_arr Y.2.2.2 hi
  refine W.iast hx hb hc (((Env_K F.2.2.2.2.2.2.1).2 1 _ rfl).1 m9 (fun j => .int (g j))) (fun q => by cases q) (by show ¬ (j < 0 ∨ (arrV _ _ _).slots.size ≤ _); rw [arrV_size]; exact hin) rfl rfl hd fun H1 e1 z1 oq => ?_
  refine nxt_go hk ho qq p e R s m args below meth c H1 _ cells slots _ F ⟨Y.1, Y.2.1, Y.2.2.1.put z1 oq ?_, wd_set Y.2.2.2 hi z1 ?_ oq⟩ V
  · show gN P ≤ gN P + i
    omega
  · show H1[gN P + i]? = some (vp_cell _ _)
    rw [e1]
    show _ = some (vp_cell (gC P 1) (m9, .inl (upd g j.toNatClampNeg x9)))
    rw [vp_cell_i, vp_cell_i, arrV_store]
    congr 2
    funext q
    by_cases hq : q = j.toNatClampNeg
    · subst hq
      simp [updV, upd]
    · simp [updV, upd, hq]
theorem asB_of {f : mH → List Value → Prop} (q : asB h st f) : ∃ x9 j i r m g, st = .int x9 :: .int j :: .ref i :: r ∧ nth h i = some (.inl (0, m, .inl g)) ∧ vp_in j m ∧ f (h.set i (.inl (0, m, .inl (upd g j.toNatClampNeg (vp_nar .byte x9))))) r := by
  unfold asB at q
  split at q
  · split at q
    · split at q
      · rename_i hb
        have := Nat.eq_of_beq_eq_true hb
        subst this
        exact ⟨_, _, _, _, _, _, rfl, by assumption, q.1, q.2⟩
      · exact q.elim
    · exact q.elim
  · exact q.elim
theorem s_bastore (hk : Goes1 P a K d k) (hA : AllOk a) (o : OkE a (pc, .bastore, n, x, y, z, fl)) (ho : IsE a es) (q : stepI P a K d k (pc, .bastore, n, x, y, z, fl) es L st h cb sb) : G P a K d pc L st h cb sb := by
  have q : asB h st fun h r => nxt P a K d k (pc + n) es L r h cb sb := q
  obtain ⟨hd, hl, -⟩ := dec_of o
  have hn : n = 1 := Nat.eq_of_beq_eq_true hl
  subst hn
  obtain ⟨x9, j, i, r, m9, g, rfl, hi, hin, qq⟩ := asB_of q
  refine G_of fun p e R s m args below meth c H locs cells slots ls F Y V hx hb => ?_
  have hc : H[gN P + i]? = some (vp_cell (gC P 0) (m9, .inl g)) := wd_arr Y.2.2.2 hi
  refine W.bast hx hb hc (((Env_K F.2.2.2.2.2.2.1).2 0 _ rfl).1 m9 (fun j => .int (g j))) (fun q => by cases q) (by show ¬ (j < 0 ∨ (arrV _ _ _).slots.size ≤ _); rw [arrV_size]; exact hin) rfl rfl hd fun H1 e1 z1 oq => ?_
  refine nxt_go hk ho qq p e R s m args below meth c H1 _ cells slots _ F ⟨Y.1, Y.2.1, Y.2.2.1.put z1 oq ?_, wd_set Y.2.2.2 hi z1 ?_ oq⟩ V
  · show gN P ≤ gN P + i
    omega
  · show H1[gN P + i]? = some (vp_cell _ _)
    rw [e1]
    show _ = some (vp_cell (gC P 0) (m9, .inl (upd g j.toNatClampNeg (vp_nar .byte x9))))
    rw [vp_cell_i, vp_cell_i, arrV_store]
    congr 2
    funext q
    by_cases hq : q = j.toNatClampNeg
    · subst hq
      simp [updV, upd]
      rfl
    · simp [updV, upd, hq]
theorem asL_of {f : mH → List Value → Prop} (q : asL h st f) : ∃ x9 j i r m g, st = .long x9 :: .int j :: .ref i :: r ∧ nth h i = some (.inl (2, m, .inr (.inl g))) ∧ vp_in j m ∧ f (h.set i (.inl (2, m, .inr (.inl (vp_updL g j.toNatClampNeg x9))))) r := by
  unfold asL at q
  split at q
  · split at q
    · split at q
      · rename_i hb
        have := Nat.eq_of_beq_eq_true hb
        subst this
        exact ⟨_, _, _, _, _, _, rfl, by assumption, q.1, q.2⟩
      · exact q.elim
    · exact q.elim
  · exact q.elim
theorem s_lastore (hk : Goes1 P a K d k) (hA : AllOk a) (o : OkE a (pc, .lastore, n, x, y, z, fl)) (ho : IsE a es) (q : stepI P a K d k (pc, .lastore, n, x, y, z, fl) es L st h cb sb) : G P a K d pc L st h cb sb := by
  have q : asL h st fun h r => nxt P a K d k (pc + n) es L r h cb sb := q
  obtain ⟨hd, hl, -⟩ := dec_of o
  have hn : n = 1 := Nat.eq_of_beq_eq_true hl
  subst hn
  obtain ⟨x9, j, i, r, m9, g, rfl, hi, hin, qq⟩ := asL_of q
  refine G_of fun p e R s m args below meth c H locs cells slots ls F Y V hx hb => ?_
  have hc : H[gN P + i]? = some (vp_cell (gC P 2) (m9, .inr (.inl g))) := wd_arr Y.2.2.2 hi
  refine W.last hx hb hc (((Env_K F.2.2.2.2.2.2.1).2 2 _ rfl).1 m9 (fun j => .long (g j))) (fun q => by cases q) (by show ¬ (j < 0 ∨ (arrV _ _ _).slots.size ≤ _); rw [arrV_size]; exact hin) rfl rfl hd fun H1 e1 z1 oq => ?_
  refine nxt_go hk ho qq p e R s m args below meth c H1 _ cells slots _ F ⟨Y.1, Y.2.1, Y.2.2.1.put z1 oq ?_, wd_set Y.2.2.2 hi z1 ?_ oq⟩ V
  · show gN P ≤ gN P + i
    omega
  · show H1[gN P + i]? = some (vp_cell _ _)
    rw [e1]
    show _ = some (vp_cell (gC P 2) (m9, .inr (.inl (vp_updL g j.toNatClampNeg x9))))
    rw [vp_cell_l, vp_cell_l, arrV_store]
    congr 2
    funext q
    by_cases hq : q = j.toNatClampNeg
    · subst hq
      simp [updV, vp_updL]
    · simp [updV, vp_updL, hq]
theorem aln_of {f : Value → List Value → Prop} (q : aln P h st f) : (∃ i r k m g, st = .ref i :: r ∧ nth h i = some (.inl (k, m, g)) ∧ k < 4 ∧ f (.int (Int32.ofNat m)) r) ∨ (∃ r, st = .retAddr 0 :: r ∧ f (.int (Int32.ofNat (gL P))) r) ∨ (∃ c r m g, st = .retAddr c :: r ∧ cBy c = some (m, g) ∧ f (.int (Int32.ofNat m)) r) := by
  unfold aln at q
  split at q
  · split at q
    · split at q
      · rename_i hb
        exact Or.inl ⟨_, _, _, _, _, rfl, by assumption, Nat.le_of_ble_eq_true hb, q⟩
      · exact q.elim
    · exact q.elim
  · split at q
    · exact Or.inr (Or.inl ⟨_, rfl, q⟩)
    · split at q
      · exact Or.inr (Or.inr ⟨_, _, _, _, rfl, by assumption, q⟩)
      · exact q.elim
  · exact q.elim
theorem s_arraylength (hk : Goes1 P a K d k) (hA : AllOk a) (o : OkE a (pc, .arraylength, n, x, y, z, fl)) (ho : IsE a es) (q : stepI P a K d k (pc, .arraylength, n, x, y, z, fl) es L st h cb sb) : G P a K d pc L st h cb sb := by
  have q : aln P h st fun v r => nxt P a K d k (pc + n) es L (v :: r) h cb sb := q
  obtain ⟨hd, hl, -⟩ := dec_of o
  have hn : n = 1 := Nat.eq_of_beq_eq_true hl
  subst hn
  rcases aln_of q with ⟨i, r, k9, m9, g, rfl, hi, h4, qq⟩ | ⟨r, rfl, qq⟩ | ⟨c9, r, m9, g, rfl, hc, qq⟩
  · refine G_of fun p e R s m args below meth c H locs cells slots ls F Y V hx hb => ?_
    have hk9 : ∃ ty, (tys P)[k9]? = some (gC P k9, ty) := by
      match k9, h4 with
      | 0, _ => exact ⟨_, rfl⟩
      | 1, _ => exact ⟨_, rfl⟩
      | 2, _ => exact ⟨_, rfl⟩
      | 3, _ => exact ⟨_, rfl⟩
    obtain ⟨ty, hty⟩ := hk9
    exact va_alen (ws := [(gN P + i, .inl (gC P k9, m9, mRA P g))]) hx hb (Env_K F.2.2.2.2.2.2.1) (one_P (wd_arr Y.2.2.2 hi)) 0 k9 rfl hty rfl hd (nxt_go hk ho qq p e R s m args below meth c H locs cells slots _ F Y V)
  · exact G_of fun p e R s m args below meth c H locs cells slots ls F Y V hx hb => va_slen hx hb F.2.2.2.2.2.2.1.2.2.1 (script_lt F.2.2.2.2.2.2.1).1 (script_lt F.2.2.2.2.2.2.1).2 Y.2.2.1 hd (nxt_go hk ho qq p e R s m args below meth c H locs cells slots _ F Y V)
  · exact G_of fun p e R s m args below meth c H locs cells slots ls F Y V hx hb => va_tlen hx hb (cBy_of hc F.2.2.2.2.2.2.1) Y.2.2.1 rfl hd (nxt_go hk ho qq p e R s m args below meth c H locs cells slots _ F Y V)
end SIM4
