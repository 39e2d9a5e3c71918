/-! THE SMALL MACHINE IS THE MACHINE: each step of it, by the kit's rows -/
section SIM
variable {P : GP} {a : Nat} {K : Kt} {d : Nat}
/-- W of the frame that G speaks of, its hypotheses at hand -/
def GW (P : GP) (a : Nat) (K : Kt) (p : Program) (e : Jvm.Env) (R : Room) (s : State) (m : MethodId) (args : Array Value) (below : List Frame) (meth : Method) (c : Code) (H : Heap) (locs : List Loc) (cells slots : Nat) (pc : Nat) (ls : Array Slot) (st : List Value) : Prop :=
  W p (gl P) e R s m args below meth c H locs cells slots (vx_MQ below (QcK P K) (XcK P K) args s R.cells R.slots (gF P)) (F0 m pc ls (st.map (mV P)))
theorem dec_of {a : Nat} {pc : Nat} {i : Instr} {n x y z : Nat} {f : Bool} (h : OkE a (pc, i, n, x, y, z, f)) : decode (mCode a) pc = .ok (i, n) ∧ lnk a pc i n x y z = true ∧ ∀ q ∈ lnW a i x y z, q.2 ∈ lT ∧ okK q.1 q.2 = true := by
  obtain ⟨h1, h2⟩ := h
  unfold chkE at h1
  simp only [Bool.and_eq_true, decide_eq_true_eq] at h1
  exact ⟨h1.1, h1.2, h2⟩
theorem Fx_hx {p : Program} {R : Room} {s : State} {m : MethodId} {args : Array Value} {meth : Method} {c : Code} (F : Fx P a d p R s m args meth c) : p.tables.exec = Jvm.exec ∧ c.code = mCode a := ⟨F.1, F.2.1⟩
/-- a step that leaves the heap as it is: from the row to G -/
theorem G_of {pc : Nat} {L : mLs} {st : List Value} {h : mH} {cb sb : Nat}
    (k : ∀ (p : Program) (e : Jvm.Env) (R : Room) (s : State) (m : MethodId) (args : Array Value) (below : List Frame) (meth : Method) (c : Code) (H : Heap) (locs : List Loc) (cells slots : Nat) (ls : Array Slot),
      Fx P a d p R s m args meth c → Dy P R s H locs cells slots h cb sb → LV P ls (mMax a) L → p.tables.exec = Jvm.exec → c.code = mCode a →
      W p (gl P) e R s m args below meth c H locs cells slots (vx_MQ below (QcK P K) (XcK P K) args s R.cells R.slots (gF P)) (F0 m pc ls (st.map (mV P)))) : G P a K d pc L st h cb sb :=
  fun p e R s m args below meth c H locs cells slots ls F Y V => k p e R s m args below meth c H locs cells slots ls F Y V F.1 F.2.1
theorem p2i_of {st : List Value} {f : Int32 → Int32 → List Value → Prop} (h : p2i st f) : ∃ x y r, st = .int y :: .int x :: r ∧ f x y r := by
  unfold p2i at h
  split at h
  · exact ⟨_, _, _, rfl, h⟩
  · exact h.elim
theorem p1i_of {st : List Value} {f : Int32 → List Value → Prop} (h : p1i st f) : ∃ x r, st = .int x :: r ∧ f x r := by
  unfold p1i at h
  split at h
  · exact ⟨_, _, rfl, h⟩
  · exact h.elim
theorem p2l_of {st : List Value} {f : Int64 → Int64 → List Value → Prop} (h : p2l st f) : ∃ x y r, st = .long y :: .long x :: r ∧ f x y r := by
  unfold p2l at h
  split at h
  · exact ⟨_, _, _, rfl, h⟩
  · exact h.elim
theorem p1l_of {st : List Value} {f : Int64 → List Value → Prop} (h : p1l st f) : ∃ x r, st = .long x :: r ∧ f x r := by
  unfold p1l at h
  split at h
  · exact ⟨_, _, rfl, h⟩
  · exact h.elim
theorem plj_of {st : List Value} {f : Int64 → Int32 → List Value → Prop} (h : plj st f) : ∃ x y r, st = .int y :: .long x :: r ∧ f x y r := by
  unfold plj at h
  split at h
  · exact ⟨_, _, _, rfl, h⟩
  · exact h.elim
theorem ldI_of {L : mLs} {i : Nat} {f : Int32 → Prop} (h : ldI L i f) : ∃ x, nth L i = some (some (.int x)) ∧ f x := by
  unfold ldI at h
  split at h
  · exact ⟨_, by assumption, h⟩
  · exact h.elim
theorem ldL_of {L : mLs} {i : Nat} {f : Int64 → Prop} (h : ldL L i f) : ∃ x, nth L i = some (some (.long x)) ∧ f x := by
  unfold ldL at h
  split at h
  · exact ⟨_, by assumption, h⟩
  · exact h.elim
theorem ldA_of {L : mLs} {i : Nat} {f : Value → Prop} (h : ldA L i f) : ∃ v, nth L i = some (some v) ∧ f v ∧ (v = .null ∨ ∃ b : Nat, mV P v = .ref b) := by
  unfold ldA at h
  split at h
  · exact ⟨_, by assumption, h, Or.inr ⟨_, rfl⟩⟩
  · exact ⟨_, by assumption, h, Or.inr ⟨_, rfl⟩⟩
  · exact ⟨_, by assumption, h, Or.inl rfl⟩
  · exact h.elim
theorem cI_of {i : Nat} {f : Int32 → Prop} (h : cI i f) : ∃ v, nth kI i = some v ∧ f v := by
  unfold cI at h
  split at h
  · exact ⟨_, by assumption, h⟩
  · exact h.elim
theorem cJ_of {i : Nat} {f : Int64 → Prop} (h : cJ i f) : ∃ v, nth kJ i = some v ∧ f v := by
  unfold cJ at h
  split at h
  · exact ⟨_, by assumption, h⟩
  · exact h.elim
variable {k : Ct} {es : List Ent} {pc n x y z : Nat} {fl : Bool} {L : mLs} {st : List Value} {h : mH} {cb sb : Nat}
theorem s_iadd (hk : Goes1 P a K d k) (hA : AllOk a) (o : OkE a (pc, .iadd, n, x, y, z, fl)) (ho : IsE a es) (q : stepI P a K d k (pc, .iadd, n, x, y, z, fl) es L st h cb sb) : G P a K d pc L st h cb sb := by
  obtain ⟨u, v, r, rfl, qq⟩ := p2i_of q
  obtain ⟨hd, hl, -⟩ := dec_of o
  have hn : n = 1 := Nat.eq_of_beq_eq_true hl
  subst hn
  exact G_of fun p e R s m args below meth c H locs cells slots ls F Y V hx hb => lv_iadd hx hb hd (nxt_go hk ho qq p e R s m args below meth c H locs cells slots _ F Y V)
theorem s_isub (hk : Goes1 P a K d k) (hA : AllOk a) (o : OkE a (pc, .isub, n, x, y, z, fl)) (ho : IsE a es) (q : stepI P a K d k (pc, .isub, n, x, y, z, fl) es L st h cb sb) : G P a K d pc L st h cb sb := by
  obtain ⟨u, v, r, rfl, qq⟩ := p2i_of q
  obtain ⟨hd, hl, -⟩ := dec_of o
  have hn : n = 1 := Nat.eq_of_beq_eq_true hl
  subst hn
  exact G_of fun p e R s m args below meth c H locs cells slots ls F Y V hx hb => lv_isub hx hb hd (nxt_go hk ho qq p e R s m args below meth c H locs cells slots _ F Y V)
theorem s_imul (hk : Goes1 P a K d k) (hA : AllOk a) (o : OkE a (pc, .imul, n, x, y, z, fl)) (ho : IsE a es) (q : stepI P a K d k (pc, .imul, n, x, y, z, fl) es L st h cb sb) : G P a K d pc L st h cb sb := by
  obtain ⟨u, v, r, rfl, qq⟩ := p2i_of q
  obtain ⟨hd, hl, -⟩ := dec_of o
  have hn : n = 1 := Nat.eq_of_beq_eq_true hl
  subst hn
  exact G_of fun p e R s m args below meth c H locs cells slots ls F Y V hx hb => lv_imul hx hb hd (nxt_go hk ho qq p e R s m args below meth c H locs cells slots _ F Y V)
theorem s_iand (hk : Goes1 P a K d k) (hA : AllOk a) (o : OkE a (pc, .iand, n, x, y, z, fl)) (ho : IsE a es) (q : stepI P a K d k (pc, .iand, n, x, y, z, fl) es L st h cb sb) : G P a K d pc L st h cb sb := by
  obtain ⟨u, v, r, rfl, qq⟩ := p2i_of q
  obtain ⟨hd, hl, -⟩ := dec_of o
  have hn : n = 1 := Nat.eq_of_beq_eq_true hl
  subst hn
  exact G_of fun p e R s m args below meth c H locs cells slots ls F Y V hx hb => lv_iand hx hb hd (nxt_go hk ho qq p e R s m args below meth c H locs cells slots _ F Y V)
theorem s_ior (hk : Goes1 P a K d k) (hA : AllOk a) (o : OkE a (pc, .ior, n, x, y, z, fl)) (ho : IsE a es) (q : stepI P a K d k (pc, .ior, n, x, y, z, fl) es L st h cb sb) : G P a K d pc L st h cb sb := by
  obtain ⟨u, v, r, rfl, qq⟩ := p2i_of q
  obtain ⟨hd, hl, -⟩ := dec_of o
  have hn : n = 1 := Nat.eq_of_beq_eq_true hl
  subst hn
  exact G_of fun p e R s m args below meth c H locs cells slots ls F Y V hx hb => lv_ior hx hb hd (nxt_go hk ho qq p e R s m args below meth c H locs cells slots _ F Y V)
theorem s_idiv (hk : Goes1 P a K d k) (hA : AllOk a) (o : OkE a (pc, .idiv, n, x, y, z, fl)) (ho : IsE a es) (q : stepI P a K d k (pc, .idiv, n, x, y, z, fl) es L st h cb sb) : G P a K d pc L st h cb sb := by
  obtain ⟨u, v, r, rfl, hne, qq⟩ := p2i_of q
  obtain ⟨hd, hl, -⟩ := dec_of o
  have hn : n = 1 := Nat.eq_of_beq_eq_true hl
  subst hn
  exact G_of fun p e R s m args below meth c H locs cells slots ls F Y V hx hb => lv_idiv hx hb hd hne (nxt_go hk ho qq p e R s m args below meth c H locs cells slots _ F Y V)
theorem s_irem (hk : Goes1 P a K d k) (hA : AllOk a) (o : OkE a (pc, .irem, n, x, y, z, fl)) (ho : IsE a es) (q : stepI P a K d k (pc, .irem, n, x, y, z, fl) es L st h cb sb) : G P a K d pc L st h cb sb := by
  obtain ⟨u, v, r, rfl, hne, qq⟩ := p2i_of q
  obtain ⟨hd, hl, -⟩ := dec_of o
  have hn : n = 1 := Nat.eq_of_beq_eq_true hl
  subst hn
  exact G_of fun p e R s m args below meth c H locs cells slots ls F Y V hx hb => lv_irem hx hb hd hne (nxt_go hk ho qq p e R s m args below meth c H locs cells slots _ F Y V)
theorem s_ishl (hk : Goes1 P a K d k) (hA : AllOk a) (o : OkE a (pc, .ishl, n, x, y, z, fl)) (ho : IsE a es) (q : stepI P a K d k (pc, .ishl, n, x, y, z, fl) es L st h cb sb) : G P a K d pc L st h cb sb := by
  obtain ⟨u, v, r, rfl, qq⟩ := p2i_of q
  obtain ⟨hd, hl, -⟩ := dec_of o
  have hn : n = 1 := Nat.eq_of_beq_eq_true hl
  subst hn
  exact G_of fun p e R s m args below meth c H locs cells slots ls F Y V hx hb => lv_ishl hx hb hd (nxt_go hk ho qq p e R s m args below meth c H locs cells slots _ F Y V)
theorem s_ishr (hk : Goes1 P a K d k) (hA : AllOk a) (o : OkE a (pc, .ishr, n, x, y, z, fl)) (ho : IsE a es) (q : stepI P a K d k (pc, .ishr, n, x, y, z, fl) es L st h cb sb) : G P a K d pc L st h cb sb := by
  obtain ⟨u, v, r, rfl, qq⟩ := p2i_of q
  obtain ⟨hd, hl, -⟩ := dec_of o
  have hn : n = 1 := Nat.eq_of_beq_eq_true hl
  subst hn
  exact G_of fun p e R s m args below meth c H locs cells slots ls F Y V hx hb => lv_ishr hx hb hd (nxt_go hk ho qq p e R s m args below meth c H locs cells slots _ F Y V)
theorem s_iushr (hk : Goes1 P a K d k) (hA : AllOk a) (o : OkE a (pc, .iushr, n, x, y, z, fl)) (ho : IsE a es) (q : stepI P a K d k (pc, .iushr, n, x, y, z, fl) es L st h cb sb) : G P a K d pc L st h cb sb := by
  obtain ⟨u, v, r, rfl, qq⟩ := p2i_of q
  obtain ⟨hd, hl, -⟩ := dec_of o
  have hn : n = 1 := Nat.eq_of_beq_eq_true hl
  subst hn
  exact G_of fun p e R s m args below meth c H locs cells slots ls F Y V hx hb => lv_iushr hx hb hd rfl (nxt_go hk ho qq p e R s m args below meth c H locs cells slots _ F Y V)
theorem s_ineg (hk : Goes1 P a K d k) (hA : AllOk a) (o : OkE a (pc, .ineg, n, x, y, z, fl)) (ho : IsE a es) (q : stepI P a K d k (pc, .ineg, n, x, y, z, fl) es L st h cb sb) : G P a K d pc L st h cb sb := by
  obtain ⟨v, r, rfl, qq⟩ := p1i_of q
  obtain ⟨hd, hl, -⟩ := dec_of o
  have hn : n = 1 := Nat.eq_of_beq_eq_true hl
  subst hn
  exact G_of fun p e R s m args below meth c H locs cells slots ls F Y V hx hb => lv_ineg hx hb hd (nxt_go hk ho qq p e R s m args below meth c H locs cells slots _ F Y V)
theorem s_i2l (hk : Goes1 P a K d k) (hA : AllOk a) (o : OkE a (pc, .i2l, n, x, y, z, fl)) (ho : IsE a es) (q : stepI P a K d k (pc, .i2l, n, x, y, z, fl) es L st h cb sb) : G P a K d pc L st h cb sb := by
  obtain ⟨v, r, rfl, qq⟩ := p1i_of q
  obtain ⟨hd, hl, -⟩ := dec_of o
  have hn : n = 1 := Nat.eq_of_beq_eq_true hl
  subst hn
  exact G_of fun p e R s m args below meth c H locs cells slots ls F Y V hx hb => lv_i2l hx hb hd rfl (nxt_go hk ho qq p e R s m args below meth c H locs cells slots _ F Y V)
theorem s_i2b (hk : Goes1 P a K d k) (hA : AllOk a) (o : OkE a (pc, .i2b, n, x, y, z, fl)) (ho : IsE a es) (q : stepI P a K d k (pc, .i2b, n, x, y, z, fl) es L st h cb sb) : G P a K d pc L st h cb sb := by
  obtain ⟨v, r, rfl, qq⟩ := p1i_of q
  obtain ⟨hd, hl, -⟩ := dec_of o
  have hn : n = 1 := Nat.eq_of_beq_eq_true hl
  subst hn
  exact G_of fun p e R s m args below meth c H locs cells slots ls F Y V hx hb => lv_i2b hx hb hd rfl (nxt_go hk ho qq p e R s m args below meth c H locs cells slots _ F Y V)
theorem s_i2c (hk : Goes1 P a K d k) (hA : AllOk a) (o : OkE a (pc, .i2c, n, x, y, z, fl)) (ho : IsE a es) (q : stepI P a K d k (pc, .i2c, n, x, y, z, fl) es L st h cb sb) : G P a K d pc L st h cb sb := by
  obtain ⟨v, r, rfl, qq⟩ := p1i_of q
  obtain ⟨hd, hl, -⟩ := dec_of o
  have hn : n = 1 := Nat.eq_of_beq_eq_true hl
  subst hn
  exact G_of fun p e R s m args below meth c H locs cells slots ls F Y V hx hb => lv_i2c hx hb hd rfl (nxt_go hk ho qq p e R s m args below meth c H locs cells slots _ F Y V)
theorem s_l2i (hk : Goes1 P a K d k) (hA : AllOk a) (o : OkE a (pc, .l2i, n, x, y, z, fl)) (ho : IsE a es) (q : stepI P a K d k (pc, .l2i, n, x, y, z, fl) es L st h cb sb) : G P a K d pc L st h cb sb := by
  obtain ⟨v, r, rfl, qq⟩ := p1l_of q
  obtain ⟨hd, hl, -⟩ := dec_of o
  have hn : n = 1 := Nat.eq_of_beq_eq_true hl
  subst hn
  exact G_of fun p e R s m args below meth c H locs cells slots ls F Y V hx hb => lv_l2i hx hb hd rfl (nxt_go hk ho qq p e R s m args below meth c H locs cells slots _ F Y V)
theorem s_lneg (hk : Goes1 P a K d k) (hA : AllOk a) (o : OkE a (pc, .lneg, n, x, y, z, fl)) (ho : IsE a es) (q : stepI P a K d k (pc, .lneg, n, x, y, z, fl) es L st h cb sb) : G P a K d pc L st h cb sb := by
  obtain ⟨v, r, rfl, qq⟩ := p1l_of q
  obtain ⟨hd, hl, -⟩ := dec_of o
  have hn : n = 1 := Nat.eq_of_beq_eq_true hl
  subst hn
  exact G_of fun p e R s m args below meth c H locs cells slots ls F Y V hx hb => lv_lneg hx hb hd (nxt_go hk ho qq p e R s m args below meth c H locs cells slots _ F Y V)
theorem s_ladd (hk : Goes1 P a K d k) (hA : AllOk a) (o : OkE a (pc, .ladd, n, x, y, z, fl)) (ho : IsE a es) (q : stepI P a K d k (pc, .ladd, n, x, y, z, fl) es L st h cb sb) : G P a K d pc L st h cb sb := by
  obtain ⟨u, v, r, rfl, qq⟩ := p2l_of q
  obtain ⟨hd, hl, -⟩ := dec_of o
  have hn : n = 1 := Nat.eq_of_beq_eq_true hl
  subst hn
  exact G_of fun p e R s m args below meth c H locs cells slots ls F Y V hx hb => lv_ladd hx hb hd (nxt_go hk ho qq p e R s m args below meth c H locs cells slots _ F Y V)
theorem s_lsub (hk : Goes1 P a K d k) (hA : AllOk a) (o : OkE a (pc, .lsub, n, x, y, z, fl)) (ho : IsE a es) (q : stepI P a K d k (pc, .lsub, n, x, y, z, fl) es L st h cb sb) : G P a K d pc L st h cb sb := by
  obtain ⟨u, v, r, rfl, qq⟩ := p2l_of q
  obtain ⟨hd, hl, -⟩ := dec_of o
  have hn : n = 1 := Nat.eq_of_beq_eq_true hl
  subst hn
  exact G_of fun p e R s m args below meth c H locs cells slots ls F Y V hx hb => lv_lsub hx hb hd (nxt_go hk ho qq p e R s m args below meth c H locs cells slots _ F Y V)
theorem s_lmul (hk : Goes1 P a K d k) (hA : AllOk a) (o : OkE a (pc, .lmul, n, x, y, z, fl)) (ho : IsE a es) (q : stepI P a K d k (pc, .lmul, n, x, y, z, fl) es L st h cb sb) : G P a K d pc L st h cb sb := by
  obtain ⟨u, v, r, rfl, qq⟩ := p2l_of q
  obtain ⟨hd, hl, -⟩ := dec_of o
  have hn : n = 1 := Nat.eq_of_beq_eq_true hl
  subst hn
  exact G_of fun p e R s m args below meth c H locs cells slots ls F Y V hx hb => lv_lmul hx hb hd (nxt_go hk ho qq p e R s m args below meth c H locs cells slots _ F Y V)
theorem s_land (hk : Goes1 P a K d k) (hA : AllOk a) (o : OkE a (pc, .land, n, x, y, z, fl)) (ho : IsE a es) (q : stepI P a K d k (pc, .land, n, x, y, z, fl) es L st h cb sb) : G P a K d pc L st h cb sb := by
  obtain ⟨u, v, r, rfl, qq⟩ := p2l_of q
  obtain ⟨hd, hl, -⟩ := dec_of o
  have hn : n = 1 := Nat.eq_of_beq_eq_true hl
  subst hn
  exact G_of fun p e R s m args below meth c H locs cells slots ls F Y V hx hb => lv_land hx hb hd (nxt_go hk ho qq p e R s m args below meth c H locs cells slots _ F Y V)
theorem s_lor (hk : Goes1 P a K d k) (hA : AllOk a) (o : OkE a (pc, .lor, n, x, y, z, fl)) (ho : IsE a es) (q : stepI P a K d k (pc, .lor, n, x, y, z, fl) es L st h cb sb) : G P a K d pc L st h cb sb := by
  obtain ⟨u, v, r, rfl, qq⟩ := p2l_of q
  obtain ⟨hd, hl, -⟩ := dec_of o
  have hn : n = 1 := Nat.eq_of_beq_eq_true hl
  subst hn
  exact G_of fun p e R s m args below meth c H locs cells slots ls F Y V hx hb => lv_lor hx hb hd (nxt_go hk ho qq p e R s m args below meth c H locs cells slots _ F Y V)
theorem s_lxor (hk : Goes1 P a K d k) (hA : AllOk a) (o : OkE a (pc, .lxor, n, x, y, z, fl)) (ho : IsE a es) (q : stepI P a K d k (pc, .lxor, n, x, y, z, fl) es L st h cb sb) : G P a K d pc L st h cb sb := by
  obtain ⟨u, v, r, rfl, qq⟩ := p2l_of q
  obtain ⟨hd, hl, -⟩ := dec_of o
  have hn : n = 1 := Nat.eq_of_beq_eq_true hl
  subst hn
  exact G_of fun p e R s m args below meth c H locs cells slots ls F Y V hx hb => lv_lxor hx hb hd (nxt_go hk ho qq p e R s m args below meth c H locs cells slots _ F Y V)
theorem s_ldiv (hk : Goes1 P a K d k) (hA : AllOk a) (o : OkE a (pc, .ldiv, n, x, y, z, fl)) (ho : IsE a es) (q : stepI P a K d k (pc, .ldiv, n, x, y, z, fl) es L st h cb sb) : G P a K d pc L st h cb sb := by
  obtain ⟨u, v, r, rfl, hne, qq⟩ := p2l_of q
  obtain ⟨hd, hl, -⟩ := dec_of o
  have hn : n = 1 := Nat.eq_of_beq_eq_true hl
  subst hn
  exact G_of fun p e R s m args below meth c H locs cells slots ls F Y V hx hb => lv_ldiv hx hb hd hne (nxt_go hk ho qq p e R s m args below meth c H locs cells slots _ F Y V)
theorem s_lrem (hk : Goes1 P a K d k) (hA : AllOk a) (o : OkE a (pc, .lrem, n, x, y, z, fl)) (ho : IsE a es) (q : stepI P a K d k (pc, .lrem, n, x, y, z, fl) es L st h cb sb) : G P a K d pc L st h cb sb := by
  obtain ⟨u, v, r, rfl, hne, qq⟩ := p2l_of q
  obtain ⟨hd, hl, -⟩ := dec_of o
  have hn : n = 1 := Nat.eq_of_beq_eq_true hl
  subst hn
  exact G_of fun p e R s m args below meth c H locs cells slots ls F Y V hx hb => lv_lrem hx hb hd hne (nxt_go hk ho qq p e R s m args below meth c H locs cells slots _ F Y V)
theorem s_lshl (hk : Goes1 P a K d k) (hA : AllOk a) (o : OkE a (pc, .lshl, n, x, y, z, fl)) (ho : IsE a es) (q : stepI P a K d k (pc, .lshl, n, x, y, z, fl) es L st h cb sb) : G P a K d pc L st h cb sb := by
  obtain ⟨u, v, r, rfl, qq⟩ := plj_of q
  obtain ⟨hd, hl, -⟩ := dec_of o
  have hn : n = 1 := Nat.eq_of_beq_eq_true hl
  subst hn
  exact G_of fun p e R s m args below meth c H locs cells slots ls F Y V hx hb => lv_lshl hx hb hd rfl (nxt_go hk ho qq p e R s m args below meth c H locs cells slots _ F Y V)
theorem s_lshr (hk : Goes1 P a K d k) (hA : AllOk a) (o : OkE a (pc, .lshr, n, x, y, z, fl)) (ho : IsE a es) (q : stepI P a K d k (pc, .lshr, n, x, y, z, fl) es L st h cb sb) : G P a K d pc L st h cb sb := by
  obtain ⟨u, v, r, rfl, qq⟩ := plj_of q
  obtain ⟨hd, hl, -⟩ := dec_of o
  have hn : n = 1 := Nat.eq_of_beq_eq_true hl
  subst hn
  exact G_of fun p e R s m args below meth c H locs cells slots ls F Y V hx hb => lv_lshr hx hb hd rfl (nxt_go hk ho qq p e R s m args below meth c H locs cells slots _ F Y V)
theorem s_lushr (hk : Goes1 P a K d k) (hA : AllOk a) (o : OkE a (pc, .lushr, n, x, y, z, fl)) (ho : IsE a es) (q : stepI P a K d k (pc, .lushr, n, x, y, z, fl) es L st h cb sb) : G P a K d pc L st h cb sb := by
  obtain ⟨u, v, r, rfl, qq⟩ := plj_of q
  obtain ⟨hd, hl, -⟩ := dec_of o
  have hn : n = 1 := Nat.eq_of_beq_eq_true hl
  subst hn
  exact G_of fun p e R s m args below meth c H locs cells slots ls F Y V hx hb => lv_lushr hx hb hd rfl (nxt_go hk ho qq p e R s m args below meth c H locs cells slots _ F Y V)
theorem s_iconst {v0 : Int} (hk : Goes1 P a K d k) (hA : AllOk a) (o : OkE a (pc, .iconst v0, n, x, y, z, fl)) (ho : IsE a es) (q : stepI P a K d k (pc, .iconst v0, n, x, y, z, fl) es L st h cb sb) : G P a K d pc L st h cb sb := by
  obtain ⟨v, hv, qq⟩ := cI_of q
  obtain ⟨hd, hl, -⟩ := dec_of o
  unfold lnk at hl
  simp only [Bool.and_eq_true, decide_eq_true_eq] at hl
  have hn : n = 1 := Nat.eq_of_beq_eq_true hl.1
  subst hn
  exact G_of fun p e R s m args below meth c H locs cells slots ls F Y V hx hb => lv_iconst hx hb hd (Option.some.inj (hl.2.symm.trans hv)) (nxt_go hk ho qq p e R s m args below meth c H locs cells slots _ F Y V)
theorem s_bipush {v0 : Int} (hk : Goes1 P a K d k) (hA : AllOk a) (o : OkE a (pc, .bipush v0, n, x, y, z, fl)) (ho : IsE a es) (q : stepI P a K d k (pc, .bipush v0, n, x, y, z, fl) es L st h cb sb) : G P a K d pc L st h cb sb := by
  obtain ⟨v, hv, qq⟩ := cI_of q
  obtain ⟨hd, hl, -⟩ := dec_of o
  unfold lnk at hl
  simp only [Bool.and_eq_true, decide_eq_true_eq] at hl
  have hn : n = 2 := Nat.eq_of_beq_eq_true hl.1
  subst hn
  exact G_of fun p e R s m args below meth c H locs cells slots ls F Y V hx hb => lv_bipush hx hb hd (Option.some.inj (hl.2.symm.trans hv)) (nxt_go hk ho qq p e R s m args below meth c H locs cells slots _ F Y V)
theorem s_sipush {v0 : Int} (hk : Goes1 P a K d k) (hA : AllOk a) (o : OkE a (pc, .sipush v0, n, x, y, z, fl)) (ho : IsE a es) (q : stepI P a K d k (pc, .sipush v0, n, x, y, z, fl) es L st h cb sb) : G P a K d pc L st h cb sb := by
  obtain ⟨v, hv, qq⟩ := cI_of q
  obtain ⟨hd, hl, -⟩ := dec_of o
  unfold lnk at hl
  simp only [Bool.and_eq_true, decide_eq_true_eq] at hl
  have hn : n = 3 := Nat.eq_of_beq_eq_true hl.1
  subst hn
  exact G_of fun p e R s m args below meth c H locs cells slots ls F Y V hx hb => lv_sipush hx hb hd (Option.some.inj (hl.2.symm.trans hv)) (nxt_go hk ho qq p e R s m args below meth c H locs cells slots _ F Y V)
theorem s_lconst {v0 : Fin 2} (hk : Goes1 P a K d k) (hA : AllOk a) (o : OkE a (pc, .lconst v0, n, x, y, z, fl)) (ho : IsE a es) (q : stepI P a K d k (pc, .lconst v0, n, x, y, z, fl) es L st h cb sb) : G P a K d pc L st h cb sb := by
  obtain ⟨v, hv, qq⟩ := cJ_of q
  obtain ⟨hd, hl, -⟩ := dec_of o
  unfold lnk at hl
  simp only [Bool.and_eq_true, decide_eq_true_eq] at hl
  have hn : n = 1 := Nat.eq_of_beq_eq_true hl.1
  subst hn
  exact G_of fun p e R s m args below meth c H locs cells slots ls F Y V hx hb => lv_lconst hx hb hd (Option.some.inj (hl.2.symm.trans hv)) (nxt_go hk ho qq p e R s m args below meth c H locs cells slots _ F Y V)
theorem s_aconst_null (hk : Goes1 P a K d k) (hA : AllOk a) (o : OkE a (pc, .aconst_null, n, x, y, z, fl)) (ho : IsE a es) (q : stepI P a K d k (pc, .aconst_null, n, x, y, z, fl) es L st h cb sb) : G P a K d pc L st h cb sb := by
  have qq : nxt P a K d k (pc + n) es L (.null :: st) h cb sb := q
  obtain ⟨hd, hl, -⟩ := dec_of o
  have hn : n = 1 := Nat.eq_of_beq_eq_true hl
  subst hn
  exact G_of fun p e R s m args below meth c H locs cells slots ls F Y V hx hb => lv_null hx hb hd (nxt_go hk ho qq p e R s m args below meth c H locs cells slots _ F Y V)
theorem s_ldc2_w {ix : Nat} (hk : Goes1 P a K d k) (hA : AllOk a) (o : OkE a (pc, .ldc2_w ix, n, x, y, z, fl)) (ho : IsE a es) (q : stepI P a K d k (pc, .ldc2_w ix, n, x, y, z, fl) es L st h cb sb) : G P a K d pc L st h cb sb := by
  obtain ⟨v, hv, qq⟩ := cJ_of q
  obtain ⟨hd, hl, hw⟩ := dec_of o
  have hn : n = 3 := Nat.eq_of_beq_eq_true hl
  subst hn
  have hw := TB_in (hw (0, .constantLong (mOwn a) ix v) (by simp [lnW, hv]))
  exact G_of fun p e R s m args below meth c H locs cells slots ls F Y V hx hb => lv_ldc2 hx hb F.2.2.2.2.1 (F.2.2.2.2.2.1 _ hw) hd (nxt_go hk ho qq p e R s m args below meth c H locs cells slots _ F Y V)
theorem s_iload {j : Nat} (hk : Goes1 P a K d k) (hA : AllOk a) (o : OkE a (pc, .iload j, n, x, y, z, fl)) (ho : IsE a es) (q : stepI P a K d k (pc, .iload j, n, x, y, z, fl) es L st h cb sb) : G P a K d pc L st h cb sb := by
  have q : ldI L x fun v => nxt P a K d k (pc + n) es L (.int v :: st) h cb sb := q
  obtain ⟨v, hv, qq⟩ := ldI_of q
  obtain ⟨hd, hl, -⟩ := dec_of o
  unfold lnk at hl
  simp only [Bool.and_eq_true, decide_eq_true_eq] at hl
  have hn : n = 2 := Nat.eq_of_beq_eq_true hl.1
  subst hn
  have hj := Nat.eq_of_beq_eq_true hl.2
  subst hj
  exact G_of fun p e R s m args below meth c H locs cells slots ls F Y V hx hb => lv_iload hx hb hd (LV_at V hv) (nxt_go hk ho qq p e R s m args below meth c H locs cells slots _ F Y V)
theorem s_iload_n {j : Fin 4} (hk : Goes1 P a K d k) (hA : AllOk a) (o : OkE a (pc, .iload_n j, n, x, y, z, fl)) (ho : IsE a es) (q : stepI P a K d k (pc, .iload_n j, n, x, y, z, fl) es L st h cb sb) : G P a K d pc L st h cb sb := by
  have q : ldI L x fun v => nxt P a K d k (pc + n) es L (.int v :: st) h cb sb := q
  obtain ⟨v, hv, qq⟩ := ldI_of q
  obtain ⟨hd, hl, -⟩ := dec_of o
  unfold lnk at hl
  simp only [Bool.and_eq_true, decide_eq_true_eq] at hl
  have hn : n = 1 := Nat.eq_of_beq_eq_true hl.1
  subst hn
  have hj := Nat.eq_of_beq_eq_true hl.2
  exact G_of fun p e R s m args below meth c H locs cells slots ls F Y V hx hb => lv_iload_n hx hb hd hj (LV_at V hv) (nxt_go hk ho qq p e R s m args below meth c H locs cells slots _ F Y V)
theorem s_lload {j : Nat} (hk : Goes1 P a K d k) (hA : AllOk a) (o : OkE a (pc, .lload j, n, x, y, z, fl)) (ho : IsE a es) (q : stepI P a K d k (pc, .lload j, n, x, y, z, fl) es L st h cb sb) : G P a K d pc L st h cb sb := by
  have q : ldL L x fun v => nxt P a K d k (pc + n) es L (.long v :: st) h cb sb := q
  obtain ⟨v, hv, qq⟩ := ldL_of q
  obtain ⟨hd, hl, -⟩ := dec_of o
  unfold lnk at hl
  simp only [Bool.and_eq_true, decide_eq_true_eq] at hl
  have hn : n = 2 := Nat.eq_of_beq_eq_true hl.1
  subst hn
  have hj := Nat.eq_of_beq_eq_true hl.2
  subst hj
  exact G_of fun p e R s m args below meth c H locs cells slots ls F Y V hx hb => lv_lload hx hb hd (LV_at V hv) (nxt_go hk ho qq p e R s m args below meth c H locs cells slots _ F Y V)
theorem s_lload_n {j : Fin 4} (hk : Goes1 P a K d k) (hA : AllOk a) (o : OkE a (pc, .lload_n j, n, x, y, z, fl)) (ho : IsE a es) (q : stepI P a K d k (pc, .lload_n j, n, x, y, z, fl) es L st h cb sb) : G P a K d pc L st h cb sb := by
  have q : ldL L x fun v => nxt P a K d k (pc + n) es L (.long v :: st) h cb sb := q
  obtain ⟨v, hv, qq⟩ := ldL_of q
  obtain ⟨hd, hl, -⟩ := dec_of o
  unfold lnk at hl
  simp only [Bool.and_eq_true, decide_eq_true_eq] at hl
  have hn : n = 1 := Nat.eq_of_beq_eq_true hl.1
  subst hn
  have hj := Nat.eq_of_beq_eq_true hl.2
  exact G_of fun p e R s m args below meth c H locs cells slots ls F Y V hx hb => lv_lload_n hx hb hd hj (LV_at V hv) (nxt_go hk ho qq p e R s m args below meth c H locs cells slots _ F Y V)
theorem s_aload {j : Nat} (hk : Goes1 P a K d k) (hA : AllOk a) (o : OkE a (pc, .aload j, n, x, y, z, fl)) (ho : IsE a es) (q : stepI P a K d k (pc, .aload j, n, x, y, z, fl) es L st h cb sb) : G P a K d pc L st h cb sb := by
  have q : ldA L x fun v => nxt P a K d k (pc + n) es L (v :: st) h cb sb := q
  obtain ⟨v, hv, qq, hr⟩ := ldA_of (P := P) q
  obtain ⟨hd, hl, -⟩ := dec_of o
  unfold lnk at hl
  simp only [Bool.and_eq_true, decide_eq_true_eq] at hl
  have hn : n = 2 := Nat.eq_of_beq_eq_true hl.1
  subst hn
  have hj := Nat.eq_of_beq_eq_true hl.2
  subst hj
  rcases hr with rfl | ⟨b, hb9⟩
  · exact G_of fun p e R s m args below meth c H locs cells slots ls F Y V hx hb => lv_aloadN hx hb hd (LV_at V hv) (nxt_go hk ho qq p e R s m args below meth c H locs cells slots _ F Y V)
  · exact G_of fun p e R s m args below meth c H locs cells slots ls F Y V hx hb => by
      refine lv_aload (x := b) hx hb hd (by rw [← hb9]; exact LV_at V hv) ?_
      have := (nxt_go hk ho qq p e R s m args below meth c H locs cells slots _ F Y V)
      rw [List.map_cons, hb9] at this
      exact this
theorem s_aload_n {j : Fin 4} (hk : Goes1 P a K d k) (hA : AllOk a) (o : OkE a (pc, .aload_n j, n, x, y, z, fl)) (ho : IsE a es) (q : stepI P a K d k (pc, .aload_n j, n, x, y, z, fl) es L st h cb sb) : G P a K d pc L st h cb sb := by
  have q : ldA L x fun v => nxt P a K d k (pc + n) es L (v :: st) h cb sb := q
  obtain ⟨v, hv, qq, hr⟩ := ldA_of (P := P) q
  obtain ⟨hd, hl, -⟩ := dec_of o
  unfold lnk at hl
  simp only [Bool.and_eq_true, decide_eq_true_eq] at hl
  have hn : n = 1 := Nat.eq_of_beq_eq_true hl.1
  subst hn
  have hj := Nat.eq_of_beq_eq_true hl.2
  rcases hr with rfl | ⟨b, hb9⟩
  · exact G_of fun p e R s m args below meth c H locs cells slots ls F Y V hx hb => lv_aload_nN hx hb hd hj (LV_at V hv) (nxt_go hk ho qq p e R s m args below meth c H locs cells slots _ F Y V)
  · exact G_of fun p e R s m args below meth c H locs cells slots ls F Y V hx hb => by
      refine lv_aload_n (x := b) hx hb hd hj (by rw [← hb9]; exact LV_at V hv) ?_
      have := (nxt_go hk ho qq p e R s m args below meth c H locs cells slots _ F Y V)
      rw [List.map_cons, hb9] at this
      exact this
theorem s_istore {j : Nat} (hk : Goes1 P a K d k) (hA : AllOk a) (o : OkE a (pc, .istore j, n, x, y, z, fl)) (ho : IsE a es) (q : stepI P a K d k (pc, .istore j, n, x, y, z, fl) es L st h cb sb) : G P a K d pc L st h cb sb := by
  obtain ⟨v, r, rfl, q1⟩ := p1i_of q
  obtain ⟨L2, qq, h2, hlt, h4⟩ := set1_of _ _ _ _ q1
  obtain ⟨hd, hl, -⟩ := dec_of o
  unfold lnk at hl
  simp only [Bool.and_eq_true, decide_eq_true_eq] at hl
  have hn : n = 2 := Nat.eq_of_beq_eq_true hl.1
  subst hn
  have hj := Nat.eq_of_beq_eq_true hl.2
  subst hj
  exact G_of fun p e R s m args below meth c H locs cells slots ls F Y V hx hb => lv_istore hx hb hd V.1 (Nat.lt_of_lt_of_le hlt V.2) rfl (fun ls' hl' =>
    nxt_go hk ho qq p e R s m args below meth c H locs cells slots _ F Y (LV_set1 V h2 h4 (fun w hw => by cases hw; rfl) hl'))
theorem s_istore_n {j : Fin 4} (hk : Goes1 P a K d k) (hA : AllOk a) (o : OkE a (pc, .istore_n j, n, x, y, z, fl)) (ho : IsE a es) (q : stepI P a K d k (pc, .istore_n j, n, x, y, z, fl) es L st h cb sb) : G P a K d pc L st h cb sb := by
  obtain ⟨v, r, rfl, q1⟩ := p1i_of q
  obtain ⟨L2, qq, h2, hlt, h4⟩ := set1_of _ _ _ _ q1
  obtain ⟨hd, hl, -⟩ := dec_of o
  unfold lnk at hl
  simp only [Bool.and_eq_true, decide_eq_true_eq] at hl
  have hn : n = 1 := Nat.eq_of_beq_eq_true hl.1
  subst hn
  have hj := Nat.eq_of_beq_eq_true hl.2
  exact G_of fun p e R s m args below meth c H locs cells slots ls F Y V hx hb => lv_istore_n hx hb hd hj V.1 (Nat.lt_of_lt_of_le hlt V.2) rfl (fun ls' hl' =>
    nxt_go hk ho qq p e R s m args below meth c H locs cells slots _ F Y (LV_set1 V h2 h4 (fun w hw => by cases hw; rfl) hl'))
theorem s_lstore {j : Nat} (hk : Goes1 P a K d k) (hA : AllOk a) (o : OkE a (pc, .lstore j, n, x, y, z, fl)) (ho : IsE a es) (q : stepI P a K d k (pc, .lstore j, n, x, y, z, fl) es L st h cb sb) : G P a K d pc L st h cb sb := by
  obtain ⟨v, r, rfl, q1⟩ := p1l_of q
  obtain ⟨L2, qq, h2, hlt, h4⟩ := set2_of _ _ _ _ q1
  obtain ⟨hd, hl, -⟩ := dec_of o
  unfold lnk at hl
  simp only [Bool.and_eq_true, decide_eq_true_eq] at hl
  have hn : n = 2 := Nat.eq_of_beq_eq_true hl.1
  subst hn
  have hj := Nat.eq_of_beq_eq_true hl.2
  subst hj
  exact G_of fun p e R s m args below meth c H locs cells slots ls F Y V hx hb => lv_lstore hx hb hd V.1 (Nat.lt_of_lt_of_le hlt V.2) rfl (fun ls' hl' =>
    nxt_go hk ho qq p e R s m args below meth c H locs cells slots _ F Y (LV_set2 V h2 h4 (fun w hw => by cases hw; rfl) hl'))
theorem s_lstore_n {j : Fin 4} (hk : Goes1 P a K d k) (hA : AllOk a) (o : OkE a (pc, .lstore_n j, n, x, y, z, fl)) (ho : IsE a es) (q : stepI P a K d k (pc, .lstore_n j, n, x, y, z, fl) es L st h cb sb) : G P a K d pc L st h cb sb := by
  obtain ⟨v, r, rfl, q1⟩ := p1l_of q
  obtain ⟨L2, qq, h2, hlt, h4⟩ := set2_of _ _ _ _ q1
  obtain ⟨hd, hl, -⟩ := dec_of o
  unfold lnk at hl
  simp only [Bool.and_eq_true, decide_eq_true_eq] at hl
  have hn : n = 1 := Nat.eq_of_beq_eq_true hl.1
  subst hn
  have hj := Nat.eq_of_beq_eq_true hl.2
  exact G_of fun p e R s m args below meth c H locs cells slots ls F Y V hx hb => lv_lstore_n hx hb hd hj V.1 (Nat.lt_of_lt_of_le hlt V.2) rfl (fun ls' hl' =>
    nxt_go hk ho qq p e R s m args below meth c H locs cells slots _ F Y (LV_set2 V h2 h4 (fun w hw => by cases hw; rfl) hl'))
theorem s_astore {j : Nat} (hk : Goes1 P a K d k) (hA : AllOk a) (o : OkE a (pc, .astore j, n, x, y, z, fl)) (ho : IsE a es) (q : stepI P a K d k (pc, .astore j, n, x, y, z, fl) es L st h cb sb) : G P a K d pc L st h cb sb := by
  have hq : ∃ v b r, st = v :: r ∧ mV P v = .ref b ∧ set1 L x (some v) fun L => nxt P a K d k (pc + n) es L r h cb sb := by
    unfold stepI at q
    dsimp only at q
    split at q
    · exact ⟨_, _, _, rfl, rfl, q⟩
    · exact ⟨_, _, _, rfl, rfl, q⟩
    · exact q.elim
  obtain ⟨v, b, r, rfl, hb9, q1⟩ := hq
  obtain ⟨L2, qq, h2, hlt, h4⟩ := set1_of _ _ _ _ q1
  obtain ⟨hd, hl, -⟩ := dec_of o
  unfold lnk at hl
  simp only [Bool.and_eq_true, decide_eq_true_eq] at hl
  have hn : n = 2 := Nat.eq_of_beq_eq_true hl.1
  subst hn
  have hj := Nat.eq_of_beq_eq_true hl.2
  subst hj
  exact G_of fun p e R s m args below meth c H locs cells slots ls F Y V hx hb => by
    rw [List.map_cons, hb9]
    exact lv_astore hx hb hd V.1 (Nat.lt_of_lt_of_le hlt V.2) rfl (fun ls' hl' =>
      nxt_go hk ho qq p e R s m args below meth c H locs cells slots _ F Y (LV_set1 V h2 h4 (fun w hw => by cases hw; exact hb9.symm) hl'))
theorem s_astore_n {j : Fin 4} (hk : Goes1 P a K d k) (hA : AllOk a) (o : OkE a (pc, .astore_n j, n, x, y, z, fl)) (ho : IsE a es) (q : stepI P a K d k (pc, .astore_n j, n, x, y, z, fl) es L st h cb sb) : G P a K d pc L st h cb sb := by
  have hq : ∃ v b r, st = v :: r ∧ mV P v = .ref b ∧ set1 L x (some v) fun L => nxt P a K d k (pc + n) es L r h cb sb := by
    unfold stepI at q
    dsimp only at q
    split at q
    · exact ⟨_, _, _, rfl, rfl, q⟩
    · exact ⟨_, _, _, rfl, rfl, q⟩
    · exact q.elim
  obtain ⟨v, b, r, rfl, hb9, q1⟩ := hq
  obtain ⟨L2, qq, h2, hlt, h4⟩ := set1_of _ _ _ _ q1
  obtain ⟨hd, hl, -⟩ := dec_of o
  unfold lnk at hl
  simp only [Bool.and_eq_true, decide_eq_true_eq] at hl
  have hn : n = 1 := Nat.eq_of_beq_eq_true hl.1
  subst hn
  have hj := Nat.eq_of_beq_eq_true hl.2
  exact G_of fun p e R s m args below meth c H locs cells slots ls F Y V hx hb => by
    rw [List.map_cons, hb9]
    exact lv_astore_n hx hb hd hj V.1 (Nat.lt_of_lt_of_le hlt V.2) rfl (fun ls' hl' =>
      nxt_go hk ho qq p e R s m args below meth c H locs cells slots _ F Y (LV_set1 V h2 h4 (fun w hw => by cases hw; exact hb9.symm) hl'))
theorem s_iinc {j : Nat} {v0 : Int} (hk : Goes1 P a K d k) (hA : AllOk a) (o : OkE a (pc, .iinc j v0, n, x, y, z, fl)) (ho : IsE a es) (q : stepI P a K d k (pc, .iinc j v0, n, x, y, z, fl) es L st h cb sb) : G P a K d pc L st h cb sb := by
  have q : ldI L x fun v => cI y fun w => set1 L x (some (.int (v + w))) fun L => nxt P a K d k (pc + n) es L st h cb sb := q
  obtain ⟨v, hv, q1⟩ := ldI_of q
  obtain ⟨w, hw, q2⟩ := cI_of q1
  obtain ⟨L2, qq, h2, hlt, h4⟩ := set1_of _ _ _ _ q2
  obtain ⟨hd, hl, -⟩ := dec_of o
  unfold lnk at hl
  simp only [Bool.and_eq_true, decide_eq_true_eq] at hl
  have hn : n = 3 := Nat.eq_of_beq_eq_true hl.1.1
  subst hn
  have hj := Nat.eq_of_beq_eq_true hl.1.2
  subst hj
  have hw2 : Int32.ofInt v0 = w := Option.some.inj (hl.2.symm.trans hw)
  exact G_of fun p e R s m args below meth c H locs cells slots ls F Y V hx hb => by
    have hm := lvl_mem P L 0 j _ hv
    rw [Nat.zero_add] at hm
    obtain ⟨i9, hi9⟩ := List.getElem?_of_mem hm
    exact lv_iinc (v := v + w) (k := i9) hx hb hd V.1 hi9 (by rw [hw2]) (Nat.lt_of_lt_of_le hlt V.2) rfl (fun ls' hl' =>
      nxt_go hk ho qq p e R s m args below meth c H locs cells slots _ F Y (LV_set1 V h2 h4 (fun w hw => by cases hw; rfl) hl'))
theorem s_pop (hk : Goes1 P a K d k) (hA : AllOk a) (o : OkE a (pc, .pop, n, x, y, z, fl)) (ho : IsE a es) (q : stepI P a K d k (pc, .pop, n, x, y, z, fl) es L st h cb sb) : G P a K d pc L st h cb sb := by
  have hq : ∃ v r, st = v :: r ∧ v.category = 1 ∧ nxt P a K d k (pc + n) es L r h cb sb := by
    unfold stepI at q
    dsimp only at q
    split at q
    · exact ⟨_, _, rfl, rfl, q⟩
    · exact ⟨_, _, rfl, rfl, q⟩
    · exact q.elim
  obtain ⟨v, r, rfl, hc, qq⟩ := hq
  obtain ⟨hd, hl, -⟩ := dec_of o
  have hn : n = 1 := Nat.eq_of_beq_eq_true hl
  subst hn
  exact G_of fun p e R s m args below meth c H locs cells slots ls F Y V hx hb => lv_pop hx hb hd ((mV_cat P v).trans hc) (nxt_go hk ho qq p e R s m args below meth c H locs cells slots _ F Y V)
theorem s_pop2 (hk : Goes1 P a K d k) (hA : AllOk a) (o : OkE a (pc, .pop2, n, x, y, z, fl)) (ho : IsE a es) (q : stepI P a K d k (pc, .pop2, n, x, y, z, fl) es L st h cb sb) : G P a K d pc L st h cb sb := by
  obtain ⟨v, r, rfl, qq⟩ := p1l_of q
  obtain ⟨hd, hl, -⟩ := dec_of o
  have hn : n = 1 := Nat.eq_of_beq_eq_true hl
  subst hn
  exact G_of fun p e R s m args below meth c H locs cells slots ls F Y V hx hb => lv_pop2_2 hx hb hd rfl (nxt_go hk ho qq p e R s m args below meth c H locs cells slots _ F Y V)
theorem s_dup (hk : Goes1 P a K d k) (hA : AllOk a) (o : OkE a (pc, .dup, n, x, y, z, fl)) (ho : IsE a es) (q : stepI P a K d k (pc, .dup, n, x, y, z, fl) es L st h cb sb) : G P a K d pc L st h cb sb := by
  have hq : ∃ v r, st = v :: r ∧ v.category = 1 ∧ nxt P a K d k (pc + n) es L (v :: v :: r) h cb sb := by
    unfold stepI at q
    dsimp only at q
    split at q
    · exact ⟨_, _, rfl, rfl, q⟩
    · exact ⟨_, _, rfl, rfl, q⟩
    · exact q.elim
  obtain ⟨v, r, rfl, hc, qq⟩ := hq
  obtain ⟨hd, hl, -⟩ := dec_of o
  have hn : n = 1 := Nat.eq_of_beq_eq_true hl
  subst hn
  exact G_of fun p e R s m args below meth c H locs cells slots ls F Y V hx hb => lv_dup hx hb hd ((mV_cat P v).trans hc) (nxt_go hk ho qq p e R s m args below meth c H locs cells slots _ F Y V)
theorem s_dup_x1 (hk : Goes1 P a K d k) (hA : AllOk a) (o : OkE a (pc, .dup_x1, n, x, y, z, fl)) (ho : IsE a es) (q : stepI P a K d k (pc, .dup_x1, n, x, y, z, fl) es L st h cb sb) : G P a K d pc L st h cb sb := by
  have hq : ∃ v w r, st = .int v :: .ref w :: r ∧ nxt P a K d k (pc + n) es L (.int v :: .ref w :: .int v :: r) h cb sb := by
    unfold stepI at q
    dsimp only at q
    split at q
    · exact ⟨_, _, _, rfl, q⟩
    · exact q.elim
  obtain ⟨v, w, r, rfl, qq⟩ := hq
  obtain ⟨hd, hl, -⟩ := dec_of o
  have hn : n = 1 := Nat.eq_of_beq_eq_true hl
  subst hn
  exact G_of fun p e R s m args below meth c H locs cells slots ls F Y V hx hb => lv_dup_x1 hx hb hd rfl rfl (nxt_go hk ho qq p e R s m args below meth c H locs cells slots _ F Y V)
theorem s_goto {v0 : Int} (hk : Goes1 P a K d k) (hA : AllOk a) (o : OkE a (pc, .goto v0, n, x, y, z, fl)) (ho : IsE a es) (q : stepI P a K d k (pc, .goto v0, n, x, y, z, fl) es L st h cb sb) : G P a K d pc L st h cb sb := by
  have qq : jmp P a K d k x L st h cb sb := q
  obtain ⟨hd, hl, -⟩ := dec_of o
  unfold lnk at hl
  simp only [Bool.and_eq_true, decide_eq_true_eq] at hl
  have hn : n = 3 := Nat.eq_of_beq_eq_true hl.1
  subst hn
  exact G_of fun p e R s m args below meth c H locs cells slots ls F Y V hx hb => lv_goto hx hb hd hl.2 (jmp_go hk hA qq p e R s m args below meth c H locs cells slots _ F Y V)
theorem s_ifnonnull {v0 : Int} (hk : Goes1 P a K d k) (hA : AllOk a) (o : OkE a (pc, .ifnonnull v0, n, x, y, z, fl)) (ho : IsE a es) (q : stepI P a K d k (pc, .ifnonnull v0, n, x, y, z, fl) es L st h cb sb) : G P a K d pc L st h cb sb := by
  have hq : ∃ v b r, st = v :: r ∧ mV P v = .ref b ∧ jmp P a K d k x L r h cb sb := by
    unfold stepI at q
    dsimp only at q
    split at q
    · exact ⟨_, _, _, rfl, rfl, q⟩
    · exact ⟨_, _, _, rfl, rfl, q⟩
    · exact q.elim
  obtain ⟨v, b, r, rfl, hb9, qq⟩ := hq
  obtain ⟨hd, hl, -⟩ := dec_of o
  unfold lnk at hl
  simp only [Bool.and_eq_true, decide_eq_true_eq] at hl
  have hn : n = 3 := Nat.eq_of_beq_eq_true hl.1
  subst hn
  exact G_of fun p e R s m args below meth c H locs cells slots ls F Y V hx hb => by
    rw [List.map_cons, hb9]
    exact lv_ifnonnull hx hb hd hl.2 (jmp_go hk hA qq p e R s m args below meth c H locs cells slots _ F Y V)
theorem s_ifCond {cc : ClassFile.Cond} {v0 : Int} (hk : Goes1 P a K d k) (hA : AllOk a) (o : OkE a (pc, .ifCond cc v0, n, x, y, z, fl)) (ho : IsE a es) (q : stepI P a K d k (pc, .ifCond cc v0, n, x, y, z, fl) es L st h cb sb) : G P a K d pc L st h cb sb := by
  obtain ⟨v, r, rfl, qq⟩ := p1i_of q
  obtain ⟨hd, hl, -⟩ := dec_of o
  unfold lnk at hl
  simp only [Bool.and_eq_true, decide_eq_true_eq] at hl
  have hn : n = 3 := Nat.eq_of_beq_eq_true hl.1
  subst hn
  refine G_of fun p e R s m args below meth c H locs cells slots ls F Y V hx hb => ?_
  cases cc with
  | eq => exact lv_if_eq hx hb hd hl.2 (fun w => jmp_go hk hA (qq.1 w) p e R s m args below meth c H locs cells slots _ F Y V) (fun w => nxt_go hk ho (qq.2 w) p e R s m args below meth c H locs cells slots _ F Y V)
  | ne => exact lv_if_ne hx hb hd hl.2 (fun w => jmp_go hk hA (qq.2 w) p e R s m args below meth c H locs cells slots _ F Y V) (fun w => nxt_go hk ho (qq.1 w) p e R s m args below meth c H locs cells slots _ F Y V)
  | lt => exact lv_if_lt hx hb hd hl.2 (fun w => jmp_go hk hA (qq.1 w) p e R s m args below meth c H locs cells slots _ F Y V) (fun w => nxt_go hk ho (qq.2 w) p e R s m args below meth c H locs cells slots _ F Y V)
  | ge => exact lv_if_ge hx hb hd hl.2 (fun w => jmp_go hk hA (qq.2 (Int32.not_lt.mpr w)) p e R s m args below meth c H locs cells slots _ F Y V) (fun w => nxt_go hk ho (qq.1 (Int32.not_le.mp w)) p e R s m args below meth c H locs cells slots _ F Y V)
  | gt => exact lv_if_gt hx hb hd hl.2 (fun w => jmp_go hk hA (qq.1 w) p e R s m args below meth c H locs cells slots _ F Y V) (fun w => nxt_go hk ho (qq.2 w) p e R s m args below meth c H locs cells slots _ F Y V)
  | le => exact lv_if_le hx hb hd hl.2 (fun w => jmp_go hk hA (qq.2 (Int32.not_lt.mpr w)) p e R s m args below meth c H locs cells slots _ F Y V) (fun w => nxt_go hk ho (qq.1 (Int32.not_le.mp w)) p e R s m args below meth c H locs cells slots _ F Y V)
theorem s_if_icmp {cc : ClassFile.Cond} {v0 : Int} (hk : Goes1 P a K d k) (hA : AllOk a) (o : OkE a (pc, .if_icmp cc v0, n, x, y, z, fl)) (ho : IsE a es) (q : stepI P a K d k (pc, .if_icmp cc v0, n, x, y, z, fl) es L st h cb sb) : G P a K d pc L st h cb sb := by
  obtain ⟨u, v, r, rfl, qq⟩ := p2i_of q
  obtain ⟨hd, hl, -⟩ := dec_of o
  unfold lnk at hl
  simp only [Bool.and_eq_true, decide_eq_true_eq] at hl
  have hn : n = 3 := Nat.eq_of_beq_eq_true hl.1
  subst hn
  refine G_of fun p e R s m args below meth c H locs cells slots ls F Y V hx hb => ?_
  cases cc with
  | eq => exact lv_icmp_eq hx hb hd hl.2 (fun w => jmp_go hk hA (qq.1 w) p e R s m args below meth c H locs cells slots _ F Y V) (fun w => nxt_go hk ho (qq.2 w) p e R s m args below meth c H locs cells slots _ F Y V)
  | ne => exact lv_icmp_ne hx hb hd hl.2 (fun w => jmp_go hk hA (qq.2 w) p e R s m args below meth c H locs cells slots _ F Y V) (fun w => nxt_go hk ho (qq.1 w) p e R s m args below meth c H locs cells slots _ F Y V)
  | lt => exact lv_icmp_lt hx hb hd hl.2 (fun w => jmp_go hk hA (qq.1 w) p e R s m args below meth c H locs cells slots _ F Y V) (fun w => nxt_go hk ho (qq.2 w) p e R s m args below meth c H locs cells slots _ F Y V)
  | ge => exact lv_icmp_ge hx hb hd hl.2 (fun w => jmp_go hk hA (qq.2 (Int32.not_lt.mpr w)) p e R s m args below meth c H locs cells slots _ F Y V) (fun w => nxt_go hk ho (qq.1 (Int32.not_le.mp w)) p e R s m args below meth c H locs cells slots _ F Y V)
  | gt => exact lv_icmp_gt hx hb hd hl.2 (fun w => jmp_go hk hA (qq.1 w) p e R s m args below meth c H locs cells slots _ F Y V) (fun w => nxt_go hk ho (qq.2 w) p e R s m args below meth c H locs cells slots _ F Y V)
  | le => exact lv_icmp_le hx hb hd hl.2 (fun w => jmp_go hk hA (qq.2 (Int32.not_lt.mpr w)) p e R s m args below meth c H locs cells slots _ F Y V) (fun w => nxt_go hk ho (qq.1 (Int32.not_le.mp w)) p e R s m args below meth c H locs cells slots _ F Y V)
end SIM
