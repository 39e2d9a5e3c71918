/-! THE SMALL MACHINE IS THE MACHINE: each step of it, by the kit's rows -/
section SIM
variable {P : GP} {a : Nat} {K : Kt} {d : Nat}
/-- W of the frame that G speaks of, its hypotheses at hand -/
def GW (P : GP) (a : Nat) (K : Kt) (p : Program) (e : Jvm.Env) (R : Room) (s : State) (m : MethodId) (args : Array Value) (below : List Frame) (meth : Method) (c : Code) (H : Heap) (locs : List Loc) (cells slots : Nat) (pc : Nat) (ls : Array Slot) (st : List Value) : Prop :=
  W p (gl P) e R s m args below meth c H locs cells slots (vx_MQ below (QcK P K) (XcK P K) args s R.cells R.slots (gF P)) (F0 m pc ls (st.map (mV P)))
theorem dec_of {a : Nat} {pc : Nat} {i : Instr} {n x y z : Nat} {f : Bool} (h : OkE a (pc, i, n, x, y, z, f)) : decode (mCode a) pc = .ok (i, n) ∧ lnk a pc i n x y z = true ∧ ∀ q ∈ lnW a i x y z, q.2 ∈ lT ∧ okK q.1 q.2 = true := by
  obtain ⟨h1, h2⟩ := h
  unfold chkE at h1
  simp only [Bool.and_eq_true, decide_eq_true_eq] at h1
  exact ⟨h1.1, h1.2, h2⟩
theorem Fx_hx {p : Program} {R : Room} {s : State} {m : MethodId} {args : Array Value} {meth : Method} {c : Code} (F : Fx P a d p R s m args meth c) : p.tables.exec = Jvm.exec ∧ c.code = mCode a := ⟨F.1, F.2.1⟩
/-- a step that leaves the heap as it is: from the row to G -/
theorem G_of {pc : Nat} {L : mLs} {st : List Value} {h : mH} {cb sb : Nat}
    (k : ∀ (p : Program) (e : Jvm.Env) (R : Room) (s : State) (m : MethodId) (args : Array Value) (below : List Frame) (meth : Method) (c : Code) (H : Heap) (locs : List Loc) (cells slots : Nat) (ls : Array Slot),
      Fx P a d p R s m args meth c → Dy P R s H locs cells slots h cb sb → LV P ls (mMax a) L → p.tables.exec = Jvm.exec → c.code = mCode a →
      W p (gl P) e R s m args below meth c H locs cells slots (vx_MQ below (QcK P K) (XcK P K) args s R.cells R.slots (gF P)) (F0 m pc ls (st.map (mV P)))) : G P a K d pc L st h cb sb :=
  fun p e R s m args below meth c H locs cells slots ls F Y V => k p e R s m args below meth c H locs cells slots ls F Y V F.1 F.2.1
theorem p2i_of {st : List Value} {f : Int32 → Int32 → List Value → Prop} (h : p2i st f) : ∃ x y r, st = .int y :: .int x :: r ∧ f x y r := by
  unfold p2i at h
  split at h
  · exact ⟨_, _, _, rfl, h⟩
  · exact h.elim
theorem p1i_of {st : List Value} {f : Int32 → List Value → Prop} (h : p1i st f) : ∃ x r, st = .int x :: r ∧ f x r := by
  unfold p1i at h
  split at h
  · exact ⟨_, _, rfl, h⟩
  · exact h.elim
theorem p2l_of {st : List Value} {f : Int64 → Int64 → List Value → Prop} (h : p2l st f) : ∃ x y r, st = .long y :: .long x :: r ∧ f x y r := by
  unfold p2l at h
  split at h
  · exact ⟨_, _, _, rfl, h⟩
  · exact h.elim
theorem p1l_of {st : List Value} {f : Int64 → List Value → Prop} (h : p1l st f) : ∃ x r, st = .long x :: r ∧ f x r := by
  unfold p1l at h
  split at h
  · exact ⟨_, _, rfl, h⟩
  · exact h.elim
theorem plj_of {st : List Value} {f : Int64 → Int32 → List Value → Prop} (h : plj st f) : ∃ x y r, st = .int y :: .long x :: r ∧ f x y r := by
  unfold plj at h
  split at h
  · exact ⟨_, _, _, rfl, h⟩
  · exact h.elim
theorem ldI_of {L : mLs} {i : Nat} {f : Int32 → Prop} (h : ldI L i f) : ∃ x, nth L i = some (some (.int x)) ∧ f x := by
  unfold ldI at h
  split at h
  · exact ⟨_, by assumption, h⟩
  · exact h.elim
theorem ldL_of {L : mLs} {i : Nat} {f : Int64 → Prop} (h : ldL L i f) : ∃ x, nth L i = some (some (.long x)) ∧ f x := by
  unfold ldL at h
  split at h
  · exact ⟨_, by assumption, h⟩
  · exact h.elim
theorem ldA_of {L : mLs} {i : Nat} {f : Value → Prop} (h : ldA L i f) : ∃ v, nth L i = some (some v) ∧ f v ∧ (v = .null ∨ ∃ b : Nat, mV P v = .ref b) := by
  unfold ldA at h
  split at h
  · exact ⟨_, by assumption, h, Or.inr ⟨_, rfl⟩⟩
  · exact ⟨_, by assumption, h, Or.inr ⟨_, rfl⟩⟩
  · exact ⟨_, by assumption, h, Or.inl rfl⟩
  · exact h.elim
theorem cI_of {i : Nat} {f : Int32 → Prop} (h : cI i f) : ∃ v, nth kI i = some v ∧ f v := by
  unfold cI at h
  split at h
  · exact ⟨_, by assumption, h⟩
  · exact h.elim
theorem cJ_of {i : Nat} {f : Int64 → Prop} (h : cJ i f) : ∃ v, nth kJ i = some v ∧ f v := by
  unfold cJ at h
  split at h
  · exact ⟨_, by assumption, h⟩
  · exact h.elim
variable {k : Ct} {es : List Ent} {pc n x y z : Nat} {fl : Bool} {L : mLs} {st : List Value} {h : mH} {cb sb : Nat}
theorem s_iadd (hk : Goes1 P a K d k) (o : OkE a (pc, .iadd, n, x, y, z, fl)) (ho : IsE a es) (q : stepI P a K d k (pc, .iadd, n, x, y, z, fl) es L st h cb sb) : G P a K d pc L st h cb sb := by
  obtain ⟨u, v, r, rfl, q⟩ := p2i_of q
  obtain ⟨hd, hl, -⟩ := dec_of o
  have hn : n = 1 := Nat.eq_of_beq_eq_true hl
  subst hn
  exact G_of fun p e R s m args below meth c H locs cells slots ls F Y V hx hb => lv_iadd hx hb hd (nxt_go hk ho q _ _ _ _ _ _ _ _ _ _ _ _ _ _ F Y V)
theorem s_iconst {v0 : Int} (hk : Goes1 P a K d k) (o : OkE a (pc, .iconst v0, n, x, y, z, fl)) (ho : IsE a es) (q : stepI P a K d k (pc, .iconst v0, n, x, y, z, fl) es L st h cb sb) : G P a K d pc L st h cb sb := by
  obtain ⟨v, hv, q⟩ := cI_of q
  obtain ⟨hd, hl, -⟩ := dec_of o
  unfold lnk at hl
  simp only [Bool.and_eq_true, decide_eq_true_eq] at hl
  have hn : n = 1 := Nat.eq_of_beq_eq_true hl.1
  subst hn
  exact G_of fun p e R s m args below meth c H locs cells slots ls F Y V hx hb => lv_iconst hx hb hd (Option.some.inj (hl.2.symm.trans hv)) (nxt_go hk ho q _ _ _ _ _ _ _ _ _ _ _ _ _ _ F Y V)
end SIM
