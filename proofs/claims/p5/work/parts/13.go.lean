/-! what is run is what the machine does -/
/-! as vx_ofW and vx_ofWH, for a method without an entry of its own among the natives -/
theorem my_ofW {l : Launch} {y : MethodName} {ws ws' : List Cond} {rm : Room} {Pc : Array Value → State → Prop} {Qc : Array Value → State → Outcome → State → Prop} {XC : String → State → State → Prop} {mc ms : Nat} {free : Addr → Prop} {cc : ByteArray} {maxL : Nat} {ret : Option FieldType}
    (hy : plainFor y = true) (hw : ws = Cond.code y cc maxL ret :: ws')
    (body : ∀ p e s m args below meth c s₁, BodyLoose p l y (headSpec ws rm) cc maxL ret e s m args below meth c s₁ → c.maxLocals = maxL → (∀ x ∈ c.exceptionTable.toList, False) → Pc args s →
      W p l e (headSpec ws rm).room s m args below meth c s.heap [] 0 0 (vx_MQ below Qc XC args s mc ms free) (entryFrame m args maxL)) : vx_Met l y ws rm Pc Qc XC mc ms free := by
  refine MetFree.of_bodySF (code := cc) (maxLocals := maxL) (ret := ret) hy ?_ ?_
  · intro args s m h hn
    obtain ⟨meth, c, h1, h2, h3, h4, h5, h6, -, -⟩ := Cond.code_spec hn (atoms_spec (ws := ws) h _ (by rw [hw]; exact List.mem_cons_self))
    exact ⟨meth, c, h1, h2, h3, h4, h5, h6⟩
  · intro p e s m args below meth c s₁ B hml hP _
    have hh0 : s₁.heap = s.heap := by rw [B.state]; rfl
    have ht : ∀ x ∈ c.exceptionTable.toList, False := by
      obtain ⟨meth9, c9, h1, h2, -, -, -, -, h7, -⟩ := Cond.code_spec B.named (atoms_spec (ws := ws) B.pre _ (by rw [hw]; exact List.mem_cons_self))
      cases Option.some.inj (h1.symm.trans B.method)
      cases Option.some.inj (h2.symm.trans (Stand.of_body B).code)
      intro x hx
      rw [Array.isEmpty_iff.mp h7] at hx
      cases hx
    obtain ⟨t, a1, o, b1, b2, b3⟩ := body p e s m args below meth c s₁ B hml ht hP s₁ hh0 (Stand.of_body B)
    exact ⟨t, o, a1, b1, b2, b3⟩
theorem my_ofWH {l : Launch} {y : MethodName} {ws ws' : List Cond} {rm : Room} {Pc : Array Value → State → Prop} {Qc : Array Value → State → Outcome → State → Prop} {XC : String → State → State → Prop} {mc ms : Nat} {free : Addr → Prop} {cc : ByteArray} {maxL : Nat} {ret : Option FieldType} {hh : List (Nat × Nat × Nat × Nat)}
    (hy : plainFor y = true) (hw : ws = Cond.codeWith y cc maxL ret hh :: ws')
    (body : ∀ p e s m args below meth c s₁, BodyLoose p l y (headSpec ws rm) cc maxL ret e s m args below meth c s₁ → c.maxLocals = maxL → Pc args s →
      W p l e (headSpec ws rm).room s m args below meth c s.heap [] 0 0 (vx_MQ below Qc XC args s mc ms free) (entryFrame m args maxL)) : vx_Met l y ws rm Pc Qc XC mc ms free := by
  refine MetFree.of_bodySF (code := cc) (maxLocals := maxL) (ret := ret) hy ?_ ?_
  · intro args s m h hn
    obtain ⟨m9, meth, c, hn9, h1, h2, h3, h4, -, h5, h6, -⟩ := Cond.codeWith_spec (atoms_spec (ws := ws) h _ (by rw [hw]; exact List.mem_cons_self))
    cases hn.symm.trans hn9
    exact ⟨meth, c, h1, h2, h3, h4, h5, h6⟩
  · intro p e s m args below meth c s₁ B hml hP _
    have hh0 : s₁.heap = s.heap := by rw [B.state]; rfl
    obtain ⟨t, a1, o, b1, b2, b3⟩ := body p e s m args below meth c s₁ B hml hP s₁ hh0 (Stand.of_body B)
    exact ⟨t, o, a1, b1, b2, b3⟩
section GO
variable {P : GP} {a : Nat} {K : Kt} {d : Nat}
theorem step_go {k : Ct} (hk : Goes1 P a K d k) (hA : AllOk a) {e : Ent} {es : List Ent} {L : mLs} {st : List Value} {h : mH} {cb sb : Nat} (hI : IsE a (e :: es)) (q : stepI P a K d k e es L st h cb sb) : G P a K d e.1 L st h cb sb := by
  obtain ⟨pc, i, n, x, y, z, fl⟩ := e
  have o := hI _ List.mem_cons_self
  have ho : IsE a es := fun e he => hI e (List.mem_cons_of_mem _ he)
  cases i with
  | iadd => exact s_iadd hk hA o ho q
  | isub => exact s_isub hk hA o ho q
  | imul => exact s_imul hk hA o ho q
  | iand => exact s_iand hk hA o ho q
  | ior => exact s_ior hk hA o ho q
  | idiv => exact s_idiv hk hA o ho q
  | irem => exact s_irem hk hA o ho q
  | ishl => exact s_ishl hk hA o ho q
  | ishr => exact s_ishr hk hA o ho q
  | iushr => exact s_iushr hk hA o ho q
  | ineg => exact s_ineg hk hA o ho q
  | i2l => exact s_i2l hk hA o ho q
  | i2b => exact s_i2b hk hA o ho q
  | i2c => exact s_i2c hk hA o ho q
  | l2i => exact s_l2i hk hA o ho q
  | lneg => exact s_lneg hk hA o ho q
  | ladd => exact s_ladd hk hA o ho q
  | lsub => exact s_lsub hk hA o ho q
  | lmul => exact s_lmul hk hA o ho q
  | land => exact s_land hk hA o ho q
  | lor => exact s_lor hk hA o ho q
  | lxor => exact s_lxor hk hA o ho q
  | ldiv => exact s_ldiv hk hA o ho q
  | lrem => exact s_lrem hk hA o ho q
  | lshl => exact s_lshl hk hA o ho q
  | lshr => exact s_lshr hk hA o ho q
  | lushr => exact s_lushr hk hA o ho q
  | iconst => exact s_iconst hk hA o ho q
  | bipush => exact s_bipush hk hA o ho q
  | sipush => exact s_sipush hk hA o ho q
  | lconst => exact s_lconst hk hA o ho q
  | aconst_null => exact s_aconst_null hk hA o ho q
  | ldc2_w => exact s_ldc2_w hk hA o ho q
  | iload => exact s_iload hk hA o ho q
  | iload_n => exact s_iload_n hk hA o ho q
  | lload => exact s_lload hk hA o ho q
  | lload_n => exact s_lload_n hk hA o ho q
  | aload => exact s_aload hk hA o ho q
  | aload_n => exact s_aload_n hk hA o ho q
  | istore => exact s_istore hk hA o ho q
  | istore_n => exact s_istore_n hk hA o ho q
  | lstore => exact s_lstore hk hA o ho q
  | lstore_n => exact s_lstore_n hk hA o ho q
  | astore => exact s_astore hk hA o ho q
  | astore_n => exact s_astore_n hk hA o ho q
  | iinc => exact s_iinc hk hA o ho q
  | pop => exact s_pop hk hA o ho q
  | pop2 => exact s_pop2 hk hA o ho q
  | dup => exact s_dup hk hA o ho q
  | dup_x1 => exact s_dup_x1 hk hA o ho q
  | goto => exact s_goto hk hA o ho q
  | ifnonnull => exact s_ifnonnull hk hA o ho q
  | ifCond => exact s_ifCond hk hA o ho q
  | if_icmp => exact s_if_icmp hk hA o ho q
  | lcmp => exact s_lcmp hk hA o ho q
  | tableswitch => exact s_tableswitch hk hA o ho q
  | getfield => exact s_getfield hk hA o ho q
  | putfield => exact s_putfield hk hA o ho q
  | getstatic => exact s_getstatic hk hA o ho q
  | iaload => exact s_iaload hk hA o ho q
  | baload => exact s_baload hk hA o ho q
  | laload => exact s_laload hk hA o ho q
  | aaload => exact s_aaload hk hA o ho q
  | iastore => exact s_iastore hk hA o ho q
  | bastore => exact s_bastore hk hA o ho q
  | lastore => exact s_lastore hk hA o ho q
  | arraylength => exact s_arraylength hk hA o ho q
  | ldc => exact s_ldc hk hA o ho q
  | new => exact s_new hk hA o ho q
  | newarray => exact s_newarray hk hA o ho q
  | return_ => exact s_return_ hk hA o ho q
  | ireturn => exact s_ireturn hk hA o ho q
  | lreturn => exact s_lreturn hk hA o ho q
  | areturn => exact s_areturn hk hA o ho q
  | invokestatic => exact s_invokestatic hk hA o ho q
  | invokevirtual => exact s_invokevirtual hk hA o ho q
  | invokespecial => exact s_invokespecial hk hA o ho q
  | _ => exact q.elim
theorem run_go (hA : AllOk a) : ∀ n : Nat, Goes1 P a K d (run P a K d n)
  | 0 => fun e es L st h cb sb _ q => q
  | n + 1 => fun e es L st h cb sb hI q => step_go (run_go hA n) hA hI q
theorem go (hA : AllOk a) (n : Nat) {pc : Nat} {L : mLs} {st : List Value} {h : mH} {cb sb : Nat} (q : run P a K d n (seekC (mChk a) pc) L st h cb sb) : G P a K d pc L st h cb sb := by
  cases hs : seekC (mChk a) pc with
  | nil =>
    rw [hs] at q
    cases n <;> exact q.elim
  | cons e es =>
    rw [hs] at q
    have hI : IsE a (e :: es) := by rw [← hs]; exact isE_seek hA pc
    have := run_go hA n e es L st h cb sb hI q
    rw [seekC_hd _ _ _ _ hs] at this
    exact this
def entA : List Value → mLs
  | [] => []
  | v :: r => match cat2 (some v) with
    | true => some v :: none :: entA r
    | false => some v :: entA r
def entL (n : Nat) (vs : List Value) : mLs := entA vs ++ List.replicate (n - (entA vs).length) none
theorem lvl_app (P : GP) : ∀ (L r : mLs) (i : Nat), lvl P i (L ++ r) = lvl P i L ++ lvl P (i + L.length) r
  | [], r, i => by simp [lvl]
  | none :: t, r, i => by
    simp only [List.cons_append, lvl]
    rw [lvl_app P t r (i + 1), List.length_cons, show i + 1 + t.length = i + (t.length + 1) by omega]
  | some v :: t, r, i => by
    simp only [List.cons_append, lvl]
    rw [lvl_app P t r (i + 1), List.length_cons, show i + 1 + t.length = i + (t.length + 1) by omega]
theorem lvl_none (P : GP) : ∀ (n i : Nat), lvl P i (List.replicate n none) = []
  | 0, _ => rfl
  | n + 1, i => by
    rw [List.replicate_succ]
    exact lvl_none P n (i + 1)
theorem lvl_ent (P : GP) : ∀ (vs : List Value) (i : Nat), lvl P i (entA vs) = lv_args i (vs.map (mV P))
  | [], _ => rfl
  | v :: r, i => by
    unfold entA
    simp only [List.map_cons, lv_args, mV_cat]
    cases hc : cat2 (some v) with
    | true =>
      rw [if_pos ((cat2_iff v).mp hc)]
      simp only [lvl]
      rw [lvl_ent P r]
    | false =>
      rw [if_neg (fun e => by rw [(cat2_iff v).mpr e] at hc; cases hc)]
      simp only [lvl]
      rw [lvl_ent P r]
theorem ent_len (P : GP) : ∀ vs : List Value, (lg_sl (vs.map (mV P))).length = (entA vs).length
  | [] => rfl
  | v :: r => by
    unfold entA
    have ih := ent_len P r
    unfold lg_sl at ih ⊢
    simp only [List.map_cons, List.flatMap_cons, List.length_append, mV_cat, ih]
    cases hc : cat2 (some v) with
    | true =>
      rw [if_pos ((cat2_iff v).mp hc)]
      simp only [List.length_cons, List.length_nil]
      omega
    | false =>
      rw [if_neg (fun e => by rw [(cat2_iff v).mpr e] at hc; cases hc)]
      simp only [List.length_cons, List.length_nil]
      omega
/-- a method's contract, from its first instruction -/
theorem M_of {x : Nat} {args : List Value} {h : mH} {mc ms d : Nat} {K : Kt} (hp : plainFor (mY x) = true) (hc : (mY x).cls = mOwn x) (hn : (entA args).length ≤ mMax x) (hG : G P x K d 0 (entL (mMax x) args) [] h mc ms) : M P x args h mc ms d K := by
  have key : ∀ (p : Program) (e : Jvm.Env) (s : State) (m : MethodId) (ar : Array Value) (below : List Frame) (meth : Method) (c : Code) (s₁ : State),
      BodyLoose p (gl P) (mY x) (headSpec (WS x) { frames := d, cells := mc, slots := ms, locals := 100 * d }) (mCode x) (mMax x) (mRet x) e s m ar below meth c s₁ → c.maxLocals = mMax x → c.exceptionTable.toList = tableOf (mEx x) → PcK P args h ar s →
      W p (gl P) e { frames := d, cells := mc, slots := ms, locals := 100 * d } s m ar below meth c s.heap [] 0 0 (vx_MQ below (QcK P K) (XcK P K) ar s mc ms (gF P)) (entryFrame m ar (mMax x)) := by
    intro p e s m ar below meth c s₁ B hml htab hv
    obtain ⟨rfl, hE, hWd⟩ := hv
    have hts := atoms_spec (ws := WS x) B.pre
    have hown : s.vm.findClass (mY x).cls = some m.cls := findClass_of_methodNamed B.named
    have hl := lv_entry (args.map (mV P)) (n := mMax x) (by rw [ent_len]; exact hn)
    rw [lg_entry_eq]
    refine hG p e { frames := d, cells := mc, slots := ms, locals := 100 * d } s m _ below meth c s.heap [] 0 0 _ ⟨B.exec, B.bytes, hml, B.returns, by rw [← hc]; exact hown, fun w hw => hts w (List.mem_cons_of_mem _ hw), hE, B.notSynchronized, (name_of_methodNamed B.named B.method).1, htab, Nat.le_refl _, Nat.le_refl _⟩ ⟨by show 0 + mc ≤ mc; omega, by show 0 + ms ≤ ms; omega, va_S.rf, hWd⟩ ⟨?_, ?_⟩
    · unfold entL
      rw [lvl_app, lvl_none, List.append_nil, lvl_ent]
      exact hl
    · unfold entL
      rw [List.length_append, List.length_replicate]
      omega
  by_cases hx : mEx x = []
  · refine my_ofW (cc := mCode x) (maxL := mMax x) (ret := mRet x) hp (WS_code hx) ?_
    intro p e s m ar below meth c s₁ B hml hno hv
    refine key p e s m ar below meth c s₁ B hml ?_ hv
    rw [hx]
    cases ht : c.exceptionTable.toList with
    | nil => rfl
    | cons w r => exact (hno w (by rw [ht]; exact List.mem_cons_self)).elim
  · refine my_ofWH (cc := mCode x) (maxL := mMax x) (ret := mRet x) hp (WS_codeW hx) ?_
    intro p e s m ar below meth c s₁ B hml hv
    have hm : Cond.codeWith (mY x) (mCode x) (mMax x) (mRet x) (mEx x) ∈ WS x := by
      rw [WS_codeW hx]
      exact List.mem_cons_self
    exact key p e s m ar below meth c s₁ B hml (vx_table (x := mY x) B ((atoms_spec (ws := WS x) B.pre) _ hm)) hv
/-- a method's contract, run from its first instruction -/
theorem Mgo {x : Nat} (ok : AllOk x) (n : Nat) {args : List Value} {h : mH} {mc ms d : Nat} {K : Kt} (hn : Nat.ble (entA args).length (mMax x) = true) (q : run P x K d n (seekC (mChk x) 0) (entL (mMax x) args) [] h mc ms) : M P x args h mc ms d K := by
  have hb := ok.2
  unfold exOkB at hb
  simp only [Bool.and_eq_true, Bool.or_eq_true, decide_eq_true_eq] at hb
  have hp : plainFor (mY x) = true := by
    rcases hb.1.1 with h9 | h9
    · obtain ⟨c9, hc9, he9⟩ := List.any_eq_true.mp h9
      have e9 : c9 = (mY x).cls := of_decide_eq_true he9
      exact plainFor_of_name (by rw [← e9]; exact clsL_ok _ hc9)
    · obtain ⟨c9, hc9, he9⟩ := List.any_eq_true.mp h9
      have e9 : c9 = mY x := of_decide_eq_true he9
      rw [← e9]
      exact mathL_ok _ hc9
  exact M_of hp hb.1.2 (Nat.le_of_ble_eq_true hn) (go ok n q)
end GO
