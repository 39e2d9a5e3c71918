/-! what each instruction's entry promises, decided by program; plain facts of the small machine's parts -/
/-- kinds of words: 0 good ones, 1 of nest mates, 2 those of the tables alone -/
def okK (k : Nat) (w : Jvm.Cond) : Bool := match k with | 0 => goodWord w | 1 => isNest w | _ => w.onTables && w.keepsFace
def nmX : List String := ["java/lang/RuntimeException", "java/lang/Exception"]
def mTt (ci : Nat) : u_T := match ci with | 0 => tT0 | 1 => tT1 | 2 => tT2 | 3 => tT3 | _ => tT4
def mNn (ci : Nat) : Nat := match ci with | 0 => 4 | 1 => 4 | 2 => 6 | 3 => 2 | _ => 7
def mCn (ci : Nat) : String := match ci with | 0 => rc_STR | 1 => rc_SB | 2 => rc_X | 3 => rc_O | _ => rc_M
def lnS (x y : Nat) : Bool := decide ((mY x).cls ≠ "java/lang/invoke/MethodHandle" ∧ (mY x).cls ≠ "java/lang/invoke/VarHandle" ∧ (parseMethodDescriptor (mY x).desc).map (fun d => d.parameters.length) = some y) && Nat.ble (mMax x) 81
def oY (x : Nat) : MethodName := ⟨rc_ASB, (mY x).name, (mY x).desc⟩
def fWd (a ix x y : Nat) : Jvm.Cond := .fieldLink (mOwn a) ix (mTt x y).1 (mTt x y).2.1 (mTt x y).2.2.1
def fWn (a ix x y : Nat) : Jvm.Cond := .fieldLinkNest (mOwn a) ix (mTt x y).1 (mTt x y).2.1 (mTt x y).2.2.1 (mOwn a)
/-- the words that an entry needs -/
def lnW (a : Nat) (i : Instr) (x y z : Nat) : List (Nat × Jvm.Cond) := match i with
  | .ldc2_w ix => match nth kJ x with | some v => [(0, .constantLong (mOwn a) ix v)] | none => []
  | .getfield ix => match z with | 1 => [(1, fWn a ix x y)] | _ => [(0, fWd a ix x y)]
  | .putfield ix => match z with | 1 => [(1, fWn a ix x y)] | _ => [(0, fWd a ix x y)]
  | .getstatic ix => match x with
    | 0 => [(0, .fieldLink (mOwn a) ix "java/lang/String" "COMPACT_STRINGS" "Z")]
    | 1 => [(0, .fieldLink (mOwn a) ix "java/lang/Integer" "DigitTens" "[B")]
    | 2 => [(0, .fieldLink (mOwn a) ix "java/lang/Integer" "DigitOnes" "[B")]
    | _ => []
  | .ldc ix => match y with
    | 0 => match nth kI x with | some v => [(0, .constant (mOwn a) ix v)] | none => []
    | _ => []
  | .new ix => match Nat.ble 100 x with
    | true => [(0, .classLink (mOwn a) ix (exN (x - 100))), (0, .initialized (exN (x - 100)))]
    | false => match Nat.ble 5 x with
      | true => []
      | false => [(0, .classLink (mOwn a) ix (mCn x)), (0, .instantiable (mCn x) (mNn x)), (0, .initialized (mCn x))]
  | .newarray _ => match x with | 0 => [(0, .arrayClass .byte)] | 1 => [(0, .arrayClass .int)] | 2 => [(0, .arrayClass .long)] | _ => []
  | .invokestatic ix => match z with
    | 0 => [(0, .methodLink (mOwn a) ix (mY x)), (0, .static (mY x)), (0, .initialized (mY x).cls), (0, headw x)]
    | 8 => [(0, .methodLink (mOwn a) ix (mY x)), (0, .static (mY x)), (0, .initialized (mY x).cls), (0, headw x)]
    | _ => []
  | .invokevirtual ix => match z / 16 with
    | 1 => [(0, .methodLink (mOwn a) ix (mY x)), (0, .instanceMethod (mY x)), (0, .selects (mCn (z % 16)) (mY x) (mY x)), (0, .initialized (mCn (z % 16))), (0, headw x)]
    | 2 => [(0, .methodLink (mOwn a) ix (mY x)), (0, .sameMethod (mY x).cls (mY x).cls (mY x).name (mY x).desc), (0, .selects (mCn (z % 16)) (mY x) (mY x)), (0, .instanceMethod (mY x)), (0, .initialized (mY x).cls), (0, headw x)]
    | 3 => [(0, .methodLink (mOwn a) ix (oY x)), (0, .sameMethod rc_ASB rc_ASB (mY x).name (mY x).desc), (0, .instanceMethod (oY x)), (0, .selects (mCn (z % 16)) (oY x) (mY x)), (0, .instanceMethod (mY x)), (0, .initialized (mY x).cls), (0, headw x), (0, headw n_ASB_length)]
    | _ => []
  | .invokespecial ix => match z with
    | 4 => [(0, .methodLink (mOwn a) ix (mY x)), (0, .sameMethod (mY x).cls (mY x).cls (mY x).name (mY x).desc), (0, .superclass (mOwn a) (mY x).cls), (0, .instanceMethod (mY x)), (0, .initialized (mY x).cls), (0, headw x)]
    | 5 => [(0, .methodLink (mOwn a) ix (mY x)), (0, .instanceMethod (mY x)), (0, .initialized (mY x).cls), (0, headw x)]
    | 6 => [(1, .methodLinkNest (mOwn a) ix (mY x) (mOwn a)), (0, .instanceMethod (mY x)), (0, .initialized (mY x).cls), (0, headw x)]
    | 7 => [(0, .methodLink (mOwn a) ix Lib.objectInit), (0, .instanceMethod Lib.objectInit), (0, .code Lib.objectInit ⟨#[0xb1]⟩ 1 none)]
    | _ => []
  | _ => []
def lnk (a pc : Nat) (i : Instr) (n x y z : Nat) : Bool := match i with
  | .iconst v => Nat.beq n 1 && decide (nth kI x = some (Int32.ofInt v))
  | .bipush v => Nat.beq n 2 && decide (nth kI x = some (Int8.ofInt v).toInt32)
  | .sipush v => Nat.beq n 3 && decide (nth kI x = some (Int16.ofInt v).toInt32)
  | .lconst v => Nat.beq n 1 && decide (nth kJ x = some (Int64.ofNat (v : Nat)))
  | .ldc2_w ix => Nat.beq n 3
  | .iload j => Nat.beq n 2 && Nat.beq j x
  | .iload_n j => Nat.beq n 1 && Nat.beq j.val x
  | .lload j => Nat.beq n 2 && Nat.beq j x
  | .lload_n j => Nat.beq n 1 && Nat.beq j.val x
  | .aload j => Nat.beq n 2 && Nat.beq j x
  | .aload_n j => Nat.beq n 1 && Nat.beq j.val x
  | .istore j => Nat.beq n 2 && Nat.beq j x
  | .istore_n j => Nat.beq n 1 && Nat.beq j.val x
  | .lstore j => Nat.beq n 2 && Nat.beq j x
  | .lstore_n j => Nat.beq n 1 && Nat.beq j.val x
  | .astore j => Nat.beq n 2 && Nat.beq j x
  | .astore_n j => Nat.beq n 1 && Nat.beq j.val x
  | .iinc j v => Nat.beq n 3 && Nat.beq j x && decide (nth kI y = some (Int32.ofInt v))
  | .ifCond _ o => Nat.beq n 3 && decide ((pc : Int) + o = (x : Int))
  | .if_icmp _ o => Nat.beq n 3 && decide ((pc : Int) + o = (x : Int))
  | .goto o => Nat.beq n 3 && decide ((pc : Int) + o = (x : Int))
  | .ifnonnull o => Nat.beq n 3 && decide ((pc : Int) + o = (x : Int))
  | .tableswitch df lo hi offs => decide ((pc : Int) + df = (x : Int)) && decide (lo = 0) && match nth kS z with
    | some l => decide (hi + 1 = (l.length : Int)) && (List.range l.length).all (fun j => decide (∃ q, nth l j = some q ∧ q.1.toInt = (j : Int) ∧ ∃ o, offs[j]? = some o ∧ (pc : Int) + o = (q.2 : Int)))
    | none => false
  | .getfield _ => Nat.beq n 3 && Nat.blt x 5 && Nat.blt y (mNn x) && Nat.blt z 2
  | .putfield _ => Nat.beq n 3 && Nat.blt x 5 && Nat.blt y (mNn x) && match z with
    | 0 => !(mTt x y).2.2.2
    | 1 => !(mTt x y).2.2.2
    | 2 => (mTt x y).2.2.2 && decide ((mY a).name = "<init>") && decide ((mTt x y).1 = mOwn a)
    | _ => false
  | .getstatic _ => Nat.beq n 3
  | .ldc ix => Nat.beq n 2 && match y with
    | 1 => (match Nat.blt x 3 with | true => (match nth LTx x with | some t => decide (t.1 = mOwn a) && Nat.beq t.2.1 ix | none => false) | false => true)
    | _ => true
  | .new ix => Nat.beq n 3 && match Nat.ble 100 x with
    | true => decide (decode (mCode a) (pc + 3) = .ok (.dup, 1)) && decide (decode (mCode a) (pc + 4) = .ok (.ldc y, 2)) && decide (decode (mCode a) (pc + 6) = .ok (.invokespecial z, 3)) && decide (decode (mCode a) (pc + 9) = .ok (.athrow, 1)) &&
      (LR.any (fun q => decide (q.1 = mOwn a) && Nat.beq q.2.1 y)) && decide (mOwn a = rc_X) && decide (nth kZ (x - 100) = some z) && Nat.blt x 102
    | false => match Nat.ble 5 x with
      | true => true
      | false => Nat.beq y (mNn x)
  | .newarray t => Nat.beq n 2 && (match x with
    | 0 => decide (t = .byte)
    | 1 => decide (t = .int)
    | 2 => decide (t = .long)
    | _ => false)
  | .invokestatic _ => Nat.beq n 3 && match z with
    | 0 => lnS x y && decide (mEx x = [])
    | 8 => lnS x y && decide (mEx x ≠ [])
    | _ => true
  | .invokevirtual _ => Nat.beq n 3 && match z / 16 with
    | 1 => lnS x y && decide (mEx x = []) && decide ((mY x).cls = mCn (z % 16)) && Nat.blt (z % 16) 5
    | 2 => lnS x y && decide (mEx x = []) && Nat.blt (z % 16) 5
    | 3 => lnS x y && decide (mEx x = []) && Nat.blt (z % 16) 5 && decide (oY x = mY n_ASB_length) && decide (mEx n_ASB_length = [])
    | _ => true
  | .invokespecial _ => Nat.beq n 3 && match z with
    | 4 => lnS x y && decide (mEx x = []) && decide ((mY x).name ≠ "<init>")
    | 5 => lnS x y && decide (mEx x = []) && decide ((mY x).name = "<init>") && decide (mRet x = none)
    | 6 => lnS x y && decide (mEx x = []) && decide ((mY x).name = "<init>") && decide (mRet x = none)
    | _ => true
  | .checkcast _ => Nat.beq n 3
  | .ldc_w _ => Nat.beq n 3
  | .multianewarray _ _ => Nat.beq n 4
  | _ => Nat.beq n 1
def chkE (a : Nat) (e : Ent) : Bool := decide (decode (mCode a) e.1 = .ok (e.2.1, e.2.2.1)) && lnk a e.1 e.2.1 e.2.2.1 e.2.2.2.1 e.2.2.2.2.1 e.2.2.2.2.2.1
def wlE (a : Nat) (e : Ent) : List (Nat × Jvm.Cond) := lnW a e.2.1 e.2.2.2.1 e.2.2.2.2.1 e.2.2.2.2.2.1
def OkE (a : Nat) (e : Ent) : Prop := chkE a e = true ∧ ∀ q ∈ wlE a e, q.2 ∈ lT ∧ okK q.1 q.2 = true
def clsL : List String := [rc_D, rc_A, rc_R, rc_W, rc_X, rc_M, rc_O, rc_K, rc_SB, rc_ASB, rc_STR, rc_INT, rc_LNG, rc_ARR, rc_AS, rc_L1]
theorem clsL_ok : ∀ c ∈ clsL, plainName c = true := by decide +kernel
def mathL : List MethodName := [y_MA_floorDiv, y_MA_abs, y_MA_max_II, y_MA_max_JJ, y_MA_min_II, y_MA_min_JJ]
theorem mathL_ok : ∀ y ∈ mathL, plainFor y = true := by decide +kernel
def exOkB (a : Nat) : Bool := ((clsL.any (fun c => decide (c = (mY a).cls)) || mathL.any (fun y => decide (y = mY a))) && decide ((mY a).cls = mOwn a)) && (mEx a).all (fun x => decide (mOwn a = rc_K) && match catE kC x.2.2.2 with | some E => Nat.blt E 2 | none => false)
def AllOk (a : Nat) : Prop := (∀ ch ∈ mChk a, ∀ e ∈ ch.2.2, OkE a e) ∧ exOkB a = true
def wlA (a : Nat) : List (Nat × Jvm.Cond) := (mChk a).flatMap (fun ch => ch.2.2.flatMap (wlE a))
def allOkB (a : Nat) (ps : List Nat) : Bool := exOkB a && ((mChk a).all (fun ch => ch.2.2.all (chkE a)) && (decide ((wlA a).map (fun q => some q.2) = ps.map (nth lT)) && (wlA a).all (fun q => okK q.1 q.2)))
theorem nth_mem {α : Type} {l : List α} {n : Nat} {x : α} (h : nth l n = some x) : x ∈ l := by
  rw [nth_eq] at h
  exact List.mem_of_getElem? h
theorem allOk_of {a : Nat} (ps : List Nat) (h : allOkB a ps = true) : AllOk a := by
  unfold allOkB at h
  simp only [Bool.and_eq_true, decide_eq_true_eq] at h
  obtain ⟨h0, h1, h2, h3⟩ := h
  refine ⟨?_, h0⟩
  intro ch hc e he
  refine ⟨List.all_eq_true.mp (List.all_eq_true.mp h1 ch hc) e he, fun q hq => ?_⟩
  have hq2 : q ∈ wlA a := List.mem_flatMap.mpr ⟨ch, hc, List.mem_flatMap.mpr ⟨e, he, hq⟩⟩
  refine ⟨?_, List.all_eq_true.mp h3 q hq2⟩
  have h4 : some q.2 ∈ (wlA a).map (fun q => some q.2) := List.mem_map.mpr ⟨q, hq2, rfl⟩
  rw [h2] at h4
  obtain ⟨p, -, hp⟩ := List.mem_map.mp h4
  exact nth_mem hp
def chkD (cc : ByteArray) (a : Nat) (e : Ent) : Bool := decide (decode cc e.1 = .ok (e.2.1, e.2.2.1)) && lnk a e.1 e.2.1 e.2.2.1 e.2.2.2.1 e.2.2.2.2.1 e.2.2.2.2.2.1
theorem okD {a : Nat} {cc : ByteArray} (hc : mCode a = cc) {es : List Ent} (ps : List Nat) (h1 : es.all (chkD cc a) = true) (h2 : decide ((es.flatMap (wlE a)).map (fun q => some q.2) = ps.map (nth lT)) = true) (h3 : (es.flatMap (wlE a)).all (fun q => okK q.1 q.2) = true) : ∀ e ∈ es, OkE a e := by
  intro e he
  have e1 := List.all_eq_true.mp h1 e he
  subst hc
  refine ⟨e1, fun q hq => ?_⟩
  have hq2 : q ∈ es.flatMap (wlE a) := List.mem_flatMap.mpr ⟨e, he, hq⟩
  refine ⟨?_, List.all_eq_true.mp h3 q hq2⟩
  have h4 : some q.2 ∈ (es.flatMap (wlE a)).map (fun q => some q.2) := List.mem_map.mpr ⟨q, hq2, rfl⟩
  rw [of_decide_eq_true h2] at h4
  obtain ⟨p, -, hp⟩ := List.mem_map.mp h4
  exact nth_mem hp
theorem okCh {a : Nat} {es : List Ent} (ps : List Nat) (h : (es.all (chkE a) && (decide ((es.flatMap (wlE a)).map (fun q => some q.2) = ps.map (nth lT)) && (es.flatMap (wlE a)).all (fun q => okK q.1 q.2))) = true) : ∀ e ∈ es, OkE a e := by
  simp only [Bool.and_eq_true, decide_eq_true_eq] at h
  obtain ⟨h1, h2, h3⟩ := h
  intro e he
  refine ⟨List.all_eq_true.mp h1 e he, fun q hq => ?_⟩
  have hq2 : q ∈ es.flatMap (wlE a) := List.mem_flatMap.mpr ⟨e, he, hq⟩
  refine ⟨?_, List.all_eq_true.mp h3 q hq2⟩
  have h4 : some q.2 ∈ (es.flatMap (wlE a)).map (fun q => some q.2) := List.mem_map.mpr ⟨q, hq2, rfl⟩
  rw [h2] at h4
  obtain ⟨p, -, hp⟩ := List.mem_map.mp h4
  exact nth_mem hp
theorem TB_in {w : Jvm.Cond} (h : w ∈ lT ∧ okK 0 w = true) : w ∈ TB := List.mem_filter.mpr ⟨h.1, h.2⟩
theorem WN_in {w : Jvm.Cond} (h : w ∈ lT ∧ okK 1 w = true) : w ∈ WN := List.mem_filter.mpr ⟨h.1, h.2⟩
theorem TB_good {w : Jvm.Cond} (h : w ∈ TB) : goodWord w = true := (List.mem_filter.mp h).2
def IsE (a : Nat) (cs : List Ent) : Prop := ∀ e ∈ cs, OkE a e
theorem seekE_in : ∀ (es : List Ent) (pc : Nat), ∀ e ∈ seekE es pc, e ∈ es
  | [], _, e, h => by simp [seekE] at h
  | x :: es, pc, e, h => by
    unfold seekE at h
    split at h
    · exact h
    · exact List.mem_cons_of_mem _ (seekE_in es pc e h)
theorem seekE_hd : ∀ (es : List Ent) (pc : Nat) (e : Ent) (r : List Ent), seekE es pc = e :: r → e.1 = pc
  | [], _, e, r, h => by simp [seekE] at h
  | x :: es, pc, e, r, h => by
    unfold seekE at h
    split at h
    · rename_i hb
      cases h
      exact Nat.eq_of_beq_eq_true hb
    · exact seekE_hd es pc e r h
theorem seekC_in : ∀ (cs : List Chk) (pc : Nat), ∀ e ∈ seekC cs pc, ∃ ch ∈ cs, e ∈ ch.2.2
  | [], _, e, h => by simp [seekC] at h
  | x :: cs, pc, e, h => by
    unfold seekC at h
    split at h
    · exact ⟨x, List.mem_cons_self, seekE_in _ _ e h⟩
    · obtain ⟨ch, h1, h2⟩ := seekC_in cs pc e h
      exact ⟨ch, List.mem_cons_of_mem _ h1, h2⟩
theorem seekC_hd : ∀ (cs : List Chk) (pc : Nat) (e : Ent) (r : List Ent), seekC cs pc = e :: r → e.1 = pc
  | [], _, e, r, h => by simp [seekC] at h
  | x :: cs, pc, e, r, h => by
    unfold seekC at h
    split at h
    · exact seekE_hd _ _ e r h
    · exact seekC_hd cs pc e r h
theorem isE_seek {a : Nat} (h : AllOk a) (t : Nat) : IsE a (seekC (mChk a) t) := fun e he => by
  obtain ⟨ch, h1, h2⟩ := seekC_in _ _ e he
  exact h.1 ch h1 e h2
/-- what is known of k: where it stands, the method comes to its end -/
def Goes1 (P : GP) (a : Nat) (K : Kt) (d : Nat) (k : Ct) : Prop := ∀ (e : Ent) (es : List Ent) (L : mLs) (st : List Value) (h : mH) (cb sb : Nat), IsE a (e :: es) → k (e :: es) L st h cb sb → G P a K d e.1 L st h cb sb
theorem nxt_go {P : GP} {a : Nat} {K : Kt} {d : Nat} {k : Ct} {pc : Nat} {cs : List Ent} {L : mLs} {st : List Value} {h : mH} {cb sb : Nat} (hk : Goes1 P a K d k) (hc : IsE a cs) (q : nxt P a K d k pc cs L st h cb sb) : G P a K d pc L st h cb sb := by
  unfold nxt at q
  split at q
  · exact q
  · split at q
    · rename_i hb
      have e1 := Nat.eq_of_beq_eq_true hb
      split at q
      · rw [← e1]; exact q
      · rw [← e1]; exact hk _ _ _ _ _ _ _ hc q
    · exact q.elim
theorem jmp_go {P : GP} {a : Nat} {K : Kt} {d : Nat} {k : Ct} {t : Nat} {L : mLs} {st : List Value} {h : mH} {cb sb : Nat} (hk : Goes1 P a K d k) (hA : AllOk a) (q : jmp P a K d k t L st h cb sb) : G P a K d t L st h cb sb := nxt_go hk (isE_seek hA t) q
/-! locals -/
theorem lvl_mem (P : GP) : ∀ (L : mLs) (i j : Nat) (v : Value), nth L j = some (some v) → (i + j, mV P v) ∈ lvl P i L
  | [], _, _, _, h => by simp [nth] at h
  | none :: t, i, 0, v, h => by simp [nth] at h
  | some w :: t, i, 0, v, h => by
    simp only [nth, Option.some.injEq] at h
    subst h
    exact List.mem_cons_self
  | none :: t, i, j + 1, v, h => by
    have := lvl_mem P t (i + 1) j v h
    rw [show i + (j + 1) = i + 1 + j by omega]
    exact this
  | some w :: t, i, j + 1, v, h => by
    have := lvl_mem P t (i + 1) j v h
    rw [show i + (j + 1) = i + 1 + j by omega]
    exact List.mem_cons_of_mem _ this
theorem lvl_of (P : GP) : ∀ (L : mLs) (i : Nat) (q : Nat × Value), q ∈ lvl P i L → ∃ j v, nth L j = some (some v) ∧ q = (i + j, mV P v)
  | [], _, _, h => by simp [lvl] at h
  | none :: t, i, q, h => by
    obtain ⟨j, v, h1, h2⟩ := lvl_of P t (i + 1) q h
    exact ⟨j + 1, v, h1, by rw [h2]; congr 1; omega⟩
  | some w :: t, i, q, h => by
    rcases List.mem_cons.mp h with h | h
    · exact ⟨0, w, rfl, h⟩
    · obtain ⟨j, v, h1, h2⟩ := lvl_of P t (i + 1) q h
      exact ⟨j + 1, v, h1, by rw [h2]; congr 1; omega⟩
theorem LV_at {P : GP} {ls : Array Slot} {n : Nat} {L : mLs} (h : LV P ls n L) {j : Nat} {v : Value} (hj : nth L j = some (some v)) : ls[j]? = some (.val (mV P v)) := by
  have := h.1.2.2 _ (lvl_mem P L 0 j v hj)
  rwa [Nat.zero_add] at this
theorem set1_of : ∀ (L : mLs) (i : Nat) (v : Option Value) (f : mLs → Prop), set1 L i v f → ∃ L', f L' ∧ L'.length = L.length ∧ i < L.length ∧ ∀ j w, nth L' j = some (some w) → (j = i ∧ v = some w) ∨ (j ≠ i ∧ nth L j = some (some w) ∧ ¬ (j + 1 = i ∧ cat2 (some w) = true))
  | [], 0, v, f, h => h.elim
  | [], 1, v, f, h => h.elim
  | [], n + 2, v, f, h => h.elim
  | x :: t, 0, v, f, h => by
    refine ⟨v :: t, h, rfl, by simp, fun j w hj => ?_⟩
    cases j with
    | zero => exact Or.inl ⟨rfl, by simpa [nth] using hj⟩
    | succ j => exact Or.inr ⟨by omega, hj, by omega⟩
  | [x], 1, v, f, h => h.elim
  | x :: y :: t, 1, v, f, h => by
    unfold set1 at h
    split at h
    · refine ⟨none :: v :: t, h, rfl, by simp, fun j w hj => ?_⟩
      match j, hj with
      | 0, hj => simp [nth] at hj
      | 1, hj => exact Or.inl ⟨rfl, by simpa [nth] using hj⟩
      | j + 2, hj => exact Or.inr ⟨by omega, hj, by omega⟩
    · rename_i hc
      refine ⟨x :: v :: t, h, rfl, by simp, fun j w hj => ?_⟩
      match j, hj with
      | 0, hj =>
        refine Or.inr ⟨by omega, hj, fun q => ?_⟩
        have hx : x = some w := by simpa [nth] using hj
        rw [← hx, hc] at q
        exact absurd q.2 (by decide)
      | 1, hj => exact Or.inl ⟨rfl, by simpa [nth] using hj⟩
      | j + 2, hj => exact Or.inr ⟨by omega, hj, by omega⟩
  | x :: t, n + 2, v, f, h => by
    unfold set1 at h
    obtain ⟨L', h1, h2, h3, h4⟩ := set1_of t (n + 1) v _ h
    refine ⟨x :: L', h1, by simp [h2], by simp; omega, fun j w hj => ?_⟩
    cases j with
    | zero => exact Or.inr ⟨by omega, hj, by omega⟩
    | succ j =>
      rcases h4 j w hj with ⟨q1, q2⟩ | ⟨q1, q2, q3⟩
      · exact Or.inl ⟨by omega, q2⟩
      · exact Or.inr ⟨by omega, q2, fun q => q3 ⟨by omega, q.2⟩⟩
theorem set2_of : ∀ (L : mLs) (i : Nat) (v : Option Value) (f : mLs → Prop), set2 L i v f → ∃ L', f L' ∧ L'.length = L.length ∧ i + 1 < L.length ∧ ∀ j w, nth L' j = some (some w) → (j = i ∧ v = some w) ∨ (j ≠ i ∧ j ≠ i + 1 ∧ nth L j = some (some w) ∧ ¬ (j + 1 = i ∧ cat2 (some w) = true))
  | [], 0, v, f, h => h.elim
  | [], 1, v, f, h => h.elim
  | [], n + 2, v, f, h => h.elim
  | [x], 0, v, f, h => h.elim
  | x :: y :: t, 0, v, f, h => by
    refine ⟨v :: none :: t, h, rfl, by simp, fun j w hj => ?_⟩
    match j, hj with
    | 0, hj => exact Or.inl ⟨rfl, by simpa [nth] using hj⟩
    | 1, hj => simp [nth] at hj
    | j + 2, hj => exact Or.inr ⟨by omega, by omega, hj, by omega⟩
  | [x], 1, v, f, h => h.elim
  | [x, y], 1, v, f, h => h.elim
  | x :: y :: z :: t, 1, v, f, h => by
    unfold set2 at h
    split at h
    · refine ⟨none :: v :: none :: t, h, rfl, by simp, fun j w hj => ?_⟩
      match j, hj with
      | 0, hj => simp [nth] at hj
      | 1, hj => exact Or.inl ⟨rfl, by simpa [nth] using hj⟩
      | 2, hj => simp [nth] at hj
      | j + 3, hj => exact Or.inr ⟨by omega, by omega, hj, by omega⟩
    · rename_i hc
      refine ⟨x :: v :: none :: t, h, rfl, by simp, fun j w hj => ?_⟩
      match j, hj with
      | 0, hj =>
        refine Or.inr ⟨by omega, by omega, hj, fun q => ?_⟩
        have hx : x = some w := by simpa [nth] using hj
        rw [← hx, hc] at q
        exact absurd q.2 (by decide)
      | 1, hj => exact Or.inl ⟨rfl, by simpa [nth] using hj⟩
      | 2, hj => simp [nth] at hj
      | j + 3, hj => exact Or.inr ⟨by omega, by omega, hj, by omega⟩
  | x :: t, n + 2, v, f, h => by
    simp only [set2] at h
    obtain ⟨L', h1, h2, h3, h4⟩ := set2_of t (n + 1) v _ h
    refine ⟨x :: L', h1, by simp [h2], by simp; omega, fun j w hj => ?_⟩
    cases j with
    | zero => exact Or.inr ⟨by omega, by omega, hj, by omega⟩
    | succ j =>
      rcases h4 j w hj with ⟨q1, q2⟩ | ⟨q1, q2, q3, q4⟩
      · exact Or.inl ⟨by omega, q2⟩
      · exact Or.inr ⟨by omega, by omega, q3, fun q => q4 ⟨by omega, q.2⟩⟩
theorem mV_cat (P : GP) (v : Value) : (mV P v).category = v.category := by cases v <;> rfl
theorem cat2_iff (v : Value) : cat2 (some v) = true ↔ v.category = 2 := by cases v <;> simp [cat2, Value.category]
theorem LV_set1 {P : GP} {ls ls' : Array Slot} {n i : Nat} {L L' : mLs} {v : Option Value} {w0 : Value} (h : LV P ls n L) (h2 : L'.length = L.length) (h4 : ∀ j w, nth L' j = some (some w) → (j = i ∧ v = some w) ∨ (j ≠ i ∧ nth L j = some (some w) ∧ ¬ (j + 1 = i ∧ cat2 (some w) = true)))
    (hv : ∀ w, v = some w → w0 = mV P w) (hl : lv_has ls' n ((i, w0) :: (lvl P 0 L).filter (fun q => !(q.1 == i) && !(q.1 + 1 == i && q.2.category == 2)))) : LV P ls' n L' := by
  refine ⟨⟨hl.1, hl.2.1, fun q hq => hl.2.2 q ?_⟩, by rw [h2]; exact h.2⟩
  obtain ⟨j, w, hj, rfl⟩ := lvl_of P L' 0 q hq
  rw [Nat.zero_add]
  rcases h4 j w hj with ⟨rfl, hw⟩ | ⟨q1, q2, q3⟩
  · rw [hv w hw]
    exact List.mem_cons_self
  · refine List.mem_cons_of_mem _ (List.mem_filter.mpr ⟨?_, ?_⟩)
    · have := lvl_mem P L 0 j w q2
      rwa [Nat.zero_add] at this
    · rw [cat2_iff] at q3
      simp only [mV_cat, Bool.and_eq_true, Bool.not_eq_true', beq_eq_false_iff_ne, ne_eq, Bool.and_eq_false_iff]
      refine ⟨q1, ?_⟩
      by_cases e : j + 1 = i
      · exact Or.inr (fun q => q3 ⟨e, q⟩)
      · exact Or.inl e
theorem LV_set2 {P : GP} {ls ls' : Array Slot} {n i : Nat} {L L' : mLs} {v : Option Value} {w0 : Value} (h : LV P ls n L) (h2 : L'.length = L.length) (h4 : ∀ j w, nth L' j = some (some w) → (j = i ∧ v = some w) ∨ (j ≠ i ∧ j ≠ i + 1 ∧ nth L j = some (some w) ∧ ¬ (j + 1 = i ∧ cat2 (some w) = true)))
    (hv : ∀ w, v = some w → w0 = mV P w) (hl : lv_has ls' n ((i, w0) :: (lvl P 0 L).filter (fun q => !(q.1 == i) && (!(q.1 == i + 1) && !(q.1 + 1 == i && q.2.category == 2))))) : LV P ls' n L' := by
  refine ⟨⟨hl.1, hl.2.1, fun q hq => hl.2.2 q ?_⟩, by rw [h2]; exact h.2⟩
  obtain ⟨j, w, hj, rfl⟩ := lvl_of P L' 0 q hq
  rw [Nat.zero_add]
  rcases h4 j w hj with ⟨rfl, hw⟩ | ⟨q1, q1b, q2, q3⟩
  · rw [hv w hw]
    exact List.mem_cons_self
  · refine List.mem_cons_of_mem _ (List.mem_filter.mpr ⟨?_, ?_⟩)
    · have := lvl_mem P L 0 j w q2
      rwa [Nat.zero_add] at this
    · rw [cat2_iff] at q3
      simp only [mV_cat, Bool.and_eq_true, Bool.not_eq_true', beq_eq_false_iff_ne, ne_eq, Bool.and_eq_false_iff]
      refine ⟨q1, q1b, ?_⟩
      by_cases e : j + 1 = i
      · exact Or.inr (fun q => q3 ⟨e, q⟩)
      · exact Or.inl e
