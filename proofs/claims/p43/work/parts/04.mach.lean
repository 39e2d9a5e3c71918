section
/-! THE SMALL MACHINE: values, cells, steps. '.ref i' is the i-th cell made since the law began; '.retAddr c' a fixed cell (0 the script, 10 + j a text, 30 + j its bytes, 50 and 51 the tables of digits) -/
abbrev GP : Type := Launch × va_G × (Nat → ClassId) × (Nat → Nat) × Nat × (Nat → Int32) × Nat
abbrev gl (P : GP) : Launch := P.1
abbrev gD (P : GP) : va_G := P.2.1
abbrev gC (P : GP) : Nat → ClassId := P.2.2.1
abbrev gA (P : GP) : Nat → Nat := P.2.2.2.1
abbrev gN (P : GP) : Nat := P.2.2.2.2.1
abbrev gX (P : GP) : Nat → Int32 := P.2.2.2.2.2.1
abbrev gL (P : GP) : Nat := P.2.2.2.2.2.2
def gF (P : GP) : Nat → Prop := fun q => gN P ≤ q
def nth {α : Type} : List α → Nat → Option α
  | [], _ => none
  | x :: _, 0 => some x
  | _ :: t, n + 1 => nth t n
theorem nth_eq {α : Type} : ∀ (l : List α) (n : Nat), nth l n = l[n]?
  | [], _ => rfl
  | _ :: _, 0 => rfl
  | _ :: t, n + 1 => by rw [nth, nth_eq t n]; rfl
def mV (P : GP) : Value → Value
  | .ref i => .ref (gN P + i)
  | .retAddr c => .ref (gA P c)
  | v => v
abbrev mAc : Type := (Nat → Int32) ⊕ (Nat → Int64) ⊕ (Nat → UInt32) ⊕ (Nat → UInt64) ⊕ (Nat → Option Nat)
def mRA (P : GP) : mAc → mAc
  | .inr (.inr (.inr (.inr f))) => .inr (.inr (.inr (.inr (fun j => (f j).map (fun i => gN P + i)))))
  | x => x
abbrev mH : Type := List va_E
def mC (P : GP) (i : Nat) (c : va_E) (H : Heap) : Prop := match c with
  | .inl (k, n, f) => H[gN P + i]? = some (vp_cell (gC P k) (n, mRA P f))
  | .inr (ci, fs) => ci < 5 → va_at (gD P) mCl (gN P + i, .inr (ci, fs.map (mV P))) H
def Wd (P : GP) (h : mH) (H : Heap) : Prop := H.size = gN P + h.length ∧ ∀ i c, nth h i = some c → mC P i c H
abbrev mLs : Type := List (Option Value)
def lvl (P : GP) : Nat → mLs → List (Nat × Value)
  | _, [] => []
  | j, none :: t => lvl P (j + 1) t
  | j, some v :: t => (j, mV P v) :: lvl P (j + 1) t
def LV (P : GP) (ls : Array Slot) (n : Nat) (L : mLs) : Prop := lv_has ls n (lvl P 0 L) ∧ L.length ≤ n
def md0 : MD := ("", ⟨"", "", ""⟩, ⟨#[]⟩, 0, none, [], [])
def md (a : Nat) : MD := match nth mT a with | some x => x | none => md0
abbrev mOwn (a : Nat) : String := (md a).1
abbrev mY (a : Nat) : MethodName := (md a).2.1
abbrev mCode (a : Nat) : ByteArray := (md a).2.2.1
abbrev mMax (a : Nat) : Nat := (md a).2.2.2.1
abbrev mRet (a : Nat) : Option FieldType := (md a).2.2.2.2.1
abbrev mEx (a : Nat) : List (Nat × Nat × Nat × Nat) := (md a).2.2.2.2.2.1
abbrev mChk (a : Nat) : List Chk := (md a).2.2.2.2.2.2
def seekE : List Ent → Nat → List Ent
  | [], _ => []
  | e :: es, pc => match Nat.beq e.1 pc with | true => e :: es | false => seekE es pc
def seekC : List Chk → Nat → List Ent
  | [], _ => []
  | k :: r, pc => match Nat.ble k.1 pc && Nat.ble pc k.2.1 with | true => seekE k.2.2 pc | false => seekC r pc
def tys (P : GP) : List (ClassId × FieldType) := [(gC P 0, .byte), (gC P 1, .int), (gC P 2, .long), (gC P 3, .array .int)]
def lx : List Cond := lxM.map (fun y => .selects rc_SB y y)
/-- the tables' words, and what the private methods of a class above a text's builder add -/
def lT : List Cond := lw_tbl ++ lx
def TB : List Cond := lT.filter goodWord
def headw (a : Nat) : Cond := match mEx a with | [] => .code (mY a) (mCode a) (mMax a) (mRet a) | x :: r => .codeWith (mY a) (mCode a) (mMax a) (mRet a) (x :: r)
def WS (a : Nat) : List Cond := headw a :: TB
def kSl : List Nat := [0, 2, 1]
def kSb : List (List Int32) := [[], [58, 32], [32]]
def dTen (j : Nat) : Int32 := Int32.ofNat (48 + j / 10)
def dOne (j : Nat) : Int32 := Int32.ofNat (48 + j % 10)
def isNest (w : Jvm.Cond) : Bool := match w with | .fieldLinkNest .. => true | .methodLinkNest .. => true | _ => false
def WF : List Jvm.Cond := lT.filter (fun w => w.onTables && w.keepsFace)
def WN : List Jvm.Cond := lT.filter isNest
def exN (k : Nat) : String := match nth kE k with | some x => x | none => ""
/-- what every method finds, in the state that it starts in -/
def Env (P : GP) (U : State) : Prop := va_K (gD P) mCl (tys P) U ∧ gN P ≤ U.heap.size ∧ va_X (gA P 0) (gL P) (gX P) U U.heap ∧ gA P 0 < gN P ∧
  (∀ w ∈ WF, w.before #[] U = true) ∧ (∀ w ∈ WN, w.before #[] U = true) ∧
  vx_Zq Bundle.tN "UNASSIGNED_STACK" Bundle.steD (gF P) U U.heap ∧ vx_Zq Bundle.tN "SUPPRESSED_SENTINEL" Bundle.listD (gF P) U U.heap ∧
  (∀ q ∈ LR, ∃ sa : Nat, vk_R q.1 q.2.1 q.2.2 sa U) ∧ (∀ i q, nth LTx i = some q → vk_R q.1 q.2.1 q.2.2 (gA P (10 + i)) U) ∧
  vk_S 3 kSl kSb (fun i => gA P (10 + i)) (fun i => gA P (30 + i)) (gF P) U U.heap ∧
  va_Z "java/lang/String" "COMPACT_STRINGS" "Z" (.int 1) (gF P) U U.heap ∧
  (va_Z "java/lang/Integer" "DigitTens" "[B" (.ref (gA P 50)) (gF P) U U.heap ∧ va_T .byte (gA P 50) 100 (fun j => .int (dTen j)) (gF P) U U.heap) ∧
  (va_Z "java/lang/Integer" "DigitOnes" "[B" (.ref (gA P 51)) (gF P) U U.heap ∧ va_T .byte (gA P 51) 100 (fun j => .int (dOne j)) (gF P) U U.heap) ∧
  (va_Nc (exN 1) (exN 0) U ∧ va_Nc (exN 0) (exN 1) U) ∧ ((gl P).stackTraces = false ∧ (Jvm.Cond.arrayOver (.array .int)).before #[] U = true)
abbrev Res : Type := Option Value ⊕ Nat
abbrev Kt : Type := Res → mH → Prop
def QcK (P : GP) (K : Kt) : Array Value → State → Outcome → State → Prop := fun _ st o t => ∃ (v : Option Value) (h : mH), o = .returned (v.map (mV P)) ∧ K (.inl v) h ∧ Wd P h t.heap ∧ va_F (gF P) st t
def XcK (P : GP) (K : Kt) : String → State → State → Prop := fun E st t => ∃ (k : Nat) (h : mH), (k < 2 ∧ E = exN k) ∧ K (.inr k) h ∧ Wd P h t.heap ∧ va_F (gF P) st t
def PcK (P : GP) (args : List Value) (h : mH) : Array Value → State → Prop := fun a U => a = (args.map (mV P)).toArray ∧ Env P U ∧ Wd P h U.heap
/-- method a, called with args over h: in d frames, mc cells, ms slots it answers or throws so that K holds -/
def M (P : GP) (a : Nat) (args : List Value) (h : mH) (mc ms d : Nat) (K : Kt) : Prop :=
  vx_Met (gl P) (mY a) (WS a) { frames := d, cells := mc, slots := ms, locals := 100 * d } (PcK P args h) (QcK P K) (XcK P K) mc ms (gF P)
/-- what stays through a method's body -/
def Fx (P : GP) (a d : Nat) (p : Program) (R : Room) (s : State) (m : MethodId) (args : Array Value) (meth : Method) (c : Code) : Prop :=
  p.tables.exec = Jvm.exec ∧ c.code = mCode a ∧ c.maxLocals = mMax a ∧ meth.sig.returnType = mRet a ∧ s.vm.findClass (mOwn a) = some m.cls ∧ (∀ w ∈ TB, w.before args s = true) ∧ Env P s ∧ meth.locks = false ∧ meth.name = (mY a).name ∧ c.exceptionTable.toList = tableOf (mEx a) ∧ d ≤ R.frames ∧ 100 * d ≤ R.locals
def Dy (P : GP) (R : Room) (s : State) (H : Heap) (locs : List Loc) (cells slots : Nat) (h : mH) (cb sb : Nat) : Prop := cells + cb ≤ R.cells ∧ slots + sb ≤ R.slots ∧ va_S (gF P) s.heap H locs ∧ Wd P h H
/-- method a at pc, with locals L, stack st, heap h, cb cells and sb slots left: it comes to an end with K -/
def G (P : GP) (a : Nat) (K : Kt) (d pc : Nat) (L : mLs) (st : List Value) (h : mH) (cb sb : Nat) : Prop :=
  ∀ (p : Program) (e : Jvm.Env) (R : Room) (s : State) (m : MethodId) (args : Array Value) (below : List Frame) (meth : Method) (c : Code) (H : Heap) (locs : List Loc) (cells slots : Nat) (ls : Array Slot),
    Fx P a d p R s m args meth c → Dy P R s H locs cells slots h cb sb → LV P ls (mMax a) L →
    W p (gl P) e R s m args below meth c H locs cells slots (vx_MQ below (QcK P K) (XcK P K) args s R.cells R.slots (gF P)) (F0 m pc ls (st.map (mV P)))
end
section
/-! the steps of the small machine: 'run n cs L st h cb sb' is what is left to show, some n steps on -/
abbrev Ct : Type := List Ent → mLs → List Value → mH → Nat → Nat → Prop
def nxt (P : GP) (a : Nat) (K : Kt) (d : Nat) (k : Ct) (pc : Nat) (cs : List Ent) (L : mLs) (st : List Value) (h : mH) (cb sb : Nat) : Prop :=
  match cs with
  | [] => G P a K d pc L st h cb sb
  | e :: es => match Nat.beq e.1 pc with
    | true => match e.2.2.2.2.2.2 with
      | true => G P a K d e.1 L st h cb sb
      | false => k (e :: es) L st h cb sb
    | false => False
def jmp (P : GP) (a : Nat) (K : Kt) (d : Nat) (k : Ct) (t : Nat) : mLs → List Value → mH → Nat → Nat → Prop := nxt P a K d k t (seekC (mChk a) t)
def p1i (st : List Value) (f : Int32 → List Value → Prop) : Prop := match st with | .int x :: r => f x r | _ => False
def p2i (st : List Value) (f : Int32 → Int32 → List Value → Prop) : Prop := match st with | .int y :: .int x :: r => f x y r | _ => False
def p1l (st : List Value) (f : Int64 → List Value → Prop) : Prop := match st with | .long x :: r => f x r | _ => False
def p2l (st : List Value) (f : Int64 → Int64 → List Value → Prop) : Prop := match st with | .long y :: .long x :: r => f x y r | _ => False
def plj (st : List Value) (f : Int64 → Int32 → List Value → Prop) : Prop := match st with | .int y :: .long x :: r => f x y r | _ => False
def ldI (L : mLs) (i : Nat) (f : Int32 → Prop) : Prop := match nth L i with | some (some (.int x)) => f x | _ => False
def ldL (L : mLs) (i : Nat) (f : Int64 → Prop) : Prop := match nth L i with | some (some (.long x)) => f x | _ => False
def ldA (L : mLs) (i : Nat) (f : Value → Prop) : Prop := match nth L i with
  | some (some (.ref x)) => f (.ref x)
  | some (some (.retAddr x)) => f (.retAddr x)
  | some (some .null) => f .null
  | _ => False
def cat2 (x : Option Value) : Bool := match x with | some (.long _) => true | some (.double _) => true | _ => false
/-- a value of one slot (or none that is known) is put at place i -/
def set1 : mLs → Nat → Option Value → (mLs → Prop) → Prop
  | _ :: t, 0, v, f => f (v :: t)
  | x :: _ :: t, 1, v, f => match cat2 x with | true => f (none :: v :: t) | false => f (x :: v :: t)
  | x :: t, n + 2, v, f => set1 t (n + 1) v (fun l => f (x :: l))
  | _, _, _, _ => False
def set2 : mLs → Nat → Option Value → (mLs → Prop) → Prop
  | _ :: _ :: t, 0, v, f => f (v :: none :: t)
  | x :: _ :: _ :: t, 1, v, f => match cat2 x with | true => f (none :: v :: none :: t) | false => f (x :: v :: none :: t)
  | x :: t, n + 2, v, f => set2 t (n + 1) v (fun l => f (x :: l))
  | _, _, _, _ => False
def cI (i : Nat) (f : Int32 → Prop) : Prop := match nth kI i with | some v => f v | none => False
def cJ (i : Nat) (f : Int64 → Prop) : Prop := match nth kJ i with | some v => f v | none => False
def condI (c : ClassFile.Cond) (x y : Int32) (t f : Prop) : Prop := match c with
  | .eq => (x = y → t) ∧ (¬ x = y → f)
  | .ne => (x = y → f) ∧ (¬ x = y → t)
  | .lt => (x < y → t) ∧ (¬ x < y → f)
  | .ge => (x < y → f) ∧ (¬ x < y → t)
  | .gt => (y < x → t) ∧ (¬ y < x → f)
  | .le => (y < x → f) ∧ (¬ y < x → t)
def condL (c : ClassFile.Cond) (x y : Int64) (t f : Prop) : Prop := match c with
  | .eq => (x = y → t) ∧ (¬ x = y → f)
  | .ne => (x = y → f) ∧ (¬ x = y → t)
  | .lt => (x < y → t) ∧ (¬ x < y → f)
  | .ge => (x < y → f) ∧ (¬ x < y → t)
  | .gt => (y < x → t) ∧ (¬ y < x → f)
  | .le => (y < x → f) ∧ (¬ y < x → t)
def swi : List (Int32 × Nat) → Int32 → (Nat → Prop) → Nat → Prop
  | [], _, f, df => f df
  | q :: r, v, f, df => (v = q.1 → f q.2) ∧ (¬ v = q.1 → swi r v f df)
def popN : Nat → List Value → List Value → (List Value → List Value → Prop) → Prop
  | 0, st, as, f => f as st
  | n + 1, v :: st, as, f => popN n st (v :: as) f
  | _ + 1, [], _, _ => False
def catS : List Value → Nat
  | [] => 0
  | v :: r => v.category + catS r
def mDf (ci : Nat) : List Value := match ci with
  | 0 => [.null, .int 0, .int 0, .int 0]
  | 1 => [.null, .int 0, .int 0, .int 0]
  | 2 => [.null, .null, .null, .null, .int 0, .int 0]
  | 3 => [.long 0, .null]
  | _ => [.int 0, .null, .null, .null, .null, .int 0, .int 0]
def mTy (ci k : Nat) : FieldType := match ci with | 0 => yT0 k | 1 => yT1 k | 2 => yT2 k | 3 => yT3 k | _ => yT4 k
def fitK (ty : FieldType) (v : Value) (q : Prop) : Prop := match ty with
  | .int => match v with | .int _ => q | _ => False
  | .long => match v with | .long _ => q | _ => False
  | .array _ => match v with | .ref _ => q | .null => q | .retAddr _ => q | _ => False
  | .object _ => match v with | .ref _ => q | .null => q | .retAddr _ => q | _ => False
  | .byte => match v with | .int x => (narrow .byte (.int x) = .int x ∧ fits .byte (.int x) = true) ∧ q | _ => False
  | .boolean => match v with | .int x => (narrow .boolean (.int x) = .int x ∧ fits .boolean (.int x) = true) ∧ q | _ => False
  | _ => False
def gtf (h : mH) (st : List Value) (ci j : Nat) (f : Value → List Value → Prop) : Prop := match st with
  | .ref i :: r => match nth h i with
    | some (.inr (cj, fs)) => match Nat.beq cj ci with
      | true => match nth fs j with | some v => f v r | none => False
      | false => False
    | _ => False
  | .retAddr c :: r => match Nat.ble 10 c && Nat.blt c 13 && Nat.beq ci 0 with
    | true => match j with | 0 => f (.retAddr (c + 20)) r | 1 => f (.int 0) r | _ => False
    | false => False
  | _ => False
def ptf (h : mH) (st : List Value) (ci j : Nat) (f : mH → List Value → Prop) : Prop := match st with
  | v :: .ref i :: r => match nth h i with
    | some (.inr (cj, fs)) => match Nat.beq cj ci with
      | true => match nth fs j with | some _ => fitK (mTy ci j) v (f (h.set i (.inr (ci, fs.set j v))) r) | none => False
      | false => False
    | _ => False
  | _ => False
/-- bytes that are fixed: of the texts, and of the tables of digits -/
def cBy (c : Nat) : Option (Nat × (Nat → Int32)) := match Nat.ble 30 c && Nat.blt c 33 with
  | true => match nth kSl (c - 30) with | some n => some (n, fun j => (kSb.getD (c - 30) []).getD j 0) | none => none
  | false => match Nat.beq c 50 with | true => some (100, dTen) | false => match Nat.beq c 51 with | true => some (100, dOne) | false => none
def alI (P : GP) (h : mH) (st : List Value) (f : Value → List Value → Prop) : Prop := match st with
  | .int j :: .ref i :: r => match nth h i with
    | some (.inl (k, n, .inl g)) => match Nat.beq k 1 with | true => vp_in j n ∧ f (.int (g j.toNatClampNeg)) r | false => False
    | _ => False
  | .int j :: .retAddr c :: r => match c with | 0 => vp_in j (gL P) ∧ f (.int (gX P j.toNatClampNeg)) r | _ => False
  | _ => False
def alB (h : mH) (st : List Value) (f : Value → List Value → Prop) : Prop := match st with
  | .int j :: .ref i :: r => match nth h i with
    | some (.inl (k, n, .inl g)) => match Nat.beq k 0 with | true => vp_in j n ∧ f (.int (g j.toNatClampNeg)) r | false => False
    | _ => False
  | .int j :: .retAddr c :: r => match cBy c with | some (n, g) => vp_in j n ∧ f (.int (g j.toNatClampNeg)) r | none => False
  | _ => False
def alL (h : mH) (st : List Value) (f : Value → List Value → Prop) : Prop := match st with
  | .int j :: .ref i :: r => match nth h i with
    | some (.inl (k, n, .inr (.inl g))) => match Nat.beq k 2 with | true => vp_in j n ∧ f (.long (g j.toNatClampNeg)) r | false => False
    | _ => False
  | _ => False
def alA (h : mH) (st : List Value) (f : Value → List Value → Prop) : Prop := match st with
  | .int j :: .ref i :: r => match nth h i with
    | some (.inl (k, n, .inr (.inr (.inr (.inr g))))) => match Nat.beq k 3 with | true => vp_in j n ∧ (∀ q, g j.toNatClampNeg = some q → f (.ref q) r) ∧ ¬ g j.toNatClampNeg = none | false => False
    | _ => False
  | _ => False
def asI (h : mH) (st : List Value) (f : mH → List Value → Prop) : Prop := match st with
  | .int x :: .int j :: .ref i :: r => match nth h i with
    | some (.inl (k, n, .inl g)) => match Nat.beq k 1 with | true => vp_in j n ∧ f (h.set i (.inl (k, n, .inl (upd g j.toNatClampNeg x)))) r | false => False
    | _ => False
  | _ => False
def asB (h : mH) (st : List Value) (f : mH → List Value → Prop) : Prop := match st with
  | .int x :: .int j :: .ref i :: r => match nth h i with
    | some (.inl (k, n, .inl g)) => match Nat.beq k 0 with | true => vp_in j n ∧ f (h.set i (.inl (k, n, .inl (upd g j.toNatClampNeg (vp_nar .byte x))))) r | false => False
    | _ => False
  | _ => False
def asL (h : mH) (st : List Value) (f : mH → List Value → Prop) : Prop := match st with
  | .long x :: .int j :: .ref i :: r => match nth h i with
    | some (.inl (k, n, .inr (.inl g))) => match Nat.beq k 2 with | true => vp_in j n ∧ f (h.set i (.inl (k, n, .inr (.inl (vp_updL g j.toNatClampNeg x))))) r | false => False
    | _ => False
  | _ => False
def aln (P : GP) (h : mH) (st : List Value) (f : Value → List Value → Prop) : Prop := match st with
  | .ref i :: r => match nth h i with | some (.inl (k, n, _)) => (match Nat.blt k 4 with | true => f (.int (Int32.ofNat n)) r | false => False) | _ => False
  | .retAddr c :: r => match c with | 0 => f (.int (Int32.ofNat (gL P))) r | c' + 1 => match cBy (c' + 1) with | some (n, _) => f (.int (Int32.ofNat n)) r | none => False
  | _ => False
def isR (t : Option FieldType) : Bool := match t with | some (.object _) => true | some (.array _) => true | _ => false
def junk : va_E := .inr (9, [])
/-- which of the two exceptions an entry of a table names -/
def catE : List (Nat × Nat) → Nat → Option Nat
  | [], _ => none
  | q :: r, i => match Nat.beq q.1 i with | true => some q.2 | false => catE r i
def findH : List (Nat × Nat × Nat × Nat) → Nat → Nat → Option Nat
  | [], _, _ => none
  | x :: r, pc, E => match Nat.ble x.1 pc && Nat.blt pc x.2.1 with
    | true => match catE kC x.2.2.2 with
      | some E2 => match Nat.beq E2 E with | true => some x.2.2.1 | false => findH r pc E
      | none => some 65535
    | false => findH r pc E
def thr (P : GP) (a : Nat) (K : Kt) (d : Nat) (k : Ct) (pc : Nat) (L : mLs) (h : mH) (cb sb E : Nat) : Prop := match findH (mEx a) pc E with
  | none => K (.inr E) h
  | some t => match seekC (mChk a) t with
    | e :: cs => match e.2.1 with
      | .astore _ => set1 L e.2.2.2.1 none (fun L => nxt P a K d k (e.1 + e.2.2.1) cs L [] h cb sb)
      | .astore_n _ => set1 L e.2.2.2.1 none (fun L => nxt P a K d k (e.1 + e.2.2.1) cs L [] h cb sb)
      | _ => False
    | [] => False
def cal (P : GP) (a : Nat) (K : Kt) (d : Nat) (k : Ct) (pc n : Nat) (cs : List Ent) (L : mLs) (h : mH) (cb sb x : Nat) (as r : List Value) : Prop :=
  match Nat.ble (catS r) 8 with
  | true => ∃ mc ms d' : Nat, M P x as h mc ms d' (fun res h' => match res with
      | .inl v => match v with
        | some w => nxt P a K d k (pc + n) cs L (w :: r) h' (cb - mc) (sb - ms)
        | none => nxt P a K d k (pc + n) cs L r h' (cb - mc) (sb - ms)
      | .inr E => thr P a K d k pc L h' (cb - mc) (sb - ms) E) ∧ mc ≤ cb ∧ ms ≤ sb ∧ d' + 1 ≤ d
  | false => False
def stepI (P : GP) (a : Nat) (K : Kt) (d : Nat) (k : Ct) (e : Ent) (cs : List Ent) (L : mLs) (st : List Value) (h : mH) (cb sb : Nat) : Prop :=
  match e with
  | (pc, i, n, x, y, z, _) => match i with
    | .iconst _ => cI x fun v => nxt P a K d k (pc + n) cs L (.int v :: st) h cb sb
    | .bipush _ => cI x fun v => nxt P a K d k (pc + n) cs L (.int v :: st) h cb sb
    | .sipush _ => cI x fun v => nxt P a K d k (pc + n) cs L (.int v :: st) h cb sb
    | .lconst _ => cJ x fun v => nxt P a K d k (pc + n) cs L (.long v :: st) h cb sb
    | .ldc2_w _ => cJ x fun v => nxt P a K d k (pc + n) cs L (.long v :: st) h cb sb
    | .aconst_null => nxt P a K d k (pc + n) cs L (.null :: st) h cb sb
    | .iload _ => ldI L x fun v => nxt P a K d k (pc + n) cs L (.int v :: st) h cb sb
    | .iload_n _ => ldI L x fun v => nxt P a K d k (pc + n) cs L (.int v :: st) h cb sb
    | .lload _ => ldL L x fun v => nxt P a K d k (pc + n) cs L (.long v :: st) h cb sb
    | .lload_n _ => ldL L x fun v => nxt P a K d k (pc + n) cs L (.long v :: st) h cb sb
    | .aload _ => ldA L x fun v => nxt P a K d k (pc + n) cs L (v :: st) h cb sb
    | .aload_n _ => ldA L x fun v => nxt P a K d k (pc + n) cs L (v :: st) h cb sb
    | .istore _ => p1i st fun v r => set1 L x (some (.int v)) fun L => nxt P a K d k (pc + n) cs L r h cb sb
    | .istore_n _ => p1i st fun v r => set1 L x (some (.int v)) fun L => nxt P a K d k (pc + n) cs L r h cb sb
    | .lstore _ => p1l st fun v r => set2 L x (some (.long v)) fun L => nxt P a K d k (pc + n) cs L r h cb sb
    | .lstore_n _ => p1l st fun v r => set2 L x (some (.long v)) fun L => nxt P a K d k (pc + n) cs L r h cb sb
    | .astore _ => match st with
      | .ref v :: r => set1 L x (some (.ref v)) fun L => nxt P a K d k (pc + n) cs L r h cb sb
      | .retAddr v :: r => set1 L x (some (.retAddr v)) fun L => nxt P a K d k (pc + n) cs L r h cb sb
      | _ => False
    | .astore_n _ => match st with
      | .ref v :: r => set1 L x (some (.ref v)) fun L => nxt P a K d k (pc + n) cs L r h cb sb
      | .retAddr v :: r => set1 L x (some (.retAddr v)) fun L => nxt P a K d k (pc + n) cs L r h cb sb
      | _ => False
    | .iinc _ _ => ldI L x fun v => cI y fun w => set1 L x (some (.int (v + w))) fun L => nxt P a K d k (pc + n) cs L st h cb sb
    | .iadd => p2i st fun u v r => nxt P a K d k (pc + n) cs L (.int (u + v) :: r) h cb sb
    | .isub => p2i st fun u v r => nxt P a K d k (pc + n) cs L (.int (u - v) :: r) h cb sb
    | .imul => p2i st fun u v r => nxt P a K d k (pc + n) cs L (.int (u * v) :: r) h cb sb
    | .iand => p2i st fun u v r => nxt P a K d k (pc + n) cs L (.int (u &&& v) :: r) h cb sb
    | .ior => p2i st fun u v r => nxt P a K d k (pc + n) cs L (.int (u ||| v) :: r) h cb sb
    | .idiv => p2i st fun u v r => ¬ v = 0 ∧ nxt P a K d k (pc + n) cs L (.int (u / v) :: r) h cb sb
    | .irem => p2i st fun u v r => ¬ v = 0 ∧ nxt P a K d k (pc + n) cs L (.int (u - u / v * v) :: r) h cb sb
    | .ineg => p1i st fun v r => nxt P a K d k (pc + n) cs L (.int (-v) :: r) h cb sb
    | .ishl => p2i st fun u v r => nxt P a K d k (pc + n) cs L (.int (u <<< (v &&& 31)) :: r) h cb sb
    | .ishr => p2i st fun u v r => nxt P a K d k (pc + n) cs L (.int (u >>> (v &&& 31)) :: r) h cb sb
    | .iushr => p2i st fun u v r => nxt P a K d k (pc + n) cs L (.int (u.toUInt32 >>> (v.toUInt32 &&& Int32.toUInt32 31)).toInt32 :: r) h cb sb
    | .i2l => p1i st fun v r => nxt P a K d k (pc + n) cs L (.long v.toInt64 :: r) h cb sb
    | .i2b => p1i st fun v r => nxt P a K d k (pc + n) cs L (.int v.toInt8.toInt32 :: r) h cb sb
    | .i2c => p1i st fun v r => nxt P a K d k (pc + n) cs L (.int (v.toUInt32 % 65536).toInt32 :: r) h cb sb
    | .l2i => p1l st fun v r => nxt P a K d k (pc + n) cs L (.int v.toInt32 :: r) h cb sb
    | .ladd => p2l st fun u v r => nxt P a K d k (pc + n) cs L (.long (u + v) :: r) h cb sb
    | .lsub => p2l st fun u v r => nxt P a K d k (pc + n) cs L (.long (u - v) :: r) h cb sb
    | .lmul => p2l st fun u v r => nxt P a K d k (pc + n) cs L (.long (u * v) :: r) h cb sb
    | .land => p2l st fun u v r => nxt P a K d k (pc + n) cs L (.long (u &&& v) :: r) h cb sb
    | .lor => p2l st fun u v r => nxt P a K d k (pc + n) cs L (.long (u ||| v) :: r) h cb sb
    | .lxor => p2l st fun u v r => nxt P a K d k (pc + n) cs L (.long (u ^^^ v) :: r) h cb sb
    | .ldiv => p2l st fun u v r => ¬ v = 0 ∧ nxt P a K d k (pc + n) cs L (.long (u / v) :: r) h cb sb
    | .lrem => p2l st fun u v r => ¬ v = 0 ∧ nxt P a K d k (pc + n) cs L (.long (u - u / v * v) :: r) h cb sb
    | .lneg => p1l st fun v r => nxt P a K d k (pc + n) cs L (.long (-v) :: r) h cb sb
    | .lshl => plj st fun u v r => nxt P a K d k (pc + n) cs L (.long (u <<< (v.toInt64 &&& 63)) :: r) h cb sb
    | .lshr => plj st fun u v r => nxt P a K d k (pc + n) cs L (.long (u >>> (v.toInt64 &&& 63)) :: r) h cb sb
    | .lushr => plj st fun u v r => nxt P a K d k (pc + n) cs L (.long (u.toUInt64 >>> (v.toInt64.toUInt64 &&& Int64.toUInt64 63)).toInt64 :: r) h cb sb
    | .dup => match st with | .ref v :: r => nxt P a K d k (pc + n) cs L (.ref v :: .ref v :: r) h cb sb | .int v :: r => nxt P a K d k (pc + n) cs L (.int v :: .int v :: r) h cb sb | _ => False
    | .dup_x1 => match st with
      | .int v :: .ref w :: r => nxt P a K d k (pc + n) cs L (.int v :: .ref w :: .int v :: r) h cb sb
      | _ => False
    | .pop => match st with | .ref _ :: r => nxt P a K d k (pc + n) cs L r h cb sb | .int _ :: r => nxt P a K d k (pc + n) cs L r h cb sb | _ => False
    | .pop2 => p1l st fun _ r => nxt P a K d k (pc + n) cs L r h cb sb
    | .ifCond c _ => p1i st fun v r => condI c v 0 (jmp P a K d k x L r h cb sb) (nxt P a K d k (pc + n) cs L r h cb sb)
    | .if_icmp c _ => p2i st fun u v r => condI c u v (jmp P a K d k x L r h cb sb) (nxt P a K d k (pc + n) cs L r h cb sb)
    | .lcmp => p2l st fun u v r => match cs with
      | (pc2, j, n2, x2, _, _, fl) :: cs2 => match Nat.beq pc2 (pc + n) && !fl with
        | true => match j with
          | .ifCond c _ => condL c u v (jmp P a K d k x2 L r h cb sb) (nxt P a K d k (pc2 + n2) cs2 L r h cb sb)
          | _ => False
        | false => False
      | [] => False
    | .goto _ => jmp P a K d k x L st h cb sb
    | .ifnonnull _ => match st with
      | .ref _ :: r => jmp P a K d k x L r h cb sb
      | .retAddr _ :: r => jmp P a K d k x L r h cb sb
      | _ => False
    | .tableswitch _ _ _ _ => p1i st fun v r => match nth kS z with
      | some l => swi l v (fun t => jmp P a K d k t L r h cb sb) x
      | none => False
    | .getfield _ => gtf h st x y fun v r => nxt P a K d k (pc + n) cs L (v :: r) h cb sb
    | .putfield _ => ptf h st x y fun h r => nxt P a K d k (pc + n) cs L r h cb sb
    | .getstatic _ => match x with
      | 0 => nxt P a K d k (pc + n) cs L (.int 1 :: st) h cb sb
      | 1 => nxt P a K d k (pc + n) cs L (.retAddr 50 :: st) h cb sb
      | 2 => nxt P a K d k (pc + n) cs L (.retAddr 51 :: st) h cb sb
      | _ => False
    | .iaload => alI P h st fun v r => nxt P a K d k (pc + n) cs L (v :: r) h cb sb
    | .baload => alB h st fun v r => nxt P a K d k (pc + n) cs L (v :: r) h cb sb
    | .laload => alL h st fun v r => nxt P a K d k (pc + n) cs L (v :: r) h cb sb
    | .aaload => alA h st fun v r => nxt P a K d k (pc + n) cs L (v :: r) h cb sb
    | .iastore => asI h st fun h r => nxt P a K d k (pc + n) cs L r h cb sb
    | .bastore => asB h st fun h r => nxt P a K d k (pc + n) cs L r h cb sb
    | .lastore => asL h st fun h r => nxt P a K d k (pc + n) cs L r h cb sb
    | .arraylength => aln P h st fun v r => nxt P a K d k (pc + n) cs L (v :: r) h cb sb
    | .ldc _ => match y with
      | 0 => cI x fun v => nxt P a K d k (pc + n) cs L (.int v :: st) h cb sb
      | 1 => match Nat.blt x 3 with | true => nxt P a K d k (pc + n) cs L (.retAddr (10 + x) :: st) h cb sb | false => False
      | _ => False
    | .new _ => match Nat.ble 100 x with
      | true => match mEx a with
        | [] => (1 ≤ cb ∧ 6 ≤ sb ∧ 6 ≤ d ∧ catS st ≤ 8) ∧ ∀ j, K (.inr (x - 100)) (h ++ List.replicate j junk)
        | _ :: _ => False
      | false => match Nat.ble 5 x with
        | true => False
        | false => (1 ≤ cb ∧ y ≤ sb) ∧ nxt P a K d k (pc + n) cs L (.ref h.length :: st) (h ++ [.inr (x, mDf x)]) (cb - 1) (sb - y)
    | .newarray _ => p1i st fun v r => (¬ v < 0 ∧ 1 ≤ cb ∧ v.toNatClampNeg ≤ sb ∧ v.toNatClampNeg ≤ 67108864) ∧ match x with
      | 0 => nxt P a K d k (pc + n) cs L (.ref h.length :: r) (h ++ [.inl (0, v.toNatClampNeg, .inl (fun _ => 0))]) (cb - 1) (sb - v.toNatClampNeg)
      | 1 => nxt P a K d k (pc + n) cs L (.ref h.length :: r) (h ++ [.inl (1, v.toNatClampNeg, .inl (fun _ => 0))]) (cb - 1) (sb - v.toNatClampNeg)
      | 2 => nxt P a K d k (pc + n) cs L (.ref h.length :: r) (h ++ [.inl (2, v.toNatClampNeg, .inr (.inl (fun _ => 0)))]) (cb - 1) (sb - v.toNatClampNeg)
      | _ => False
    | .invokestatic _ => match z with
      | 0 => popN y st [] fun as r => cal P a K d k pc n cs L h cb sb x as r
      | 8 => popN y st [] fun as r => cal P a K d k pc n cs L h cb sb x as r
      | _ => False
    | .invokevirtual _ => match Nat.beq (z / 16) 1 || Nat.beq (z / 16) 2 || Nat.beq (z / 16) 3 with
      | true => popN (y + 1) st [] fun as r => match as with
        | .ref i :: as' => match nth h i with
          | some (.inr (ci, _)) => match Nat.beq ci (z % 16) with
            | true => cal P a K d k pc n cs L h cb sb x (.ref i :: as') r
            | false => False
          | _ => False
        | .retAddr c :: as' => match Nat.beq (z % 16) 0 && Nat.ble 10 c && Nat.blt c 13 with
          | true => cal P a K d k pc n cs L h cb sb x (.retAddr c :: as') r
          | false => False
        | _ => False
      | false => False
    | .invokespecial _ => match z with
      | 4 => popN (y + 1) st [] fun as r => match as with
        | .ref i :: as' => match nth h i with
          | some (.inr (ci, _)) => match Nat.blt ci 5 with
            | true => cal P a K d k pc n cs L h cb sb x (.ref i :: as') r
            | false => False
          | _ => False
        | _ => False
      | 5 => popN (y + 1) st [] fun as r => match as with | .ref i :: as' => cal P a K d k pc n cs L h cb sb x (.ref i :: as') r | _ => False
      | 6 => popN (y + 1) st [] fun as r => match as with | .ref i :: as' => cal P a K d k pc n cs L h cb sb x (.ref i :: as') r | _ => False
      | 7 => match st with
        | .ref _ :: r => match Nat.ble (catS r) 8 && Nat.ble 1 d with
          | true => nxt P a K d k (pc + n) cs L r h cb sb
          | false => False
        | _ => False
      | _ => False
    | .return_ => match st with | [] => (match mRet a with | none => K (.inl none) h | some _ => False) | _ :: _ => False
    | .ireturn => p1i st fun v r => match r with
      | [] => match mRet a with
        | some .int => K (.inl (some (.int v))) h
        | some ty => narrow ty (.int v) = .int v ∧ K (.inl (some (.int v))) h
        | none => False
      | _ => False
    | .lreturn => p1l st fun v r => match r with
      | [] => match mRet a with | some .long => K (.inl (some (.long v))) h | _ => False
      | _ => False
    | .areturn => match st with
      | [.ref v] => match isR (mRet a) with | true => K (.inl (some (.ref v))) h | false => False
      | [.retAddr v] => match isR (mRet a) with | true => K (.inl (some (.retAddr v))) h | false => False
      | _ => False
    | _ => False
def run (P : GP) (a : Nat) (K : Kt) (d : Nat) : Nat → Ct
  | 0 => fun cs L st h cb sb => match cs with | [] => False | e :: _ => G P a K d e.1 L st h cb sb
  | n + 1 => fun cs L st h cb sb => match cs with
    | [] => False
    | e :: es => stepI P a K d (run P a K d n) e es L st h cb sb
end
section
/-! what each instruction's entry promises, decided by program; plain facts of the small machine's parts -/
/-- kinds of words: 0 good ones, 1 of nest mates, 2 those of the tables alone -/
def okK (k : Nat) (w : Jvm.Cond) : Bool := match k with | 0 => goodWord w | 1 => isNest w | _ => w.onTables && w.keepsFace
def nmX : List String := ["java/lang/RuntimeException", "java/lang/Exception"]
def mTt (ci : Nat) : u_T := match ci with | 0 => tT0 | 1 => tT1 | 2 => tT2 | 3 => tT3 | _ => tT4
def mNn (ci : Nat) : Nat := match ci with | 0 => 4 | 1 => 4 | 2 => 6 | 3 => 2 | _ => 7
def mCn (ci : Nat) : String := match ci with | 0 => rc_STR | 1 => rc_SB | 2 => rc_X | 3 => rc_O | _ => rc_M
def lnS (x y : Nat) : Bool := decide ((mY x).cls ≠ "java/lang/invoke/MethodHandle" ∧ (mY x).cls ≠ "java/lang/invoke/VarHandle" ∧ (parseMethodDescriptor (mY x).desc).map (fun d => d.parameters.length) = some y) && Nat.ble (mMax x) 81
def oY (x : Nat) : MethodName := ⟨rc_ASB, (mY x).name, (mY x).desc⟩
def fWd (a ix x y : Nat) : Jvm.Cond := .fieldLink (mOwn a) ix (mTt x y).1 (mTt x y).2.1 (mTt x y).2.2.1
def fWn (a ix x y : Nat) : Jvm.Cond := .fieldLinkNest (mOwn a) ix (mTt x y).1 (mTt x y).2.1 (mTt x y).2.2.1 (mOwn a)
/-- the words that an entry needs -/
def lnW (a : Nat) (i : Instr) (x y z : Nat) : List (Nat × Jvm.Cond) := match i with
  | .ldc2_w ix => match nth kJ x with | some v => [(0, .constantLong (mOwn a) ix v)] | none => []
  | .getfield ix => match z with | 1 => [(1, fWn a ix x y)] | _ => [(0, fWd a ix x y)]
  | .putfield ix => match z with | 1 => [(1, fWn a ix x y)] | _ => [(0, fWd a ix x y)]
  | .getstatic ix => match x with
    | 0 => [(0, .fieldLink (mOwn a) ix "java/lang/String" "COMPACT_STRINGS" "Z")]
    | 1 => [(0, .fieldLink (mOwn a) ix "java/lang/Integer" "DigitTens" "[B")]
    | 2 => [(0, .fieldLink (mOwn a) ix "java/lang/Integer" "DigitOnes" "[B")]
    | _ => []
  | .ldc ix => match y with
    | 0 => match nth kI x with | some v => [(0, .constant (mOwn a) ix v)] | none => []
    | _ => []
  | .new ix => match Nat.ble 100 x with
    | true => [(0, .classLink (mOwn a) ix (exN (x - 100))), (0, .initialized (exN (x - 100)))]
    | false => match Nat.ble 5 x with
      | true => []
      | false => [(0, .classLink (mOwn a) ix (mCn x)), (0, .instantiable (mCn x) (mNn x)), (0, .initialized (mCn x))]
  | .newarray _ => match x with | 0 => [(0, .arrayClass .byte)] | 1 => [(0, .arrayClass .int)] | 2 => [(0, .arrayClass .long)] | _ => []
  | .invokestatic ix => match z with
    | 0 => [(0, .methodLink (mOwn a) ix (mY x)), (0, .static (mY x)), (0, .initialized (mY x).cls), (0, headw x)]
    | 8 => [(0, .methodLink (mOwn a) ix (mY x)), (0, .static (mY x)), (0, .initialized (mY x).cls), (0, headw x)]
    | _ => []
  | .invokevirtual ix => match z / 16 with
    | 1 => [(0, .methodLink (mOwn a) ix (mY x)), (0, .instanceMethod (mY x)), (0, .selects (mCn (z % 16)) (mY x) (mY x)), (0, .initialized (mCn (z % 16))), (0, headw x)]
    | 2 => [(0, .methodLink (mOwn a) ix (mY x)), (0, .sameMethod (mY x).cls (mY x).cls (mY x).name (mY x).desc), (0, .selects (mCn (z % 16)) (mY x) (mY x)), (0, .instanceMethod (mY x)), (0, .initialized (mY x).cls), (0, headw x)]
    | 3 => [(0, .methodLink (mOwn a) ix (oY x)), (0, .sameMethod rc_ASB rc_ASB (mY x).name (mY x).desc), (0, .instanceMethod (oY x)), (0, .selects (mCn (z % 16)) (oY x) (mY x)), (0, .instanceMethod (mY x)), (0, .initialized (mY x).cls), (0, headw x), (0, headw n_ASB_length)]
    | _ => []
  | .invokespecial ix => match z with
    | 4 => [(0, .methodLink (mOwn a) ix (mY x)), (0, .sameMethod (mY x).cls (mY x).cls (mY x).name (mY x).desc), (0, .superclass (mOwn a) (mY x).cls), (0, .instanceMethod (mY x)), (0, .initialized (mY x).cls), (0, headw x)]
    | 5 => [(0, .methodLink (mOwn a) ix (mY x)), (0, .instanceMethod (mY x)), (0, .initialized (mY x).cls), (0, headw x)]
    | 6 => [(1, .methodLinkNest (mOwn a) ix (mY x) (mOwn a)), (0, .instanceMethod (mY x)), (0, .initialized (mY x).cls), (0, headw x)]
    | 7 => [(0, .methodLink (mOwn a) ix Lib.objectInit), (0, .instanceMethod Lib.objectInit), (0, .code Lib.objectInit ⟨#[0xb1]⟩ 1 none)]
    | _ => []
  | _ => []
def lnk (a pc : Nat) (i : Instr) (n x y z : Nat) : Bool := match i with
  | .iconst v => Nat.beq n 1 && decide (nth kI x = some (Int32.ofInt v))
  | .bipush v => Nat.beq n 2 && decide (nth kI x = some (Int8.ofInt v).toInt32)
  | .sipush v => Nat.beq n 3 && decide (nth kI x = some (Int16.ofInt v).toInt32)
  | .lconst v => Nat.beq n 1 && decide (nth kJ x = some (Int64.ofNat (v : Nat)))
  | .ldc2_w ix => Nat.beq n 3
  | .iload j => Nat.beq n 2 && Nat.beq j x
  | .iload_n j => Nat.beq n 1 && Nat.beq j.val x
  | .lload j => Nat.beq n 2 && Nat.beq j x
  | .lload_n j => Nat.beq n 1 && Nat.beq j.val x
  | .aload j => Nat.beq n 2 && Nat.beq j x
  | .aload_n j => Nat.beq n 1 && Nat.beq j.val x
  | .istore j => Nat.beq n 2 && Nat.beq j x
  | .istore_n j => Nat.beq n 1 && Nat.beq j.val x
  | .lstore j => Nat.beq n 2 && Nat.beq j x
  | .lstore_n j => Nat.beq n 1 && Nat.beq j.val x
  | .astore j => Nat.beq n 2 && Nat.beq j x
  | .astore_n j => Nat.beq n 1 && Nat.beq j.val x
  | .iinc j v => Nat.beq n 3 && Nat.beq j x && decide (nth kI y = some (Int32.ofInt v))
  | .ifCond _ o => Nat.beq n 3 && decide ((pc : Int) + o = (x : Int))
  | .if_icmp _ o => Nat.beq n 3 && decide ((pc : Int) + o = (x : Int))
  | .goto o => Nat.beq n 3 && decide ((pc : Int) + o = (x : Int))
  | .ifnonnull o => Nat.beq n 3 && decide ((pc : Int) + o = (x : Int))
  | .tableswitch df lo hi offs => decide ((pc : Int) + df = (x : Int)) && decide (lo = 0) && match nth kS z with
    | some l => decide (hi + 1 = (l.length : Int)) && (List.range l.length).all (fun j => decide (∃ q, nth l j = some q ∧ q.1.toInt = (j : Int) ∧ ∃ o, offs[j]? = some o ∧ (pc : Int) + o = (q.2 : Int)))
    | none => false
  | .getfield _ => Nat.beq n 3 && Nat.blt x 5 && Nat.blt y (mNn x) && Nat.blt z 2
  | .putfield _ => Nat.beq n 3 && Nat.blt x 5 && Nat.blt y (mNn x) && match z with
    | 0 => !(mTt x y).2.2.2
    | 1 => !(mTt x y).2.2.2
    | 2 => (mTt x y).2.2.2 && decide ((mY a).name = "<init>") && decide ((mTt x y).1 = mOwn a)
    | _ => false
  | .getstatic _ => Nat.beq n 3
  | .ldc ix => Nat.beq n 2 && match y with
    | 1 => (match Nat.blt x 3 with | true => (match nth LTx x with | some t => decide (t.1 = mOwn a) && Nat.beq t.2.1 ix | none => false) | false => true)
    | _ => true
  | .new ix => Nat.beq n 3 && match Nat.ble 100 x with
    | true => decide (decode (mCode a) (pc + 3) = .ok (.dup, 1)) && decide (decode (mCode a) (pc + 4) = .ok (.ldc y, 2)) && decide (decode (mCode a) (pc + 6) = .ok (.invokespecial z, 3)) && decide (decode (mCode a) (pc + 9) = .ok (.athrow, 1)) &&
      (LR.any (fun q => decide (q.1 = mOwn a) && Nat.beq q.2.1 y)) && decide (mOwn a = rc_X) && decide (nth kZ (x - 100) = some z) && Nat.blt x 102
    | false => match Nat.ble 5 x with
      | true => true
      | false => Nat.beq y (mNn x)
  | .newarray t => Nat.beq n 2 && (match x with
    | 0 => decide (t = .byte)
    | 1 => decide (t = .int)
    | 2 => decide (t = .long)
    | _ => false)
  | .invokestatic _ => Nat.beq n 3 && match z with
    | 0 => lnS x y && decide (mEx x = [])
    | 8 => lnS x y && decide (mEx x ≠ [])
    | _ => true
  | .invokevirtual _ => Nat.beq n 3 && match z / 16 with
    | 1 => lnS x y && decide (mEx x = []) && decide ((mY x).cls = mCn (z % 16)) && Nat.blt (z % 16) 5
    | 2 => lnS x y && decide (mEx x = []) && Nat.blt (z % 16) 5
    | 3 => lnS x y && decide (mEx x = []) && Nat.blt (z % 16) 5 && decide (oY x = mY n_ASB_length) && decide (mEx n_ASB_length = [])
    | _ => true
  | .invokespecial _ => Nat.beq n 3 && match z with
    | 4 => lnS x y && decide (mEx x = []) && decide ((mY x).name ≠ "<init>")
    | 5 => lnS x y && decide (mEx x = []) && decide ((mY x).name = "<init>") && decide (mRet x = none)
    | 6 => lnS x y && decide (mEx x = []) && decide ((mY x).name = "<init>") && decide (mRet x = none)
    | _ => true
  | .checkcast _ => Nat.beq n 3
  | .ldc_w _ => Nat.beq n 3
  | .multianewarray _ _ => Nat.beq n 4
  | _ => Nat.beq n 1
def chkE (a : Nat) (e : Ent) : Bool := decide (decode (mCode a) e.1 = .ok (e.2.1, e.2.2.1)) && lnk a e.1 e.2.1 e.2.2.1 e.2.2.2.1 e.2.2.2.2.1 e.2.2.2.2.2.1
def wlE (a : Nat) (e : Ent) : List (Nat × Jvm.Cond) := lnW a e.2.1 e.2.2.2.1 e.2.2.2.2.1 e.2.2.2.2.2.1
def OkE (a : Nat) (e : Ent) : Prop := chkE a e = true ∧ ∀ q ∈ wlE a e, q.2 ∈ lT ∧ okK q.1 q.2 = true
def clsL : List String := [rc_D, rc_A, rc_R, rc_W, rc_X, rc_M, rc_O, rc_K, rc_SB, rc_ASB, rc_STR, rc_INT, rc_LNG, rc_ARR, rc_AS, rc_L1]
theorem clsL_ok : ∀ c ∈ clsL, plainName c = true := by decide +kernel
def mathL : List MethodName := [y_MA_floorDiv, y_MA_abs, y_MA_max_II, y_MA_max_JJ, y_MA_min_II, y_MA_min_JJ]
theorem mathL_ok : ∀ y ∈ mathL, plainFor y = true := by decide +kernel
def exOkB (a : Nat) : Bool := ((clsL.any (fun c => decide (c = (mY a).cls)) || mathL.any (fun y => decide (y = mY a))) && decide ((mY a).cls = mOwn a)) && (mEx a).all (fun x => decide (mOwn a = rc_K) && match catE kC x.2.2.2 with | some E => Nat.blt E 2 | none => false)
def AllOk (a : Nat) : Prop := (∀ ch ∈ mChk a, ∀ e ∈ ch.2.2, OkE a e) ∧ exOkB a = true
def wlA (a : Nat) : List (Nat × Jvm.Cond) := (mChk a).flatMap (fun ch => ch.2.2.flatMap (wlE a))
def allOkB (a : Nat) (ps : List Nat) : Bool := exOkB a && ((mChk a).all (fun ch => ch.2.2.all (chkE a)) && (decide ((wlA a).map (fun q => some q.2) = ps.map (nth lT)) && (wlA a).all (fun q => okK q.1 q.2)))
theorem nth_mem {α : Type} {l : List α} {n : Nat} {x : α} (h : nth l n = some x) : x ∈ l := by
  rw [nth_eq] at h
  exact List.mem_of_getElem? h
theorem allOk_of {a : Nat} (ps : List Nat) (h : allOkB a ps = true) : AllOk a := by
  unfold allOkB at h
  simp only [Bool.and_eq_true, decide_eq_true_eq] at h
  obtain ⟨h0, h1, h2, h3⟩ := h
  refine ⟨?_, h0⟩
  intro ch hc e he
  refine ⟨List.all_eq_true.mp (List.all_eq_true.mp h1 ch hc) e he, fun q hq => ?_⟩
  have hq2 : q ∈ wlA a := List.mem_flatMap.mpr ⟨ch, hc, List.mem_flatMap.mpr ⟨e, he, hq⟩⟩
  refine ⟨?_, List.all_eq_true.mp h3 q hq2⟩
  have h4 : some q.2 ∈ (wlA a).map (fun q => some q.2) := List.mem_map.mpr ⟨q, hq2, rfl⟩
  rw [h2] at h4
  obtain ⟨p, -, hp⟩ := List.mem_map.mp h4
  exact nth_mem hp
def chkD (cc : ByteArray) (a : Nat) (e : Ent) : Bool := decide (decode cc e.1 = .ok (e.2.1, e.2.2.1)) && lnk a e.1 e.2.1 e.2.2.1 e.2.2.2.1 e.2.2.2.2.1 e.2.2.2.2.2.1
theorem okD {a : Nat} {cc : ByteArray} (hc : mCode a = cc) {es : List Ent} (ps : List Nat) (h1 : es.all (chkD cc a) = true) (h2 : decide ((es.flatMap (wlE a)).map (fun q => some q.2) = ps.map (nth lT)) = true) (h3 : (es.flatMap (wlE a)).all (fun q => okK q.1 q.2) = true) : ∀ e ∈ es, OkE a e := by
  intro e he
  have e1 := List.all_eq_true.mp h1 e he
  subst hc
  refine ⟨e1, fun q hq => ?_⟩
  have hq2 : q ∈ es.flatMap (wlE a) := List.mem_flatMap.mpr ⟨e, he, hq⟩
  refine ⟨?_, List.all_eq_true.mp h3 q hq2⟩
  have h4 : some q.2 ∈ (es.flatMap (wlE a)).map (fun q => some q.2) := List.mem_map.mpr ⟨q, hq2, rfl⟩
  rw [of_decide_eq_true h2] at h4
  obtain ⟨p, -, hp⟩ := List.mem_map.mp h4
  exact nth_mem hp
theorem okCh {a : Nat} {es : List Ent} (ps : List Nat) (h : (es.all (chkE a) && (decide ((es.flatMap (wlE a)).map (fun q => some q.2) = ps.map (nth lT)) && (es.flatMap (wlE a)).all (fun q => okK q.1 q.2))) = true) : ∀ e ∈ es, OkE a e := by
  simp only [Bool.and_eq_true, decide_eq_true_eq] at h
  obtain ⟨h1, h2, h3⟩ := h
  intro e he
  refine ⟨List.all_eq_true.mp h1 e he, fun q hq => ?_⟩
  have hq2 : q ∈ es.flatMap (wlE a) := List.mem_flatMap.mpr ⟨e, he, hq⟩
  refine ⟨?_, List.all_eq_true.mp h3 q hq2⟩
  have h4 : some q.2 ∈ (es.flatMap (wlE a)).map (fun q => some q.2) := List.mem_map.mpr ⟨q, hq2, rfl⟩
  rw [h2] at h4
  obtain ⟨p, -, hp⟩ := List.mem_map.mp h4
  exact nth_mem hp
theorem TB_in {w : Jvm.Cond} (h : w ∈ lT ∧ okK 0 w = true) : w ∈ TB := List.mem_filter.mpr ⟨h.1, h.2⟩
theorem WN_in {w : Jvm.Cond} (h : w ∈ lT ∧ okK 1 w = true) : w ∈ WN := List.mem_filter.mpr ⟨h.1, h.2⟩
theorem TB_good {w : Jvm.Cond} (h : w ∈ TB) : goodWord w = true := (List.mem_filter.mp h).2
def IsE (a : Nat) (cs : List Ent) : Prop := ∀ e ∈ cs, OkE a e
theorem seekE_in : ∀ (es : List Ent) (pc : Nat), ∀ e ∈ seekE es pc, e ∈ es
  | [], _, e, h => by simp [seekE] at h
  | x :: es, pc, e, h => by
    unfold seekE at h
    split at h
    · exact h
    · exact List.mem_cons_of_mem _ (seekE_in es pc e h)
theorem seekE_hd : ∀ (es : List Ent) (pc : Nat) (e : Ent) (r : List Ent), seekE es pc = e :: r → e.1 = pc
  | [], _, e, r, h => by simp [seekE] at h
  | x :: es, pc, e, r, h => by
    unfold seekE at h
    split at h
    · rename_i hb
      cases h
      exact Nat.eq_of_beq_eq_true hb
    · exact seekE_hd es pc e r h
theorem seekC_in : ∀ (cs : List Chk) (pc : Nat), ∀ e ∈ seekC cs pc, ∃ ch ∈ cs, e ∈ ch.2.2
  | [], _, e, h => by simp [seekC] at h
  | x :: cs, pc, e, h => by
    unfold seekC at h
    split at h
    · exact ⟨x, List.mem_cons_self, seekE_in _ _ e h⟩
    · obtain ⟨ch, h1, h2⟩ := seekC_in cs pc e h
      exact ⟨ch, List.mem_cons_of_mem _ h1, h2⟩
theorem seekC_hd : ∀ (cs : List Chk) (pc : Nat) (e : Ent) (r : List Ent), seekC cs pc = e :: r → e.1 = pc
  | [], _, e, r, h => by simp [seekC] at h
  | x :: cs, pc, e, r, h => by
    unfold seekC at h
    split at h
    · exact seekE_hd _ _ e r h
    · exact seekC_hd cs pc e r h
theorem isE_seek {a : Nat} (h : AllOk a) (t : Nat) : IsE a (seekC (mChk a) t) := fun e he => by
  obtain ⟨ch, h1, h2⟩ := seekC_in _ _ e he
  exact h.1 ch h1 e h2
/-- what is known of k: where it stands, the method comes to its end -/
def Goes1 (P : GP) (a : Nat) (K : Kt) (d : Nat) (k : Ct) : Prop := ∀ (e : Ent) (es : List Ent) (L : mLs) (st : List Value) (h : mH) (cb sb : Nat), IsE a (e :: es) → k (e :: es) L st h cb sb → G P a K d e.1 L st h cb sb
theorem nxt_go {P : GP} {a : Nat} {K : Kt} {d : Nat} {k : Ct} {pc : Nat} {cs : List Ent} {L : mLs} {st : List Value} {h : mH} {cb sb : Nat} (hk : Goes1 P a K d k) (hc : IsE a cs) (q : nxt P a K d k pc cs L st h cb sb) : G P a K d pc L st h cb sb := by
  unfold nxt at q
  split at q
  · exact q
  · split at q
    · rename_i hb
      have e1 := Nat.eq_of_beq_eq_true hb
      split at q
      · rw [← e1]; exact q
      · rw [← e1]; exact hk _ _ _ _ _ _ _ hc q
    · exact q.elim
theorem jmp_go {P : GP} {a : Nat} {K : Kt} {d : Nat} {k : Ct} {t : Nat} {L : mLs} {st : List Value} {h : mH} {cb sb : Nat} (hk : Goes1 P a K d k) (hA : AllOk a) (q : jmp P a K d k t L st h cb sb) : G P a K d t L st h cb sb := nxt_go hk (isE_seek hA t) q
/-! locals -/
theorem lvl_mem (P : GP) : ∀ (L : mLs) (i j : Nat) (v : Value), nth L j = some (some v) → (i + j, mV P v) ∈ lvl P i L
  | [], _, _, _, h => by simp [nth] at h
  | none :: t, i, 0, v, h => by simp [nth] at h
  | some w :: t, i, 0, v, h => by
    simp only [nth, Option.some.injEq] at h
    subst h
    exact List.mem_cons_self
  | none :: t, i, j + 1, v, h => by
    have := lvl_mem P t (i + 1) j v h
    rw [show i + (j + 1) = i + 1 + j by omega]
    exact this
  | some w :: t, i, j + 1, v, h => by
    have := lvl_mem P t (i + 1) j v h
    rw [show i + (j + 1) = i + 1 + j by omega]
    exact List.mem_cons_of_mem _ this
theorem lvl_of (P : GP) : ∀ (L : mLs) (i : Nat) (q : Nat × Value), q ∈ lvl P i L → ∃ j v, nth L j = some (some v) ∧ q = (i + j, mV P v)
  | [], _, _, h => by simp [lvl] at h
  | none :: t, i, q, h => by
    obtain ⟨j, v, h1, h2⟩ := lvl_of P t (i + 1) q h
    exact ⟨j + 1, v, h1, by rw [h2]; congr 1; omega⟩
  | some w :: t, i, q, h => by
    rcases List.mem_cons.mp h with h | h
    · exact ⟨0, w, rfl, h⟩
    · obtain ⟨j, v, h1, h2⟩ := lvl_of P t (i + 1) q h
      exact ⟨j + 1, v, h1, by rw [h2]; congr 1; omega⟩
theorem LV_at {P : GP} {ls : Array Slot} {n : Nat} {L : mLs} (h : LV P ls n L) {j : Nat} {v : Value} (hj : nth L j = some (some v)) : ls[j]? = some (.val (mV P v)) := by
  have := h.1.2.2 _ (lvl_mem P L 0 j v hj)
  rwa [Nat.zero_add] at this
theorem set1_of : ∀ (L : mLs) (i : Nat) (v : Option Value) (f : mLs → Prop), set1 L i v f → ∃ L', f L' ∧ L'.length = L.length ∧ i < L.length ∧ ∀ j w, nth L' j = some (some w) → (j = i ∧ v = some w) ∨ (j ≠ i ∧ nth L j = some (some w) ∧ ¬ (j + 1 = i ∧ cat2 (some w) = true))
  | [], 0, v, f, h => h.elim
  | [], 1, v, f, h => h.elim
  | [], n + 2, v, f, h => h.elim
  | x :: t, 0, v, f, h => by
    refine ⟨v :: t, h, rfl, by simp, fun j w hj => ?_⟩
    cases j with
    | zero => exact Or.inl ⟨rfl, by simpa [nth] using hj⟩
    | succ j => exact Or.inr ⟨by omega, hj, by omega⟩
  | [x], 1, v, f, h => h.elim
  | x :: y :: t, 1, v, f, h => by
    unfold set1 at h
    split at h
    · refine ⟨none :: v :: t, h, rfl, by simp, fun j w hj => ?_⟩
      match j, hj with
      | 0, hj => simp [nth] at hj
      | 1, hj => exact Or.inl ⟨rfl, by simpa [nth] using hj⟩
      | j + 2, hj => exact Or.inr ⟨by omega, hj, by omega⟩
    · rename_i hc
      refine ⟨x :: v :: t, h, rfl, by simp, fun j w hj => ?_⟩
      match j, hj with
      | 0, hj =>
        refine Or.inr ⟨by omega, hj, fun q => ?_⟩
        have hx : x = some w := by simpa [nth] using hj
        rw [← hx, hc] at q
        exact absurd q.2 (by decide)
      | 1, hj => exact Or.inl ⟨rfl, by simpa [nth] using hj⟩
      | j + 2, hj => exact Or.inr ⟨by omega, hj, by omega⟩
  | x :: t, n + 2, v, f, h => by
    unfold set1 at h
    obtain ⟨L', h1, h2, h3, h4⟩ := set1_of t (n + 1) v _ h
    refine ⟨x :: L', h1, by simp [h2], by simp; omega, fun j w hj => ?_⟩
    cases j with
    | zero => exact Or.inr ⟨by omega, hj, by omega⟩
    | succ j =>
      rcases h4 j w hj with ⟨q1, q2⟩ | ⟨q1, q2, q3⟩
      · exact Or.inl ⟨by omega, q2⟩
      · exact Or.inr ⟨by omega, q2, fun q => q3 ⟨by omega, q.2⟩⟩
theorem set2_of : ∀ (L : mLs) (i : Nat) (v : Option Value) (f : mLs → Prop), set2 L i v f → ∃ L', f L' ∧ L'.length = L.length ∧ i + 1 < L.length ∧ ∀ j w, nth L' j = some (some w) → (j = i ∧ v = some w) ∨ (j ≠ i ∧ j ≠ i + 1 ∧ nth L j = some (some w) ∧ ¬ (j + 1 = i ∧ cat2 (some w) = true))
  | [], 0, v, f, h => h.elim
  | [], 1, v, f, h => h.elim
  | [], n + 2, v, f, h => h.elim
  | [x], 0, v, f, h => h.elim
  | x :: y :: t, 0, v, f, h => by
    refine ⟨v :: none :: t, h, rfl, by simp, fun j w hj => ?_⟩
    match j, hj with
    | 0, hj => exact Or.inl ⟨rfl, by simpa [nth] using hj⟩
    | 1, hj => simp [nth] at hj
    | j + 2, hj => exact Or.inr ⟨by omega, by omega, hj, by omega⟩
  | [x], 1, v, f, h => h.elim
  | [x, y], 1, v, f, h => h.elim
  | x :: y :: z :: t, 1, v, f, h => by
    unfold set2 at h
    split at h
    · refine ⟨none :: v :: none :: t, h, rfl, by simp, fun j w hj => ?_⟩
      match j, hj with
      | 0, hj => simp [nth] at hj
      | 1, hj => exact Or.inl ⟨rfl, by simpa [nth] using hj⟩
      | 2, hj => simp [nth] at hj
      | j + 3, hj => exact Or.inr ⟨by omega, by omega, hj, by omega⟩
    · rename_i hc
      refine ⟨x :: v :: none :: t, h, rfl, by simp, fun j w hj => ?_⟩
      match j, hj with
      | 0, hj =>
        refine Or.inr ⟨by omega, by omega, hj, fun q => ?_⟩
        have hx : x = some w := by simpa [nth] using hj
        rw [← hx, hc] at q
        exact absurd q.2 (by decide)
      | 1, hj => exact Or.inl ⟨rfl, by simpa [nth] using hj⟩
      | 2, hj => simp [nth] at hj
      | j + 3, hj => exact Or.inr ⟨by omega, by omega, hj, by omega⟩
  | x :: t, n + 2, v, f, h => by
    simp only [set2] at h
    obtain ⟨L', h1, h2, h3, h4⟩ := set2_of t (n + 1) v _ h
    refine ⟨x :: L', h1, by simp [h2], by simp; omega, fun j w hj => ?_⟩
    cases j with
    | zero => exact Or.inr ⟨by omega, by omega, hj, by omega⟩
    | succ j =>
      rcases h4 j w hj with ⟨q1, q2⟩ | ⟨q1, q2, q3, q4⟩
      · exact Or.inl ⟨by omega, q2⟩
      · exact Or.inr ⟨by omega, by omega, q3, fun q => q4 ⟨by omega, q.2⟩⟩
theorem mV_cat (P : GP) (v : Value) : (mV P v).category = v.category := by cases v <;> rfl
theorem cat2_iff (v : Value) : cat2 (some v) = true ↔ v.category = 2 := by cases v <;> simp [cat2, Value.category]
theorem LV_set1 {P : GP} {ls ls' : Array Slot} {n i : Nat} {L L' : mLs} {v : Option Value} {w0 : Value} (h : LV P ls n L) (h2 : L'.length = L.length) (h4 : ∀ j w, nth L' j = some (some w) → (j = i ∧ v = some w) ∨ (j ≠ i ∧ nth L j = some (some w) ∧ ¬ (j + 1 = i ∧ cat2 (some w) = true)))
    (hv : ∀ w, v = some w → w0 = mV P w) (hl : lv_has ls' n ((i, w0) :: (lvl P 0 L).filter (fun q => !(q.1 == i) && !(q.1 + 1 == i && q.2.category == 2)))) : LV P ls' n L' := by
  refine ⟨⟨hl.1, hl.2.1, fun q hq => hl.2.2 q ?_⟩, by rw [h2]; exact h.2⟩
  obtain ⟨j, w, hj, rfl⟩ := lvl_of P L' 0 q hq
  rw [Nat.zero_add]
  rcases h4 j w hj with ⟨rfl, hw⟩ | ⟨q1, q2, q3⟩
  · rw [hv w hw]
    exact List.mem_cons_self
  · refine List.mem_cons_of_mem _ (List.mem_filter.mpr ⟨?_, ?_⟩)
    · have := lvl_mem P L 0 j w q2
      rwa [Nat.zero_add] at this
    · rw [cat2_iff] at q3
      simp only [mV_cat, Bool.and_eq_true, Bool.not_eq_true', beq_eq_false_iff_ne, ne_eq, Bool.and_eq_false_iff]
      refine ⟨q1, ?_⟩
      by_cases e : j + 1 = i
      · exact Or.inr (fun q => q3 ⟨e, q⟩)
      · exact Or.inl e
theorem LV_set2 {P : GP} {ls ls' : Array Slot} {n i : Nat} {L L' : mLs} {v : Option Value} {w0 : Value} (h : LV P ls n L) (h2 : L'.length = L.length) (h4 : ∀ j w, nth L' j = some (some w) → (j = i ∧ v = some w) ∨ (j ≠ i ∧ j ≠ i + 1 ∧ nth L j = some (some w) ∧ ¬ (j + 1 = i ∧ cat2 (some w) = true)))
    (hv : ∀ w, v = some w → w0 = mV P w) (hl : lv_has ls' n ((i, w0) :: (lvl P 0 L).filter (fun q => !(q.1 == i) && (!(q.1 == i + 1) && !(q.1 + 1 == i && q.2.category == 2))))) : LV P ls' n L' := by
  refine ⟨⟨hl.1, hl.2.1, fun q hq => hl.2.2 q ?_⟩, by rw [h2]; exact h.2⟩
  obtain ⟨j, w, hj, rfl⟩ := lvl_of P L' 0 q hq
  rw [Nat.zero_add]
  rcases h4 j w hj with ⟨rfl, hw⟩ | ⟨q1, q1b, q2, q3⟩
  · rw [hv w hw]
    exact List.mem_cons_self
  · refine List.mem_cons_of_mem _ (List.mem_filter.mpr ⟨?_, ?_⟩)
    · have := lvl_mem P L 0 j w q2
      rwa [Nat.zero_add] at this
    · rw [cat2_iff] at q3
      simp only [mV_cat, Bool.and_eq_true, Bool.not_eq_true', beq_eq_false_iff_ne, ne_eq, Bool.and_eq_false_iff]
      refine ⟨q1, q1b, ?_⟩
      by_cases e : j + 1 = i
      · exact Or.inr (fun q => q3 ⟨e, q⟩)
      · exact Or.inl e
end
section
/-! THE SMALL MACHINE IS THE MACHINE: each step of it, by the kit's rows -/
section SIM
variable {P : GP} {a : Nat} {K : Kt} {d : Nat}
/-- W of the frame that G speaks of, its hypotheses at hand -/
def GW (P : GP) (a : Nat) (K : Kt) (p : Program) (e : Jvm.Env) (R : Room) (s : State) (m : MethodId) (args : Array Value) (below : List Frame) (meth : Method) (c : Code) (H : Heap) (locs : List Loc) (cells slots : Nat) (pc : Nat) (ls : Array Slot) (st : List Value) : Prop :=
  W p (gl P) e R s m args below meth c H locs cells slots (vx_MQ below (QcK P K) (XcK P K) args s R.cells R.slots (gF P)) (F0 m pc ls (st.map (mV P)))
theorem dec_of {a : Nat} {pc : Nat} {i : Instr} {n x y z : Nat} {f : Bool} (h : OkE a (pc, i, n, x, y, z, f)) : decode (mCode a) pc = .ok (i, n) ∧ lnk a pc i n x y z = true ∧ ∀ q ∈ lnW a i x y z, q.2 ∈ lT ∧ okK q.1 q.2 = true := by
  obtain ⟨h1, h2⟩ := h
  unfold chkE at h1
  simp only [Bool.and_eq_true, decide_eq_true_eq] at h1
  exact ⟨h1.1, h1.2, h2⟩
theorem Fx_hx {p : Program} {R : Room} {s : State} {m : MethodId} {args : Array Value} {meth : Method} {c : Code} (F : Fx P a d p R s m args meth c) : p.tables.exec = Jvm.exec ∧ c.code = mCode a := ⟨F.1, F.2.1⟩
/-- a step that leaves the heap as it is: from the row to G -/
theorem G_of {pc : Nat} {L : mLs} {st : List Value} {h : mH} {cb sb : Nat}
    (k : ∀ (p : Program) (e : Jvm.Env) (R : Room) (s : State) (m : MethodId) (args : Array Value) (below : List Frame) (meth : Method) (c : Code) (H : Heap) (locs : List Loc) (cells slots : Nat) (ls : Array Slot),
      Fx P a d p R s m args meth c → Dy P R s H locs cells slots h cb sb → LV P ls (mMax a) L → p.tables.exec = Jvm.exec → c.code = mCode a →
      W p (gl P) e R s m args below meth c H locs cells slots (vx_MQ below (QcK P K) (XcK P K) args s R.cells R.slots (gF P)) (F0 m pc ls (st.map (mV P)))) : G P a K d pc L st h cb sb :=
  fun p e R s m args below meth c H locs cells slots ls F Y V => k p e R s m args below meth c H locs cells slots ls F Y V F.1 F.2.1
theorem p2i_of {st : List Value} {f : Int32 → Int32 → List Value → Prop} (h : p2i st f) : ∃ x y r, st = .int y :: .int x :: r ∧ f x y r := by
  unfold p2i at h
  split at h
  · exact ⟨_, _, _, rfl, h⟩
  · exact h.elim
theorem p1i_of {st : List Value} {f : Int32 → List Value → Prop} (h : p1i st f) : ∃ x r, st = .int x :: r ∧ f x r := by
  unfold p1i at h
  split at h
  · exact ⟨_, _, rfl, h⟩
  · exact h.elim
theorem p2l_of {st : List Value} {f : Int64 → Int64 → List Value → Prop} (h : p2l st f) : ∃ x y r, st = .long y :: .long x :: r ∧ f x y r := by
  unfold p2l at h
  split at h
  · exact ⟨_, _, _, rfl, h⟩
  · exact h.elim
theorem p1l_of {st : List Value} {f : Int64 → List Value → Prop} (h : p1l st f) : ∃ x r, st = .long x :: r ∧ f x r := by
  unfold p1l at h
  split at h
  · exact ⟨_, _, rfl, h⟩
  · exact h.elim
theorem plj_of {st : List Value} {f : Int64 → Int32 → List Value → Prop} (h : plj st f) : ∃ x y r, st = .int y :: .long x :: r ∧ f x y r := by
  unfold plj at h
  split at h
  · exact ⟨_, _, _, rfl, h⟩
  · exact h.elim
theorem ldI_of {L : mLs} {i : Nat} {f : Int32 → Prop} (h : ldI L i f) : ∃ x, nth L i = some (some (.int x)) ∧ f x := by
  unfold ldI at h
  split at h
  · exact ⟨_, by assumption, h⟩
  · exact h.elim
theorem ldL_of {L : mLs} {i : Nat} {f : Int64 → Prop} (h : ldL L i f) : ∃ x, nth L i = some (some (.long x)) ∧ f x := by
  unfold ldL at h
  split at h
  · exact ⟨_, by assumption, h⟩
  · exact h.elim
theorem ldA_of {L : mLs} {i : Nat} {f : Value → Prop} (h : ldA L i f) : ∃ v, nth L i = some (some v) ∧ f v ∧ (v = .null ∨ ∃ b : Nat, mV P v = .ref b) := by
  unfold ldA at h
  split at h
  · exact ⟨_, by assumption, h, Or.inr ⟨_, rfl⟩⟩
  · exact ⟨_, by assumption, h, Or.inr ⟨_, rfl⟩⟩
  · exact ⟨_, by assumption, h, Or.inl rfl⟩
  · exact h.elim
theorem cI_of {i : Nat} {f : Int32 → Prop} (h : cI i f) : ∃ v, nth kI i = some v ∧ f v := by
  unfold cI at h
  split at h
  · exact ⟨_, by assumption, h⟩
  · exact h.elim
theorem cJ_of {i : Nat} {f : Int64 → Prop} (h : cJ i f) : ∃ v, nth kJ i = some v ∧ f v := by
  unfold cJ at h
  split at h
  · exact ⟨_, by assumption, h⟩
  · exact h.elim
variable {k : Ct} {es : List Ent} {pc n x y z : Nat} {fl : Bool} {L : mLs} {st : List Value} {h : mH} {cb sb : Nat}
theorem s_iadd (hk : Goes1 P a K d k) (hA : AllOk a) (o : OkE a (pc, .iadd, n, x, y, z, fl)) (ho : IsE a es) (q : stepI P a K d k (pc, .iadd, n, x, y, z, fl) es L st h cb sb) : G P a K d pc L st h cb sb := by
  obtain ⟨u, v, r, rfl, qq⟩ := p2i_of q
  obtain ⟨hd, hl, -⟩ := dec_of o
  have hn : n = 1 := Nat.eq_of_beq_eq_true hl
  subst hn
  exact G_of fun p e R s m args below meth c H locs cells slots ls F Y V hx hb => lv_iadd hx hb hd (nxt_go hk ho qq p e R s m args below meth c H locs cells slots _ F Y V)
theorem s_isub (hk : Goes1 P a K d k) (hA : AllOk a) (o : OkE a (pc, .isub, n, x, y, z, fl)) (ho : IsE a es) (q : stepI P a K d k (pc, .isub, n, x, y, z, fl) es L st h cb sb) : G P a K d pc L st h cb sb := by
  obtain ⟨u, v, r, rfl, qq⟩ := p2i_of q
  obtain ⟨hd, hl, -⟩ := dec_of o
  have hn : n = 1 := Nat.eq_of_beq_eq_true hl
  subst hn
  exact G_of fun p e R s m args below meth c H locs cells slots ls F Y V hx hb => lv_isub hx hb hd (nxt_go hk ho qq p e R s m args below meth c H locs cells slots _ F Y V)
theorem s_imul (hk : Goes1 P a K d k) (hA : AllOk a) (o : OkE a (pc, .imul, n, x, y, z, fl)) (ho : IsE a es) (q : stepI P a K d k (pc, .imul, n, x, y, z, fl) es L st h cb sb) : G P a K d pc L st h cb sb := by
  obtain ⟨u, v, r, rfl, qq⟩ := p2i_of q
  obtain ⟨hd, hl, -⟩ := dec_of o
  have hn : n = 1 := Nat.eq_of_beq_eq_true hl
  subst hn
  exact G_of fun p e R s m args below meth c H locs cells slots ls F Y V hx hb => lv_imul hx hb hd (nxt_go hk ho qq p e R s m args below meth c H locs cells slots _ F Y V)
theorem s_iand (hk : Goes1 P a K d k) (hA : AllOk a) (o : OkE a (pc, .iand, n, x, y, z, fl)) (ho : IsE a es) (q : stepI P a K d k (pc, .iand, n, x, y, z, fl) es L st h cb sb) : G P a K d pc L st h cb sb := by
  obtain ⟨u, v, r, rfl, qq⟩ := p2i_of q
  obtain ⟨hd, hl, -⟩ := dec_of o
  have hn : n = 1 := Nat.eq_of_beq_eq_true hl
  subst hn
  exact G_of fun p e R s m args below meth c H locs cells slots ls F Y V hx hb => lv_iand hx hb hd (nxt_go hk ho qq p e R s m args below meth c H locs cells slots _ F Y V)
theorem s_ior (hk : Goes1 P a K d k) (hA : AllOk a) (o : OkE a (pc, .ior, n, x, y, z, fl)) (ho : IsE a es) (q : stepI P a K d k (pc, .ior, n, x, y, z, fl) es L st h cb sb) : G P a K d pc L st h cb sb := by
  obtain ⟨u, v, r, rfl, qq⟩ := p2i_of q
  obtain ⟨hd, hl, -⟩ := dec_of o
  have hn : n = 1 := Nat.eq_of_beq_eq_true hl
  subst hn
  exact G_of fun p e R s m args below meth c H locs cells slots ls F Y V hx hb => lv_ior hx hb hd (nxt_go hk ho qq p e R s m args below meth c H locs cells slots _ F Y V)
theorem s_idiv (hk : Goes1 P a K d k) (hA : AllOk a) (o : OkE a (pc, .idiv, n, x, y, z, fl)) (ho : IsE a es) (q : stepI P a K d k (pc, .idiv, n, x, y, z, fl) es L st h cb sb) : G P a K d pc L st h cb sb := by
  obtain ⟨u, v, r, rfl, hne, qq⟩ := p2i_of q
  obtain ⟨hd, hl, -⟩ := dec_of o
  have hn : n = 1 := Nat.eq_of_beq_eq_true hl
  subst hn
  exact G_of fun p e R s m args below meth c H locs cells slots ls F Y V hx hb => lv_idiv hx hb hd hne (nxt_go hk ho qq p e R s m args below meth c H locs cells slots _ F Y V)
theorem s_irem (hk : Goes1 P a K d k) (hA : AllOk a) (o : OkE a (pc, .irem, n, x, y, z, fl)) (ho : IsE a es) (q : stepI P a K d k (pc, .irem, n, x, y, z, fl) es L st h cb sb) : G P a K d pc L st h cb sb := by
  obtain ⟨u, v, r, rfl, hne, qq⟩ := p2i_of q
  obtain ⟨hd, hl, -⟩ := dec_of o
  have hn : n = 1 := Nat.eq_of_beq_eq_true hl
  subst hn
  exact G_of fun p e R s m args below meth c H locs cells slots ls F Y V hx hb => lv_irem hx hb hd hne (nxt_go hk ho qq p e R s m args below meth c H locs cells slots _ F Y V)
theorem s_ishl (hk : Goes1 P a K d k) (hA : AllOk a) (o : OkE a (pc, .ishl, n, x, y, z, fl)) (ho : IsE a es) (q : stepI P a K d k (pc, .ishl, n, x, y, z, fl) es L st h cb sb) : G P a K d pc L st h cb sb := by
  obtain ⟨u, v, r, rfl, qq⟩ := p2i_of q
  obtain ⟨hd, hl, -⟩ := dec_of o
  have hn : n = 1 := Nat.eq_of_beq_eq_true hl
  subst hn
  exact G_of fun p e R s m args below meth c H locs cells slots ls F Y V hx hb => lv_ishl hx hb hd (nxt_go hk ho qq p e R s m args below meth c H locs cells slots _ F Y V)
theorem s_ishr (hk : Goes1 P a K d k) (hA : AllOk a) (o : OkE a (pc, .ishr, n, x, y, z, fl)) (ho : IsE a es) (q : stepI P a K d k (pc, .ishr, n, x, y, z, fl) es L st h cb sb) : G P a K d pc L st h cb sb := by
  obtain ⟨u, v, r, rfl, qq⟩ := p2i_of q
  obtain ⟨hd, hl, -⟩ := dec_of o
  have hn : n = 1 := Nat.eq_of_beq_eq_true hl
  subst hn
  exact G_of fun p e R s m args below meth c H locs cells slots ls F Y V hx hb => lv_ishr hx hb hd (nxt_go hk ho qq p e R s m args below meth c H locs cells slots _ F Y V)
theorem s_iushr (hk : Goes1 P a K d k) (hA : AllOk a) (o : OkE a (pc, .iushr, n, x, y, z, fl)) (ho : IsE a es) (q : stepI P a K d k (pc, .iushr, n, x, y, z, fl) es L st h cb sb) : G P a K d pc L st h cb sb := by
  obtain ⟨u, v, r, rfl, qq⟩ := p2i_of q
  obtain ⟨hd, hl, -⟩ := dec_of o
  have hn : n = 1 := Nat.eq_of_beq_eq_true hl
  subst hn
  exact G_of fun p e R s m args below meth c H locs cells slots ls F Y V hx hb => lv_iushr hx hb hd rfl (nxt_go hk ho qq p e R s m args below meth c H locs cells slots _ F Y V)
theorem s_ineg (hk : Goes1 P a K d k) (hA : AllOk a) (o : OkE a (pc, .ineg, n, x, y, z, fl)) (ho : IsE a es) (q : stepI P a K d k (pc, .ineg, n, x, y, z, fl) es L st h cb sb) : G P a K d pc L st h cb sb := by
  obtain ⟨v, r, rfl, qq⟩ := p1i_of q
  obtain ⟨hd, hl, -⟩ := dec_of o
  have hn : n = 1 := Nat.eq_of_beq_eq_true hl
  subst hn
  exact G_of fun p e R s m args below meth c H locs cells slots ls F Y V hx hb => lv_ineg hx hb hd (nxt_go hk ho qq p e R s m args below meth c H locs cells slots _ F Y V)
theorem s_i2l (hk : Goes1 P a K d k) (hA : AllOk a) (o : OkE a (pc, .i2l, n, x, y, z, fl)) (ho : IsE a es) (q : stepI P a K d k (pc, .i2l, n, x, y, z, fl) es L st h cb sb) : G P a K d pc L st h cb sb := by
  obtain ⟨v, r, rfl, qq⟩ := p1i_of q
  obtain ⟨hd, hl, -⟩ := dec_of o
  have hn : n = 1 := Nat.eq_of_beq_eq_true hl
  subst hn
  exact G_of fun p e R s m args below meth c H locs cells slots ls F Y V hx hb => lv_i2l hx hb hd rfl (nxt_go hk ho qq p e R s m args below meth c H locs cells slots _ F Y V)
theorem s_i2b (hk : Goes1 P a K d k) (hA : AllOk a) (o : OkE a (pc, .i2b, n, x, y, z, fl)) (ho : IsE a es) (q : stepI P a K d k (pc, .i2b, n, x, y, z, fl) es L st h cb sb) : G P a K d pc L st h cb sb := by
  obtain ⟨v, r, rfl, qq⟩ := p1i_of q
  obtain ⟨hd, hl, -⟩ := dec_of o
  have hn : n = 1 := Nat.eq_of_beq_eq_true hl
  subst hn
  exact G_of fun p e R s m args below meth c H locs cells slots ls F Y V hx hb => lv_i2b hx hb hd rfl (nxt_go hk ho qq p e R s m args below meth c H locs cells slots _ F Y V)
theorem s_i2c (hk : Goes1 P a K d k) (hA : AllOk a) (o : OkE a (pc, .i2c, n, x, y, z, fl)) (ho : IsE a es) (q : stepI P a K d k (pc, .i2c, n, x, y, z, fl) es L st h cb sb) : G P a K d pc L st h cb sb := by
  obtain ⟨v, r, rfl, qq⟩ := p1i_of q
  obtain ⟨hd, hl, -⟩ := dec_of o
  have hn : n = 1 := Nat.eq_of_beq_eq_true hl
  subst hn
  exact G_of fun p e R s m args below meth c H locs cells slots ls F Y V hx hb => lv_i2c hx hb hd rfl (nxt_go hk ho qq p e R s m args below meth c H locs cells slots _ F Y V)
theorem s_l2i (hk : Goes1 P a K d k) (hA : AllOk a) (o : OkE a (pc, .l2i, n, x, y, z, fl)) (ho : IsE a es) (q : stepI P a K d k (pc, .l2i, n, x, y, z, fl) es L st h cb sb) : G P a K d pc L st h cb sb := by
  obtain ⟨v, r, rfl, qq⟩ := p1l_of q
  obtain ⟨hd, hl, -⟩ := dec_of o
  have hn : n = 1 := Nat.eq_of_beq_eq_true hl
  subst hn
  exact G_of fun p e R s m args below meth c H locs cells slots ls F Y V hx hb => lv_l2i hx hb hd rfl (nxt_go hk ho qq p e R s m args below meth c H locs cells slots _ F Y V)
theorem s_lneg (hk : Goes1 P a K d k) (hA : AllOk a) (o : OkE a (pc, .lneg, n, x, y, z, fl)) (ho : IsE a es) (q : stepI P a K d k (pc, .lneg, n, x, y, z, fl) es L st h cb sb) : G P a K d pc L st h cb sb := by
  obtain ⟨v, r, rfl, qq⟩ := p1l_of q
  obtain ⟨hd, hl, -⟩ := dec_of o
  have hn : n = 1 := Nat.eq_of_beq_eq_true hl
  subst hn
  exact G_of fun p e R s m args below meth c H locs cells slots ls F Y V hx hb => lv_lneg hx hb hd (nxt_go hk ho qq p e R s m args below meth c H locs cells slots _ F Y V)
theorem s_ladd (hk : Goes1 P a K d k) (hA : AllOk a) (o : OkE a (pc, .ladd, n, x, y, z, fl)) (ho : IsE a es) (q : stepI P a K d k (pc, .ladd, n, x, y, z, fl) es L st h cb sb) : G P a K d pc L st h cb sb := by
  obtain ⟨u, v, r, rfl, qq⟩ := p2l_of q
  obtain ⟨hd, hl, -⟩ := dec_of o
  have hn : n = 1 := Nat.eq_of_beq_eq_true hl
  subst hn
  exact G_of fun p e R s m args below meth c H locs cells slots ls F Y V hx hb => lv_ladd hx hb hd (nxt_go hk ho qq p e R s m args below meth c H locs cells slots _ F Y V)
theorem s_lsub (hk : Goes1 P a K d k) (hA : AllOk a) (o : OkE a (pc, .lsub, n, x, y, z, fl)) (ho : IsE a es) (q : stepI P a K d k (pc, .lsub, n, x, y, z, fl) es L st h cb sb) : G P a K d pc L st h cb sb := by
  obtain ⟨u, v, r, rfl, qq⟩ := p2l_of q
  obtain ⟨hd, hl, -⟩ := dec_of o
  have hn : n = 1 := Nat.eq_of_beq_eq_true hl
  subst hn
  exact G_of fun p e R s m args below meth c H locs cells slots ls F Y V hx hb => lv_lsub hx hb hd (nxt_go hk ho qq p e R s m args below meth c H locs cells slots _ F Y V)
theorem s_lmul (hk : Goes1 P a K d k) (hA : AllOk a) (o : OkE a (pc, .lmul, n, x, y, z, fl)) (ho : IsE a es) (q : stepI P a K d k (pc, .lmul, n, x, y, z, fl) es L st h cb sb) : G P a K d pc L st h cb sb := by
  obtain ⟨u, v, r, rfl, qq⟩ := p2l_of q
  obtain ⟨hd, hl, -⟩ := dec_of o
  have hn : n = 1 := Nat.eq_of_beq_eq_true hl
  subst hn
  exact G_of fun p e R s m args below meth c H locs cells slots ls F Y V hx hb => lv_lmul hx hb hd (nxt_go hk ho qq p e R s m args below meth c H locs cells slots _ F Y V)
theorem s_land (hk : Goes1 P a K d k) (hA : AllOk a) (o : OkE a (pc, .land, n, x, y, z, fl)) (ho : IsE a es) (q : stepI P a K d k (pc, .land, n, x, y, z, fl) es L st h cb sb) : G P a K d pc L st h cb sb := by
  obtain ⟨u, v, r, rfl, qq⟩ := p2l_of q
  obtain ⟨hd, hl, -⟩ := dec_of o
  have hn : n = 1 := Nat.eq_of_beq_eq_true hl
  subst hn
  exact G_of fun p e R s m args below meth c H locs cells slots ls F Y V hx hb => lv_land hx hb hd (nxt_go hk ho qq p e R s m args below meth c H locs cells slots _ F Y V)
theorem s_lor (hk : Goes1 P a K d k) (hA : AllOk a) (o : OkE a (pc, .lor, n, x, y, z, fl)) (ho : IsE a es) (q : stepI P a K d k (pc, .lor, n, x, y, z, fl) es L st h cb sb) : G P a K d pc L st h cb sb := by
  obtain ⟨u, v, r, rfl, qq⟩ := p2l_of q
  obtain ⟨hd, hl, -⟩ := dec_of o
  have hn : n = 1 := Nat.eq_of_beq_eq_true hl
  subst hn
  exact G_of fun p e R s m args below meth c H locs cells slots ls F Y V hx hb => lv_lor hx hb hd (nxt_go hk ho qq p e R s m args below meth c H locs cells slots _ F Y V)
theorem s_lxor (hk : Goes1 P a K d k) (hA : AllOk a) (o : OkE a (pc, .lxor, n, x, y, z, fl)) (ho : IsE a es) (q : stepI P a K d k (pc, .lxor, n, x, y, z, fl) es L st h cb sb) : G P a K d pc L st h cb sb := by
  obtain ⟨u, v, r, rfl, qq⟩ := p2l_of q
  obtain ⟨hd, hl, -⟩ := dec_of o
  have hn : n = 1 := Nat.eq_of_beq_eq_true hl
  subst hn
  exact G_of fun p e R s m args below meth c H locs cells slots ls F Y V hx hb => lv_lxor hx hb hd (nxt_go hk ho qq p e R s m args below meth c H locs cells slots _ F Y V)
theorem s_ldiv (hk : Goes1 P a K d k) (hA : AllOk a) (o : OkE a (pc, .ldiv, n, x, y, z, fl)) (ho : IsE a es) (q : stepI P a K d k (pc, .ldiv, n, x, y, z, fl) es L st h cb sb) : G P a K d pc L st h cb sb := by
  obtain ⟨u, v, r, rfl, hne, qq⟩ := p2l_of q
  obtain ⟨hd, hl, -⟩ := dec_of o
  have hn : n = 1 := Nat.eq_of_beq_eq_true hl
  subst hn
  exact G_of fun p e R s m args below meth c H locs cells slots ls F Y V hx hb => lv_ldiv hx hb hd hne (nxt_go hk ho qq p e R s m args below meth c H locs cells slots _ F Y V)
theorem s_lrem (hk : Goes1 P a K d k) (hA : AllOk a) (o : OkE a (pc, .lrem, n, x, y, z, fl)) (ho : IsE a es) (q : stepI P a K d k (pc, .lrem, n, x, y, z, fl) es L st h cb sb) : G P a K d pc L st h cb sb := by
  obtain ⟨u, v, r, rfl, hne, qq⟩ := p2l_of q
  obtain ⟨hd, hl, -⟩ := dec_of o
  have hn : n = 1 := Nat.eq_of_beq_eq_true hl
  subst hn
  exact G_of fun p e R s m args below meth c H locs cells slots ls F Y V hx hb => lv_lrem hx hb hd hne (nxt_go hk ho qq p e R s m args below meth c H locs cells slots _ F Y V)
theorem s_lshl (hk : Goes1 P a K d k) (hA : AllOk a) (o : OkE a (pc, .lshl, n, x, y, z, fl)) (ho : IsE a es) (q : stepI P a K d k (pc, .lshl, n, x, y, z, fl) es L st h cb sb) : G P a K d pc L st h cb sb := by
  obtain ⟨u, v, r, rfl, qq⟩ := plj_of q
  obtain ⟨hd, hl, -⟩ := dec_of o
  have hn : n = 1 := Nat.eq_of_beq_eq_true hl
  subst hn
  exact G_of fun p e R s m args below meth c H locs cells slots ls F Y V hx hb => lv_lshl hx hb hd rfl (nxt_go hk ho qq p e R s m args below meth c H locs cells slots _ F Y V)
theorem s_lshr (hk : Goes1 P a K d k) (hA : AllOk a) (o : OkE a (pc, .lshr, n, x, y, z, fl)) (ho : IsE a es) (q : stepI P a K d k (pc, .lshr, n, x, y, z, fl) es L st h cb sb) : G P a K d pc L st h cb sb := by
  obtain ⟨u, v, r, rfl, qq⟩ := plj_of q
  obtain ⟨hd, hl, -⟩ := dec_of o
  have hn : n = 1 := Nat.eq_of_beq_eq_true hl
  subst hn
  exact G_of fun p e R s m args below meth c H locs cells slots ls F Y V hx hb => lv_lshr hx hb hd rfl (nxt_go hk ho qq p e R s m args below meth c H locs cells slots _ F Y V)
theorem s_lushr (hk : Goes1 P a K d k) (hA : AllOk a) (o : OkE a (pc, .lushr, n, x, y, z, fl)) (ho : IsE a es) (q : stepI P a K d k (pc, .lushr, n, x, y, z, fl) es L st h cb sb) : G P a K d pc L st h cb sb := by
  obtain ⟨u, v, r, rfl, qq⟩ := plj_of q
  obtain ⟨hd, hl, -⟩ := dec_of o
  have hn : n = 1 := Nat.eq_of_beq_eq_true hl
  subst hn
  exact G_of fun p e R s m args below meth c H locs cells slots ls F Y V hx hb => lv_lushr hx hb hd rfl (nxt_go hk ho qq p e R s m args below meth c H locs cells slots _ F Y V)
theorem s_iconst {v0 : Int} (hk : Goes1 P a K d k) (hA : AllOk a) (o : OkE a (pc, .iconst v0, n, x, y, z, fl)) (ho : IsE a es) (q : stepI P a K d k (pc, .iconst v0, n, x, y, z, fl) es L st h cb sb) : G P a K d pc L st h cb sb := by
  obtain ⟨v, hv, qq⟩ := cI_of q
  obtain ⟨hd, hl, -⟩ := dec_of o
  unfold lnk at hl
  simp only [Bool.and_eq_true, decide_eq_true_eq] at hl
  have hn : n = 1 := Nat.eq_of_beq_eq_true hl.1
  subst hn
  exact G_of fun p e R s m args below meth c H locs cells slots ls F Y V hx hb => lv_iconst hx hb hd (Option.some.inj (hl.2.symm.trans hv)) (nxt_go hk ho qq p e R s m args below meth c H locs cells slots _ F Y V)
theorem s_bipush {v0 : Int} (hk : Goes1 P a K d k) (hA : AllOk a) (o : OkE a (pc, .bipush v0, n, x, y, z, fl)) (ho : IsE a es) (q : stepI P a K d k (pc, .bipush v0, n, x, y, z, fl) es L st h cb sb) : G P a K d pc L st h cb sb := by
  obtain ⟨v, hv, qq⟩ := cI_of q
  obtain ⟨hd, hl, -⟩ := dec_of o
  unfold lnk at hl
  simp only [Bool.and_eq_true, decide_eq_true_eq] at hl
  have hn : n = 2 := Nat.eq_of_beq_eq_true hl.1
  subst hn
  exact G_of fun p e R s m args below meth c H locs cells slots ls F Y V hx hb => lv_bipush hx hb hd (Option.some.inj (hl.2.symm.trans hv)) (nxt_go hk ho qq p e R s m args below meth c H locs cells slots _ F Y V)
theorem s_sipush {v0 : Int} (hk : Goes1 P a K d k) (hA : AllOk a) (o : OkE a (pc, .sipush v0, n, x, y, z, fl)) (ho : IsE a es) (q : stepI P a K d k (pc, .sipush v0, n, x, y, z, fl) es L st h cb sb) : G P a K d pc L st h cb sb := by
  obtain ⟨v, hv, qq⟩ := cI_of q
  obtain ⟨hd, hl, -⟩ := dec_of o
  unfold lnk at hl
  simp only [Bool.and_eq_true, decide_eq_true_eq] at hl
  have hn : n = 3 := Nat.eq_of_beq_eq_true hl.1
  subst hn
  exact G_of fun p e R s m args below meth c H locs cells slots ls F Y V hx hb => lv_sipush hx hb hd (Option.some.inj (hl.2.symm.trans hv)) (nxt_go hk ho qq p e R s m args below meth c H locs cells slots _ F Y V)
theorem s_lconst {v0 : Fin 2} (hk : Goes1 P a K d k) (hA : AllOk a) (o : OkE a (pc, .lconst v0, n, x, y, z, fl)) (ho : IsE a es) (q : stepI P a K d k (pc, .lconst v0, n, x, y, z, fl) es L st h cb sb) : G P a K d pc L st h cb sb := by
  obtain ⟨v, hv, qq⟩ := cJ_of q
  obtain ⟨hd, hl, -⟩ := dec_of o
  unfold lnk at hl
  simp only [Bool.and_eq_true, decide_eq_true_eq] at hl
  have hn : n = 1 := Nat.eq_of_beq_eq_true hl.1
  subst hn
  exact G_of fun p e R s m args below meth c H locs cells slots ls F Y V hx hb => lv_lconst hx hb hd (Option.some.inj (hl.2.symm.trans hv)) (nxt_go hk ho qq p e R s m args below meth c H locs cells slots _ F Y V)
theorem s_aconst_null (hk : Goes1 P a K d k) (hA : AllOk a) (o : OkE a (pc, .aconst_null, n, x, y, z, fl)) (ho : IsE a es) (q : stepI P a K d k (pc, .aconst_null, n, x, y, z, fl) es L st h cb sb) : G P a K d pc L st h cb sb := by
  have qq : nxt P a K d k (pc + n) es L (.null :: st) h cb sb := q
  obtain ⟨hd, hl, -⟩ := dec_of o
  have hn : n = 1 := Nat.eq_of_beq_eq_true hl
  subst hn
  exact G_of fun p e R s m args below meth c H locs cells slots ls F Y V hx hb => lv_null hx hb hd (nxt_go hk ho qq p e R s m args below meth c H locs cells slots _ F Y V)
theorem s_ldc2_w {ix : Nat} (hk : Goes1 P a K d k) (hA : AllOk a) (o : OkE a (pc, .ldc2_w ix, n, x, y, z, fl)) (ho : IsE a es) (q : stepI P a K d k (pc, .ldc2_w ix, n, x, y, z, fl) es L st h cb sb) : G P a K d pc L st h cb sb := by
  obtain ⟨v, hv, qq⟩ := cJ_of q
  obtain ⟨hd, hl, hw⟩ := dec_of o
  have hn : n = 3 := Nat.eq_of_beq_eq_true hl
  subst hn
  have hw := TB_in (hw (0, .constantLong (mOwn a) ix v) (by simp [lnW, hv]))
  exact G_of fun p e R s m args below meth c H locs cells slots ls F Y V hx hb => lv_ldc2 hx hb F.2.2.2.2.1 (F.2.2.2.2.2.1 _ hw) hd (nxt_go hk ho qq p e R s m args below meth c H locs cells slots _ F Y V)
theorem s_iload {j : Nat} (hk : Goes1 P a K d k) (hA : AllOk a) (o : OkE a (pc, .iload j, n, x, y, z, fl)) (ho : IsE a es) (q : stepI P a K d k (pc, .iload j, n, x, y, z, fl) es L st h cb sb) : G P a K d pc L st h cb sb := by
  have q : ldI L x fun v => nxt P a K d k (pc + n) es L (.int v :: st) h cb sb := q
  obtain ⟨v, hv, qq⟩ := ldI_of q
  obtain ⟨hd, hl, -⟩ := dec_of o
  unfold lnk at hl
  simp only [Bool.and_eq_true, decide_eq_true_eq] at hl
  have hn : n = 2 := Nat.eq_of_beq_eq_true hl.1
  subst hn
  have hj := Nat.eq_of_beq_eq_true hl.2
  subst hj
  exact G_of fun p e R s m args below meth c H locs cells slots ls F Y V hx hb => lv_iload hx hb hd (LV_at V hv) (nxt_go hk ho qq p e R s m args below meth c H locs cells slots _ F Y V)
theorem s_iload_n {j : Fin 4} (hk : Goes1 P a K d k) (hA : AllOk a) (o : OkE a (pc, .iload_n j, n, x, y, z, fl)) (ho : IsE a es) (q : stepI P a K d k (pc, .iload_n j, n, x, y, z, fl) es L st h cb sb) : G P a K d pc L st h cb sb := by
  have q : ldI L x fun v => nxt P a K d k (pc + n) es L (.int v :: st) h cb sb := q
  obtain ⟨v, hv, qq⟩ := ldI_of q
  obtain ⟨hd, hl, -⟩ := dec_of o
  unfold lnk at hl
  simp only [Bool.and_eq_true, decide_eq_true_eq] at hl
  have hn : n = 1 := Nat.eq_of_beq_eq_true hl.1
  subst hn
  have hj := Nat.eq_of_beq_eq_true hl.2
  exact G_of fun p e R s m args below meth c H locs cells slots ls F Y V hx hb => lv_iload_n hx hb hd hj (LV_at V hv) (nxt_go hk ho qq p e R s m args below meth c H locs cells slots _ F Y V)
theorem s_lload {j : Nat} (hk : Goes1 P a K d k) (hA : AllOk a) (o : OkE a (pc, .lload j, n, x, y, z, fl)) (ho : IsE a es) (q : stepI P a K d k (pc, .lload j, n, x, y, z, fl) es L st h cb sb) : G P a K d pc L st h cb sb := by
  have q : ldL L x fun v => nxt P a K d k (pc + n) es L (.long v :: st) h cb sb := q
  obtain ⟨v, hv, qq⟩ := ldL_of q
  obtain ⟨hd, hl, -⟩ := dec_of o
  unfold lnk at hl
  simp only [Bool.and_eq_true, decide_eq_true_eq] at hl
  have hn : n = 2 := Nat.eq_of_beq_eq_true hl.1
  subst hn
  have hj := Nat.eq_of_beq_eq_true hl.2
  subst hj
  exact G_of fun p e R s m args below meth c H locs cells slots ls F Y V hx hb => lv_lload hx hb hd (LV_at V hv) (nxt_go hk ho qq p e R s m args below meth c H locs cells slots _ F Y V)
theorem s_lload_n {j : Fin 4} (hk : Goes1 P a K d k) (hA : AllOk a) (o : OkE a (pc, .lload_n j, n, x, y, z, fl)) (ho : IsE a es) (q : stepI P a K d k (pc, .lload_n j, n, x, y, z, fl) es L st h cb sb) : G P a K d pc L st h cb sb := by
  have q : ldL L x fun v => nxt P a K d k (pc + n) es L (.long v :: st) h cb sb := q
  obtain ⟨v, hv, qq⟩ := ldL_of q
  obtain ⟨hd, hl, -⟩ := dec_of o
  unfold lnk at hl
  simp only [Bool.and_eq_true, decide_eq_true_eq] at hl
  have hn : n = 1 := Nat.eq_of_beq_eq_true hl.1
  subst hn
  have hj := Nat.eq_of_beq_eq_true hl.2
  exact G_of fun p e R s m args below meth c H locs cells slots ls F Y V hx hb => lv_lload_n hx hb hd hj (LV_at V hv) (nxt_go hk ho qq p e R s m args below meth c H locs cells slots _ F Y V)
theorem s_aload {j : Nat} (hk : Goes1 P a K d k) (hA : AllOk a) (o : OkE a (pc, .aload j, n, x, y, z, fl)) (ho : IsE a es) (q : stepI P a K d k (pc, .aload j, n, x, y, z, fl) es L st h cb sb) : G P a K d pc L st h cb sb := by
  have q : ldA L x fun v => nxt P a K d k (pc + n) es L (v :: st) h cb sb := q
  obtain ⟨v, hv, qq, hr⟩ := ldA_of (P := P) q
  obtain ⟨hd, hl, -⟩ := dec_of o
  unfold lnk at hl
  simp only [Bool.and_eq_true, decide_eq_true_eq] at hl
  have hn : n = 2 := Nat.eq_of_beq_eq_true hl.1
  subst hn
  have hj := Nat.eq_of_beq_eq_true hl.2
  subst hj
  rcases hr with rfl | ⟨b, hb9⟩
  · exact G_of fun p e R s m args below meth c H locs cells slots ls F Y V hx hb => lv_aloadN hx hb hd (LV_at V hv) (nxt_go hk ho qq p e R s m args below meth c H locs cells slots _ F Y V)
  · exact G_of fun p e R s m args below meth c H locs cells slots ls F Y V hx hb => by
      refine lv_aload (x := b) hx hb hd (by rw [← hb9]; exact LV_at V hv) ?_
      have := (nxt_go hk ho qq p e R s m args below meth c H locs cells slots _ F Y V)
      rw [List.map_cons, hb9] at this
      exact this
theorem s_aload_n {j : Fin 4} (hk : Goes1 P a K d k) (hA : AllOk a) (o : OkE a (pc, .aload_n j, n, x, y, z, fl)) (ho : IsE a es) (q : stepI P a K d k (pc, .aload_n j, n, x, y, z, fl) es L st h cb sb) : G P a K d pc L st h cb sb := by
  have q : ldA L x fun v => nxt P a K d k (pc + n) es L (v :: st) h cb sb := q
  obtain ⟨v, hv, qq, hr⟩ := ldA_of (P := P) q
  obtain ⟨hd, hl, -⟩ := dec_of o
  unfold lnk at hl
  simp only [Bool.and_eq_true, decide_eq_true_eq] at hl
  have hn : n = 1 := Nat.eq_of_beq_eq_true hl.1
  subst hn
  have hj := Nat.eq_of_beq_eq_true hl.2
  rcases hr with rfl | ⟨b, hb9⟩
  · exact G_of fun p e R s m args below meth c H locs cells slots ls F Y V hx hb => lv_aload_nN hx hb hd hj (LV_at V hv) (nxt_go hk ho qq p e R s m args below meth c H locs cells slots _ F Y V)
  · exact G_of fun p e R s m args below meth c H locs cells slots ls F Y V hx hb => by
      refine lv_aload_n (x := b) hx hb hd hj (by rw [← hb9]; exact LV_at V hv) ?_
      have := (nxt_go hk ho qq p e R s m args below meth c H locs cells slots _ F Y V)
      rw [List.map_cons, hb9] at this
      exact this
theorem s_istore {j : Nat} (hk : Goes1 P a K d k) (hA : AllOk a) (o : OkE a (pc, .istore j, n, x, y, z, fl)) (ho : IsE a es) (q : stepI P a K d k (pc, .istore j, n, x, y, z, fl) es L st h cb sb) : G P a K d pc L st h cb sb := by
  obtain ⟨v, r, rfl, q1⟩ := p1i_of q
  obtain ⟨L2, qq, h2, hlt, h4⟩ := set1_of _ _ _ _ q1
  obtain ⟨hd, hl, -⟩ := dec_of o
  unfold lnk at hl
  simp only [Bool.and_eq_true, decide_eq_true_eq] at hl
  have hn : n = 2 := Nat.eq_of_beq_eq_true hl.1
  subst hn
  have hj := Nat.eq_of_beq_eq_true hl.2
  subst hj
  exact G_of fun p e R s m args below meth c H locs cells slots ls F Y V hx hb => lv_istore hx hb hd V.1 (Nat.lt_of_lt_of_le hlt V.2) rfl (fun ls' hl' =>
    nxt_go hk ho qq p e R s m args below meth c H locs cells slots _ F Y (LV_set1 V h2 h4 (fun w hw => by cases hw; rfl) hl'))
theorem s_istore_n {j : Fin 4} (hk : Goes1 P a K d k) (hA : AllOk a) (o : OkE a (pc, .istore_n j, n, x, y, z, fl)) (ho : IsE a es) (q : stepI P a K d k (pc, .istore_n j, n, x, y, z, fl) es L st h cb sb) : G P a K d pc L st h cb sb := by
  obtain ⟨v, r, rfl, q1⟩ := p1i_of q
  obtain ⟨L2, qq, h2, hlt, h4⟩ := set1_of _ _ _ _ q1
  obtain ⟨hd, hl, -⟩ := dec_of o
  unfold lnk at hl
  simp only [Bool.and_eq_true, decide_eq_true_eq] at hl
  have hn : n = 1 := Nat.eq_of_beq_eq_true hl.1
  subst hn
  have hj := Nat.eq_of_beq_eq_true hl.2
  exact G_of fun p e R s m args below meth c H locs cells slots ls F Y V hx hb => lv_istore_n hx hb hd hj V.1 (Nat.lt_of_lt_of_le hlt V.2) rfl (fun ls' hl' =>
    nxt_go hk ho qq p e R s m args below meth c H locs cells slots _ F Y (LV_set1 V h2 h4 (fun w hw => by cases hw; rfl) hl'))
theorem s_lstore {j : Nat} (hk : Goes1 P a K d k) (hA : AllOk a) (o : OkE a (pc, .lstore j, n, x, y, z, fl)) (ho : IsE a es) (q : stepI P a K d k (pc, .lstore j, n, x, y, z, fl) es L st h cb sb) : G P a K d pc L st h cb sb := by
  obtain ⟨v, r, rfl, q1⟩ := p1l_of q
  obtain ⟨L2, qq, h2, hlt, h4⟩ := set2_of _ _ _ _ q1
  obtain ⟨hd, hl, -⟩ := dec_of o
  unfold lnk at hl
  simp only [Bool.and_eq_true, decide_eq_true_eq] at hl
  have hn : n = 2 := Nat.eq_of_beq_eq_true hl.1
  subst hn
  have hj := Nat.eq_of_beq_eq_true hl.2
  subst hj
  exact G_of fun p e R s m args below meth c H locs cells slots ls F Y V hx hb => lv_lstore hx hb hd V.1 (Nat.lt_of_lt_of_le hlt V.2) rfl (fun ls' hl' =>
    nxt_go hk ho qq p e R s m args below meth c H locs cells slots _ F Y (LV_set2 V h2 h4 (fun w hw => by cases hw; rfl) hl'))
theorem s_lstore_n {j : Fin 4} (hk : Goes1 P a K d k) (hA : AllOk a) (o : OkE a (pc, .lstore_n j, n, x, y, z, fl)) (ho : IsE a es) (q : stepI P a K d k (pc, .lstore_n j, n, x, y, z, fl) es L st h cb sb) : G P a K d pc L st h cb sb := by
  obtain ⟨v, r, rfl, q1⟩ := p1l_of q
  obtain ⟨L2, qq, h2, hlt, h4⟩ := set2_of _ _ _ _ q1
  obtain ⟨hd, hl, -⟩ := dec_of o
  unfold lnk at hl
  simp only [Bool.and_eq_true, decide_eq_true_eq] at hl
  have hn : n = 1 := Nat.eq_of_beq_eq_true hl.1
  subst hn
  have hj := Nat.eq_of_beq_eq_true hl.2
  exact G_of fun p e R s m args below meth c H locs cells slots ls F Y V hx hb => lv_lstore_n hx hb hd hj V.1 (Nat.lt_of_lt_of_le hlt V.2) rfl (fun ls' hl' =>
    nxt_go hk ho qq p e R s m args below meth c H locs cells slots _ F Y (LV_set2 V h2 h4 (fun w hw => by cases hw; rfl) hl'))
theorem s_astore {j : Nat} (hk : Goes1 P a K d k) (hA : AllOk a) (o : OkE a (pc, .astore j, n, x, y, z, fl)) (ho : IsE a es) (q : stepI P a K d k (pc, .astore j, n, x, y, z, fl) es L st h cb sb) : G P a K d pc L st h cb sb := by
  have hq : ∃ v b r, st = v :: r ∧ mV P v = .ref b ∧ set1 L x (some v) fun L => nxt P a K d k (pc + n) es L r h cb sb := by
    unfold stepI at q
    dsimp only at q
    split at q
    · exact ⟨_, _, _, rfl, rfl, q⟩
    · exact ⟨_, _, _, rfl, rfl, q⟩
    · exact q.elim
  obtain ⟨v, b, r, rfl, hb9, q1⟩ := hq
  obtain ⟨L2, qq, h2, hlt, h4⟩ := set1_of _ _ _ _ q1
  obtain ⟨hd, hl, -⟩ := dec_of o
  unfold lnk at hl
  simp only [Bool.and_eq_true, decide_eq_true_eq] at hl
  have hn : n = 2 := Nat.eq_of_beq_eq_true hl.1
  subst hn
  have hj := Nat.eq_of_beq_eq_true hl.2
  subst hj
  exact G_of fun p e R s m args below meth c H locs cells slots ls F Y V hx hb => by
    rw [List.map_cons, hb9]
    exact lv_astore hx hb hd V.1 (Nat.lt_of_lt_of_le hlt V.2) rfl (fun ls' hl' =>
      nxt_go hk ho qq p e R s m args below meth c H locs cells slots _ F Y (LV_set1 V h2 h4 (fun w hw => by cases hw; exact hb9.symm) hl'))
theorem s_astore_n {j : Fin 4} (hk : Goes1 P a K d k) (hA : AllOk a) (o : OkE a (pc, .astore_n j, n, x, y, z, fl)) (ho : IsE a es) (q : stepI P a K d k (pc, .astore_n j, n, x, y, z, fl) es L st h cb sb) : G P a K d pc L st h cb sb := by
  have hq : ∃ v b r, st = v :: r ∧ mV P v = .ref b ∧ set1 L x (some v) fun L => nxt P a K d k (pc + n) es L r h cb sb := by
    unfold stepI at q
    dsimp only at q
    split at q
    · exact ⟨_, _, _, rfl, rfl, q⟩
    · exact ⟨_, _, _, rfl, rfl, q⟩
    · exact q.elim
  obtain ⟨v, b, r, rfl, hb9, q1⟩ := hq
  obtain ⟨L2, qq, h2, hlt, h4⟩ := set1_of _ _ _ _ q1
  obtain ⟨hd, hl, -⟩ := dec_of o
  unfold lnk at hl
  simp only [Bool.and_eq_true, decide_eq_true_eq] at hl
  have hn : n = 1 := Nat.eq_of_beq_eq_true hl.1
  subst hn
  have hj := Nat.eq_of_beq_eq_true hl.2
  exact G_of fun p e R s m args below meth c H locs cells slots ls F Y V hx hb => by
    rw [List.map_cons, hb9]
    exact lv_astore_n hx hb hd hj V.1 (Nat.lt_of_lt_of_le hlt V.2) rfl (fun ls' hl' =>
      nxt_go hk ho qq p e R s m args below meth c H locs cells slots _ F Y (LV_set1 V h2 h4 (fun w hw => by cases hw; exact hb9.symm) hl'))
theorem s_iinc {j : Nat} {v0 : Int} (hk : Goes1 P a K d k) (hA : AllOk a) (o : OkE a (pc, .iinc j v0, n, x, y, z, fl)) (ho : IsE a es) (q : stepI P a K d k (pc, .iinc j v0, n, x, y, z, fl) es L st h cb sb) : G P a K d pc L st h cb sb := by
  have q : ldI L x fun v => cI y fun w => set1 L x (some (.int (v + w))) fun L => nxt P a K d k (pc + n) es L st h cb sb := q
  obtain ⟨v, hv, q1⟩ := ldI_of q
  obtain ⟨w, hw, q2⟩ := cI_of q1
  obtain ⟨L2, qq, h2, hlt, h4⟩ := set1_of _ _ _ _ q2
  obtain ⟨hd, hl, -⟩ := dec_of o
  unfold lnk at hl
  simp only [Bool.and_eq_true, decide_eq_true_eq] at hl
  have hn : n = 3 := Nat.eq_of_beq_eq_true hl.1.1
  subst hn
  have hj := Nat.eq_of_beq_eq_true hl.1.2
  subst hj
  have hw2 : Int32.ofInt v0 = w := Option.some.inj (hl.2.symm.trans hw)
  exact G_of fun p e R s m args below meth c H locs cells slots ls F Y V hx hb => by
    have hm := lvl_mem P L 0 j _ hv
    rw [Nat.zero_add] at hm
    obtain ⟨i9, hi9⟩ := List.getElem?_of_mem hm
    exact lv_iinc (v := v + w) (k := i9) hx hb hd V.1 hi9 (by rw [hw2]) (Nat.lt_of_lt_of_le hlt V.2) rfl (fun ls' hl' =>
      nxt_go hk ho qq p e R s m args below meth c H locs cells slots _ F Y (LV_set1 V h2 h4 (fun w hw => by cases hw; rfl) hl'))
theorem s_pop (hk : Goes1 P a K d k) (hA : AllOk a) (o : OkE a (pc, .pop, n, x, y, z, fl)) (ho : IsE a es) (q : stepI P a K d k (pc, .pop, n, x, y, z, fl) es L st h cb sb) : G P a K d pc L st h cb sb := by
  have hq : ∃ v r, st = v :: r ∧ v.category = 1 ∧ nxt P a K d k (pc + n) es L r h cb sb := by
    unfold stepI at q
    dsimp only at q
    split at q
    · exact ⟨_, _, rfl, rfl, q⟩
    · exact ⟨_, _, rfl, rfl, q⟩
    · exact q.elim
  obtain ⟨v, r, rfl, hc, qq⟩ := hq
  obtain ⟨hd, hl, -⟩ := dec_of o
  have hn : n = 1 := Nat.eq_of_beq_eq_true hl
  subst hn
  exact G_of fun p e R s m args below meth c H locs cells slots ls F Y V hx hb => lv_pop hx hb hd ((mV_cat P v).trans hc) (nxt_go hk ho qq p e R s m args below meth c H locs cells slots _ F Y V)
theorem s_pop2 (hk : Goes1 P a K d k) (hA : AllOk a) (o : OkE a (pc, .pop2, n, x, y, z, fl)) (ho : IsE a es) (q : stepI P a K d k (pc, .pop2, n, x, y, z, fl) es L st h cb sb) : G P a K d pc L st h cb sb := by
  obtain ⟨v, r, rfl, qq⟩ := p1l_of q
  obtain ⟨hd, hl, -⟩ := dec_of o
  have hn : n = 1 := Nat.eq_of_beq_eq_true hl
  subst hn
  exact G_of fun p e R s m args below meth c H locs cells slots ls F Y V hx hb => lv_pop2_2 hx hb hd rfl (nxt_go hk ho qq p e R s m args below meth c H locs cells slots _ F Y V)
theorem s_dup (hk : Goes1 P a K d k) (hA : AllOk a) (o : OkE a (pc, .dup, n, x, y, z, fl)) (ho : IsE a es) (q : stepI P a K d k (pc, .dup, n, x, y, z, fl) es L st h cb sb) : G P a K d pc L st h cb sb := by
  have hq : ∃ v r, st = v :: r ∧ v.category = 1 ∧ nxt P a K d k (pc + n) es L (v :: v :: r) h cb sb := by
    unfold stepI at q
    dsimp only at q
    split at q
    · exact ⟨_, _, rfl, rfl, q⟩
    · exact ⟨_, _, rfl, rfl, q⟩
    · exact q.elim
  obtain ⟨v, r, rfl, hc, qq⟩ := hq
  obtain ⟨hd, hl, -⟩ := dec_of o
  have hn : n = 1 := Nat.eq_of_beq_eq_true hl
  subst hn
  exact G_of fun p e R s m args below meth c H locs cells slots ls F Y V hx hb => lv_dup hx hb hd ((mV_cat P v).trans hc) (nxt_go hk ho qq p e R s m args below meth c H locs cells slots _ F Y V)
theorem s_dup_x1 (hk : Goes1 P a K d k) (hA : AllOk a) (o : OkE a (pc, .dup_x1, n, x, y, z, fl)) (ho : IsE a es) (q : stepI P a K d k (pc, .dup_x1, n, x, y, z, fl) es L st h cb sb) : G P a K d pc L st h cb sb := by
  have hq : ∃ v w r, st = .int v :: .ref w :: r ∧ nxt P a K d k (pc + n) es L (.int v :: .ref w :: .int v :: r) h cb sb := by
    unfold stepI at q
    dsimp only at q
    split at q
    · exact ⟨_, _, _, rfl, q⟩
    · exact q.elim
  obtain ⟨v, w, r, rfl, qq⟩ := hq
  obtain ⟨hd, hl, -⟩ := dec_of o
  have hn : n = 1 := Nat.eq_of_beq_eq_true hl
  subst hn
  exact G_of fun p e R s m args below meth c H locs cells slots ls F Y V hx hb => lv_dup_x1 hx hb hd rfl rfl (nxt_go hk ho qq p e R s m args below meth c H locs cells slots _ F Y V)
theorem s_goto {v0 : Int} (hk : Goes1 P a K d k) (hA : AllOk a) (o : OkE a (pc, .goto v0, n, x, y, z, fl)) (ho : IsE a es) (q : stepI P a K d k (pc, .goto v0, n, x, y, z, fl) es L st h cb sb) : G P a K d pc L st h cb sb := by
  have qq : jmp P a K d k x L st h cb sb := q
  obtain ⟨hd, hl, -⟩ := dec_of o
  unfold lnk at hl
  simp only [Bool.and_eq_true, decide_eq_true_eq] at hl
  have hn : n = 3 := Nat.eq_of_beq_eq_true hl.1
  subst hn
  exact G_of fun p e R s m args below meth c H locs cells slots ls F Y V hx hb => lv_goto hx hb hd hl.2 (jmp_go hk hA qq p e R s m args below meth c H locs cells slots _ F Y V)
theorem s_ifnonnull {v0 : Int} (hk : Goes1 P a K d k) (hA : AllOk a) (o : OkE a (pc, .ifnonnull v0, n, x, y, z, fl)) (ho : IsE a es) (q : stepI P a K d k (pc, .ifnonnull v0, n, x, y, z, fl) es L st h cb sb) : G P a K d pc L st h cb sb := by
  have hq : ∃ v b r, st = v :: r ∧ mV P v = .ref b ∧ jmp P a K d k x L r h cb sb := by
    unfold stepI at q
    dsimp only at q
    split at q
    · exact ⟨_, _, _, rfl, rfl, q⟩
    · exact ⟨_, _, _, rfl, rfl, q⟩
    · exact q.elim
  obtain ⟨v, b, r, rfl, hb9, qq⟩ := hq
  obtain ⟨hd, hl, -⟩ := dec_of o
  unfold lnk at hl
  simp only [Bool.and_eq_true, decide_eq_true_eq] at hl
  have hn : n = 3 := Nat.eq_of_beq_eq_true hl.1
  subst hn
  exact G_of fun p e R s m args below meth c H locs cells slots ls F Y V hx hb => by
    rw [List.map_cons, hb9]
    exact lv_ifnonnull hx hb hd hl.2 (jmp_go hk hA qq p e R s m args below meth c H locs cells slots _ F Y V)
theorem s_ifCond {cc : ClassFile.Cond} {v0 : Int} (hk : Goes1 P a K d k) (hA : AllOk a) (o : OkE a (pc, .ifCond cc v0, n, x, y, z, fl)) (ho : IsE a es) (q : stepI P a K d k (pc, .ifCond cc v0, n, x, y, z, fl) es L st h cb sb) : G P a K d pc L st h cb sb := by
  obtain ⟨v, r, rfl, qq⟩ := p1i_of q
  obtain ⟨hd, hl, -⟩ := dec_of o
  unfold lnk at hl
  simp only [Bool.and_eq_true, decide_eq_true_eq] at hl
  have hn : n = 3 := Nat.eq_of_beq_eq_true hl.1
  subst hn
  refine G_of fun p e R s m args below meth c H locs cells slots ls F Y V hx hb => ?_
  cases cc with
  | eq => exact lv_if_eq hx hb hd hl.2 (fun w => jmp_go hk hA (qq.1 w) p e R s m args below meth c H locs cells slots _ F Y V) (fun w => nxt_go hk ho (qq.2 w) p e R s m args below meth c H locs cells slots _ F Y V)
  | ne => exact lv_if_ne hx hb hd hl.2 (fun w => jmp_go hk hA (qq.2 w) p e R s m args below meth c H locs cells slots _ F Y V) (fun w => nxt_go hk ho (qq.1 w) p e R s m args below meth c H locs cells slots _ F Y V)
  | lt => exact lv_if_lt hx hb hd hl.2 (fun w => jmp_go hk hA (qq.1 w) p e R s m args below meth c H locs cells slots _ F Y V) (fun w => nxt_go hk ho (qq.2 w) p e R s m args below meth c H locs cells slots _ F Y V)
  | ge => exact lv_if_ge hx hb hd hl.2 (fun w => jmp_go hk hA (qq.2 (Int32.not_lt.mpr w)) p e R s m args below meth c H locs cells slots _ F Y V) (fun w => nxt_go hk ho (qq.1 (Int32.not_le.mp w)) p e R s m args below meth c H locs cells slots _ F Y V)
  | gt => exact lv_if_gt hx hb hd hl.2 (fun w => jmp_go hk hA (qq.1 w) p e R s m args below meth c H locs cells slots _ F Y V) (fun w => nxt_go hk ho (qq.2 w) p e R s m args below meth c H locs cells slots _ F Y V)
  | le => exact lv_if_le hx hb hd hl.2 (fun w => jmp_go hk hA (qq.2 (Int32.not_lt.mpr w)) p e R s m args below meth c H locs cells slots _ F Y V) (fun w => nxt_go hk ho (qq.1 (Int32.not_le.mp w)) p e R s m args below meth c H locs cells slots _ F Y V)
theorem s_if_icmp {cc : ClassFile.Cond} {v0 : Int} (hk : Goes1 P a K d k) (hA : AllOk a) (o : OkE a (pc, .if_icmp cc v0, n, x, y, z, fl)) (ho : IsE a es) (q : stepI P a K d k (pc, .if_icmp cc v0, n, x, y, z, fl) es L st h cb sb) : G P a K d pc L st h cb sb := by
  obtain ⟨u, v, r, rfl, qq⟩ := p2i_of q
  obtain ⟨hd, hl, -⟩ := dec_of o
  unfold lnk at hl
  simp only [Bool.and_eq_true, decide_eq_true_eq] at hl
  have hn : n = 3 := Nat.eq_of_beq_eq_true hl.1
  subst hn
  refine G_of fun p e R s m args below meth c H locs cells slots ls F Y V hx hb => ?_
  cases cc with
  | eq => exact lv_icmp_eq hx hb hd hl.2 (fun w => jmp_go hk hA (qq.1 w) p e R s m args below meth c H locs cells slots _ F Y V) (fun w => nxt_go hk ho (qq.2 w) p e R s m args below meth c H locs cells slots _ F Y V)
  | ne => exact lv_icmp_ne hx hb hd hl.2 (fun w => jmp_go hk hA (qq.2 w) p e R s m args below meth c H locs cells slots _ F Y V) (fun w => nxt_go hk ho (qq.1 w) p e R s m args below meth c H locs cells slots _ F Y V)
  | lt => exact lv_icmp_lt hx hb hd hl.2 (fun w => jmp_go hk hA (qq.1 w) p e R s m args below meth c H locs cells slots _ F Y V) (fun w => nxt_go hk ho (qq.2 w) p e R s m args below meth c H locs cells slots _ F Y V)
  | ge => exact lv_icmp_ge hx hb hd hl.2 (fun w => jmp_go hk hA (qq.2 (Int32.not_lt.mpr w)) p e R s m args below meth c H locs cells slots _ F Y V) (fun w => nxt_go hk ho (qq.1 (Int32.not_le.mp w)) p e R s m args below meth c H locs cells slots _ F Y V)
  | gt => exact lv_icmp_gt hx hb hd hl.2 (fun w => jmp_go hk hA (qq.1 w) p e R s m args below meth c H locs cells slots _ F Y V) (fun w => nxt_go hk ho (qq.2 w) p e R s m args below meth c H locs cells slots _ F Y V)
  | le => exact lv_icmp_le hx hb hd hl.2 (fun w => jmp_go hk hA (qq.2 (Int32.not_lt.mpr w)) p e R s m args below meth c H locs cells slots _ F Y V) (fun w => nxt_go hk ho (qq.1 (Int32.not_le.mp w)) p e R s m args below meth c H locs cells slots _ F Y V)
end SIM
end
section
/-! steps with more to them: comparisons, switches, cells -/
section SIM2
variable {P : GP} {a : Nat} {K : Kt} {d : Nat}
variable {k : Ct} {es : List Ent} {pc n x y z : Nat} {fl : Bool} {L : mLs} {st : List Value} {h : mH} {cb sb : Nat}
theorem inW : ∀ ci, ci < 5 → ∀ w ∈ u_ws (mCn ci) (mTt ci) (mNn ci), w ∈ TB := by
  have h : ∀ ci, ci < 5 → ∀ w ∈ u_ws (mCn ci) (mTt ci) (mNn ci), w ∈ lT ∧ okK 0 w = true := by decide +kernel
  exact fun ci hc w hw => TB_in (h ci hc w hw)
theorem mCl_at : ∀ ci, ci < 5 → mCl[ci]? = some (mCn ci, mTt ci, mNn ci)
  | 0, _ => rfl
  | 1, _ => rfl
  | 2, _ => rfl
  | 3, _ => rfl
  | 4, _ => rfl
  | _ + 5, h => absurd h (by omega)
theorem mTy_ok : ∀ ci, ci < 5 → ∀ k, k < mNn ci → parseFieldDescriptor (mTt ci k).2.2.1 = some (mTy ci k)
  | 0, _ => oT0
  | 1, _ => oT1
  | 2, _ => oT2
  | 3, _ => oT3
  | 4, _ => oT4
  | _ + 5, h => absurd h (by omega)
theorem mNm_ok : ∀ ci, ci < 5 → ∀ a, a < mNn ci → ∀ b, b < mNn ci → a ≠ b → (mTt ci a).2.1 ≠ (mTt ci b).2.1
  | 0, _ => nT0
  | 1, _ => nT1
  | 2, _ => nT2
  | 3, _ => nT3
  | 4, _ => nT4
  | _ + 5, h => absurd h (by omega)
theorem mDf_ok : ∀ ci, ci < 5 → ∀ j, j < mNn ci → defaultValue (mTy ci j) = vp_V ((mDf ci).map (mV P)) j := by
  intro ci hc j hj
  match ci, hc with
  | 0, _ => match j, hj with | 0, _ => rfl | 1, _ => rfl | 2, _ => rfl | 3, _ => rfl | _ + 4, h => exact absurd h (by simp only [mNn]; omega)
  | 1, _ => match j, hj with | 0, _ => rfl | 1, _ => rfl | 2, _ => rfl | 3, _ => rfl | _ + 4, h => exact absurd h (by simp only [mNn]; omega)
  | 2, _ => match j, hj with | 0, _ => rfl | 1, _ => rfl | 2, _ => rfl | 3, _ => rfl | 4, _ => rfl | 5, _ => rfl | _ + 6, h => exact absurd h (by simp only [mNn]; omega)
  | 3, _ => match j, hj with | 0, _ => rfl | 1, _ => rfl | _ + 2, h => exact absurd h (by simp only [mNn]; omega)
  | 4, _ => match j, hj with | 0, _ => rfl | 1, _ => rfl | 2, _ => rfl | 3, _ => rfl | 4, _ => rfl | 5, _ => rfl | 6, _ => rfl | _ + 7, h => exact absurd h (by simp only [mNn]; omega)
  | _ + 5, h => exact absurd h (by omega)
theorem one_P {D : va_G} {cl : List vw_C} {q : Nat × va_E} {H : Heap} (h : va_at D cl q H) : va_P D cl [q] H := fun k x hx => by
  match k, hx with
  | 0, hx => cases hx; exact h
  | _ + 1, hx => simp at hx
theorem wd_at {h : mH} {H : Heap} (w : Wd P h H) {i ci : Nat} {fs : List Value} (hi : nth h i = some (.inr (ci, fs))) (hc : ci < 5) : va_at (gD P) mCl (gN P + i, .inr (ci, fs.map (mV P))) H := w.2 i _ hi hc
theorem wd_arr {h : mH} {H : Heap} (w : Wd P h H) {i k n : Nat} {g : mAc} (hi : nth h i = some (.inl (k, n, g))) : va_at (gD P) mCl (gN P + i, .inl (gC P k, n, mRA P g)) H := w.2 i _ hi
theorem nth_map {α β : Type} (f : α → β) : ∀ (l : List α) (n : Nat), (l.map f)[n]? = (nth l n).map f
  | [], _ => by simp [nth]
  | _ :: _, 0 => by simp [nth]
  | _ :: t, n + 1 => by simp [nth, nth_map f t n]
theorem nth_lt {α : Type} {l : List α} {n : Nat} {x : α} (h : nth l n = some x) : n < l.length := by
  rw [nth_eq] at h
  exact (List.getElem?_eq_some_iff.mp h).1
theorem nth_set {α : Type} (l : List α) (i j : Nat) (x : α) : nth (l.set i x) j = if i = j then (if i < l.length then some x else none) else nth l j := by
  rw [nth_eq, nth_eq, List.getElem?_set]
theorem nth_app {α : Type} (l r : List α) (j : Nat) : nth (l ++ r) j = if j < l.length then nth l j else nth r (j - l.length) := by
  rw [nth_eq, nth_eq, nth_eq]
  by_cases h : j < l.length
  · rw [if_pos h, List.getElem?_append_left h]
  · rw [if_neg h, List.getElem?_append_right (by omega)]
theorem mC_kept {i : Nat} {c : va_E} {H H1 : Heap} (h : mC P i c H) (hq : H1[gN P + i]? = H[gN P + i]?) : mC P i c H1 := by
  unfold mC at h ⊢
  split at h
  · rw [hq]; exact h
  · exact fun hc => (h hc).kept hq
theorem wd_set {h : mH} {H H1 : Heap} (w : Wd P h H) {i : Nat} {c0 c : va_E} (hi : nth h i = some c0) (hz : H1.size = H.size) (hc : mC P i c H1) (ho : ∀ q : Nat, q ≠ gN P + i → H1[q]? = H[q]?) : Wd P (h.set i c) H1 := by
  refine ⟨by rw [hz, w.1, List.length_set], fun j x hj => ?_⟩
  rw [nth_set] at hj
  by_cases e : i = j
  · subst e
    rw [if_pos rfl, if_pos (nth_lt hi)] at hj
    cases hj
    exact hc
  · rw [if_neg e] at hj
    exact mC_kept (w.2 j x hj) (ho _ (by omega))
theorem wd_push {h : mH} {H H1 : Heap} (w : Wd P h H) {c : va_E} (hz : H1.size = H.size + 1) (hc : mC P h.length c H1) (ho : ∀ q : Nat, q < H.size → H1[q]? = H[q]?) : Wd P (h ++ [c]) H1 := by
  refine ⟨by rw [hz, w.1, List.length_append]; simp only [List.length_singleton]; omega, fun j x hj => ?_⟩
  rw [nth_app] at hj
  by_cases e : j < h.length
  · rw [if_pos e] at hj
    exact mC_kept (w.2 j x hj) (ho _ (by rw [w.1]; omega))
  · rw [if_neg e] at hj
    have : j = h.length := by
      have := nth_lt hj
      simp only [List.length_singleton] at this
      omega
    subst this
    rw [Nat.sub_self] at hj
    cases hj
    exact hc
theorem Env_K {U : State} (h : Env P U) : va_K (gD P) mCl (tys P) U := h.1
theorem s_lcmp (hk : Goes1 P a K d k) (hA : AllOk a) (o : OkE a (pc, .lcmp, n, x, y, z, fl)) (ho : IsE a es) (q : stepI P a K d k (pc, .lcmp, n, x, y, z, fl) es L st h cb sb) : G P a K d pc L st h cb sb := by
  obtain ⟨u, v, r, rfl, q1⟩ := p2l_of q
  obtain ⟨hd, hl, -⟩ := dec_of o
  have hn : n = 1 := Nat.eq_of_beq_eq_true hl
  subst hn
  cases es with
  | nil => exact q1.elim
  | cons e2 es2 =>
    obtain ⟨pc2, j, n2, x2, y2, z2, fl2⟩ := e2
    dsimp only at q1
    split at q1
    · rename_i hb2
      simp only [Bool.and_eq_true] at hb2
      have hp : pc2 = pc + 1 := Nat.eq_of_beq_eq_true hb2.1
      subst hp
      split at q1
      · rename_i cc v0
        obtain ⟨hd2, hl2, -⟩ := dec_of (ho _ List.mem_cons_self)
        unfold lnk at hl2
        simp only [Bool.and_eq_true, decide_eq_true_eq] at hl2
        have hn : n2 = 3 := Nat.eq_of_beq_eq_true hl2.1
        subst hn
        have ho2 : IsE a es2 := fun e he => ho e (List.mem_cons_of_mem _ he)
        refine G_of fun p e R s m args below meth c H locs cells slots ls F Y V hx hb => W.lcmp hx hb hd ?_
        have c1 : lg_cmp u v = 0 ↔ u = v := by
          unfold lg_cmp
          by_cases h1 : u > v
          · rw [if_pos h1]
            exact ⟨fun e => absurd e (by decide), fun e => by subst e; exact (Int64.lt_irrefl h1).elim⟩
          · rw [if_neg h1]
            by_cases h2 : u = v
            · rw [if_pos h2]; exact ⟨fun _ => h2, fun _ => rfl⟩
            · rw [if_neg h2]; exact ⟨fun e => absurd e (by decide), fun e => absurd e h2⟩
        have c2 : lg_cmp u v < 0 ↔ u < v := by
          have h9 := lg_cmp_ge u v
          rw [← Int32.not_le, h9, Int64.not_le]
        have c3 : 0 < lg_cmp u v ↔ v < u := by
          unfold lg_cmp
          by_cases h1 : u > v
          · rw [if_pos h1]
            exact ⟨fun _ => h1, fun _ => by decide⟩
          · rw [if_neg h1]
            by_cases h2 : u = v
            · rw [if_pos h2]; exact ⟨fun e => absurd e (by decide), fun e => absurd e h1⟩
            · rw [if_neg h2]; exact ⟨fun e => absurd e (by decide), fun e => absurd e h1⟩
        cases cc with
        | eq => exact lv_if_eq hx hb hd2 hl2.2 (fun w => jmp_go hk hA (q1.1 (c1.mp w)) p e R s m args below meth c H locs cells slots _ F Y V) (fun w => nxt_go hk ho2 (q1.2 (fun e => w (c1.mpr e))) p e R s m args below meth c H locs cells slots _ F Y V)
        | ne => exact lv_if_ne hx hb hd2 hl2.2 (fun w => jmp_go hk hA (q1.2 (fun e => w (c1.mpr e))) p e R s m args below meth c H locs cells slots _ F Y V) (fun w => nxt_go hk ho2 (q1.1 (c1.mp w)) p e R s m args below meth c H locs cells slots _ F Y V)
        | lt => exact lv_if_lt hx hb hd2 hl2.2 (fun w => jmp_go hk hA (q1.1 (c2.mp w)) p e R s m args below meth c H locs cells slots _ F Y V) (fun w => nxt_go hk ho2 (q1.2 (fun e => w (c2.mpr e))) p e R s m args below meth c H locs cells slots _ F Y V)
        | ge => exact lv_if_ge hx hb hd2 hl2.2 (fun w => jmp_go hk hA (q1.2 (fun e => Int32.not_lt.mpr w (c2.mpr e))) p e R s m args below meth c H locs cells slots _ F Y V) (fun w => nxt_go hk ho2 (q1.1 (c2.mp (Int32.not_le.mp w))) p e R s m args below meth c H locs cells slots _ F Y V)
        | gt => exact lv_if_gt hx hb hd2 hl2.2 (fun w => jmp_go hk hA (q1.1 (c3.mp w)) p e R s m args below meth c H locs cells slots _ F Y V) (fun w => nxt_go hk ho2 (q1.2 (fun e => w (c3.mpr e))) p e R s m args below meth c H locs cells slots _ F Y V)
        | le => exact lv_if_le hx hb hd2 hl2.2 (fun w => jmp_go hk hA (q1.2 (fun e => Int32.not_lt.mpr w (c3.mpr e))) p e R s m args below meth c H locs cells slots _ F Y V) (fun w => nxt_go hk ho2 (q1.1 (c3.mp (Int32.not_le.mp w))) p e R s m args below meth c H locs cells slots _ F Y V)
      · exact q1.elim
    · exact q1.elim
theorem swi_of {f : Nat → Prop} {df : Nat} : ∀ {l : List (Int32 × Nat)} {v : Int32}, swi l v f df → (∃ j q, nth l j = some q ∧ v = q.1 ∧ f q.2) ∨ ((∀ j q, nth l j = some q → v ≠ q.1) ∧ f df)
  | [], v, q => Or.inr ⟨fun j q h => by simp [nth] at h, q⟩
  | q0 :: r, v, q => by
    by_cases e : v = q0.1
    · exact Or.inl ⟨0, q0, rfl, e, q.1 e⟩
    · rcases swi_of (q.2 e) with ⟨j, q9, h1, h2, h3⟩ | ⟨h1, h2⟩
      · exact Or.inl ⟨j + 1, q9, h1, h2, h3⟩
      · refine Or.inr ⟨fun j q9 hj => ?_, h2⟩
        cases j with
        | zero => cases hj; exact e
        | succ j => exact h1 j q9 hj
theorem s_tableswitch {df lo hi : Int} {offs : Array Int} (hk : Goes1 P a K d k) (hA : AllOk a) (o : OkE a (pc, .tableswitch df lo hi offs, n, x, y, z, fl)) (ho : IsE a es) (q : stepI P a K d k (pc, .tableswitch df lo hi offs, n, x, y, z, fl) es L st h cb sb) : G P a K d pc L st h cb sb := by
  obtain ⟨v, r, rfl, q1⟩ := p1i_of q
  obtain ⟨hd, hl, -⟩ := dec_of o
  unfold lnk at hl
  cases hs : nth kS z with
  | none => rw [hs] at q1; exact q1.elim
  | some l =>
    rw [hs] at q1 hl
    dsimp only at q1 hl
    simp only [Bool.and_eq_true, decide_eq_true_eq] at hl
    obtain ⟨⟨h1, h2⟩, h3, h4⟩ := hl
    have h5 : ∀ j, j < l.length → ∃ q, nth l j = some q ∧ q.1.toInt = (j : Int) ∧ ∃ o, offs[j]? = some o ∧ (pc : Int) + o = (q.2 : Int) := fun j hj => of_decide_eq_true (List.all_eq_true.mp h4 j (List.mem_range.mpr hj))
    subst h2
    refine G_of fun p e R s m args below meth c H locs cells slots ls F Y V hx hb => ?_
    rcases swi_of q1 with ⟨j, q9, g1, g2, g3⟩ | ⟨g1, g2⟩
    · obtain ⟨q8, e1, e2, o8, e3, e4⟩ := h5 j (nth_lt g1)
      rw [g1] at e1
      cases e1
      have hj := nth_lt g1
      have hv : v.toInt = (j : Int) := by rw [g2]; exact e2
      refine lv_tableIn hx hb hd (by rw [hv]; omega) (by rw [hv]; omega) (off := o8) (by rw [hv, Int.sub_zero, Int.toNat_natCast]; exact e3) e4 ?_
      exact jmp_go hk hA g3 p e R s m args below meth c H locs cells slots _ F Y V
    · refine lv_tableOut hx hb hd ?_ h1 (jmp_go hk hA g2 p e R s m args below meth c H locs cells slots _ F Y V)
      by_cases c1 : v.toInt < 0
      · exact Or.inl c1
      · refine Or.inr ?_
        by_cases c2 : hi < v.toInt
        · exact c2
        · exfalso
          obtain ⟨q8, e1, e2, -⟩ := h5 v.toInt.toNat (by omega)
          refine g1 _ _ e1 (Int32.toInt_inj.mp ?_)
          rw [e2]
          omega
end SIM2
end
section
/-! steps over cells: fields, arrays, new ones -/
section SIM3
variable {P : GP} {a : Nat} {K : Kt} {d : Nat}
variable {k : Ct} {es : List Ent} {pc n x y z : Nat} {fl : Bool} {L : mLs} {st : List Value} {h : mH} {cb sb : Nat}
theorem gtf_of {P : GP} {h : mH} {st : List Value} {ci j : Nat} {f : Value → List Value → Prop} (q : gtf h st ci j f) : (∃ i r fs v, st = .ref i :: r ∧ nth h i = some (.inr (ci, fs)) ∧ nth fs j = some v ∧ f v r) ∨ (∃ c r v, st = .retAddr c :: r ∧ 10 ≤ c ∧ c < 13 ∧ ci = 0 ∧ ((j = 0 ∧ v = .retAddr (c + 20)) ∨ (j = 1 ∧ v = .int 0)) ∧ f v r) := by
  unfold gtf at q
  split at q
  · split at q
    · split at q
      · rename_i hb
        have := Nat.eq_of_beq_eq_true hb
        subst this
        split at q
        · exact Or.inl ⟨_, _, _, _, rfl, by assumption, by assumption, q⟩
        · exact q.elim
      · exact q.elim
    · exact q.elim
  · split at q
    · rename_i hb
      simp only [Bool.and_eq_true] at hb
      obtain ⟨⟨h1, h2⟩, h3⟩ := hb
      split at q
      · exact Or.inr ⟨_, _, _, rfl, Nat.le_of_ble_eq_true h1, Nat.le_of_ble_eq_true h2, Nat.eq_of_beq_eq_true h3, Or.inl ⟨rfl, rfl⟩, q⟩
      · exact Or.inr ⟨_, _, _, rfl, Nat.le_of_ble_eq_true h1, Nat.le_of_ble_eq_true h2, Nat.eq_of_beq_eq_true h3, Or.inr ⟨rfl, rfl⟩, q⟩
      · exact q.elim
    · exact q.elim
  · exact q.elim
theorem noNest (a ix y : Nat) : fWn a ix 0 y ∉ lT := by
  have h : ∀ w ∈ lT, (match w with | .fieldLinkNest _ _ c _ _ _ => decide (c ≠ rc_STR) | _ => true) = true := by decide +kernel
  intro hm
  have := h _ hm
  have e : (mTt 0 y).1 = rc_STR := by
    show (tT0 y).1 = rc_STR
    unfold tT0
    split <;> rfl
  simp only [fWn, e] at this
  exact absurd this (by decide)
theorem s_getfield {ix : Nat} (hk : Goes1 P a K d k) (hA : AllOk a) (o : OkE a (pc, .getfield ix, n, x, y, z, fl)) (ho : IsE a es) (q : stepI P a K d k (pc, .getfield ix, n, x, y, z, fl) es L st h cb sb) : G P a K d pc L st h cb sb := by
  have q : gtf h st x y fun v r => nxt P a K d k (pc + n) es L (v :: r) h cb sb := q
  obtain ⟨hd, hl, hw⟩ := dec_of o
  unfold lnk at hl
  simp only [Bool.and_eq_true] at hl
  obtain ⟨⟨⟨hl1, hl2⟩, hl3⟩, hl4⟩ := hl
  have hn : n = 3 := Nat.eq_of_beq_eq_true hl1
  subst hn
  have hx5 : x < 5 := Nat.le_of_ble_eq_true hl2
  have hyN : y < mNn x := Nat.le_of_ble_eq_true hl3
  have hz2 : z < 2 := Nat.le_of_ble_eq_true hl4
  rcases gtf_of (P := P) q with ⟨i, r, fs, v, rfl, hi, hv, qq⟩ | ⟨w9, r, v, rfl, hc1, hc2, rfl, hv, qq⟩
  · refine G_of fun p e R s m args below meth c H locs cells slots ls F Y V hx hb => ?_
    obtain ⟨-, -, -, -, hown, hts, hE, -⟩ := id F
    have hP := one_P (wd_at Y.2.2.2 hi hx5)
    have hfs : (fs.map (mV P))[y]? = some (mV P v) := by rw [nth_map, hv]; rfl
    have K1 := nxt_go hk ho qq p e R s m args below meth c H locs cells slots _ F Y V
    match z, hz2 with
    | 0, _ =>
      have hw := TB_in (hw (0, fWd a ix x y) (by simp [lnW]))
      exact va_get (ws := [(gN P + i, .inr (x, fs.map (mV P)))]) hx hb hts (inW x hx5) hown (Env_K hE) hP 0 rfl (mCl_at x hx5) y hyN (hts _ hw) (fun _ h9 => h9) hfs hd K1
    | 1, _ =>
      have hw := WN_in (hw (1, fWn a ix x y) (by simp [lnW]))
      exact va_getN (ws := [(gN P + i, .inr (x, fs.map (mV P)))]) (host := mOwn a) hx hb hts (inW x hx5) hown (Env_K hE) hP 0 rfl (mCl_at x hx5) y hyN (va_Nw.use rfl (hE.2.2.2.2.2.1 _ hw)) (fun _ h9 => h9) hfs hd K1
  · refine G_of fun p e R s m args below meth c H locs cells slots ls F Y V hx hb => ?_
    obtain ⟨-, -, -, -, hown, hts, hE, -⟩ := id F
    have K1 := nxt_go hk ho qq p e R s m args below meth c H locs cells slots _ F Y V
    have hS := Y.2.2.1
    obtain ⟨hk1, hk2, hk3, -⟩ := hE.2.2.2.2.2.2.2.2.2.2.1.1 (w9 - 10) (by omega)
    have hw : fWd a ix 0 y ∈ TB := by
      match z, hz2 with
      | 0, _ => exact TB_in (hw (0, fWd a ix 0 y) (by simp [lnW]))
      | 1, _ =>
        have := (hw (1, fWn a ix 0 y) (by simp [lnW])).1
        exact absurd this (noNest a ix y)
    dsimp only at hk2 hk3
    rw [show 10 + (w9 - 10) = w9 by omega] at hk2 hk3
    rw [show 30 + (w9 - 10) = w9 + 20 by omega] at hk3
    rcases hv with ⟨rfl, rfl⟩ | ⟨rfl, rfl⟩
    · exact vk_getf hx hb hk3 hS hown (hts _ hw) (fun _ h9 => h9) hd K1
    · exact vk_getf hx hb hk2 hS hown (hts _ hw) (fun _ h9 => h9) hd K1
theorem fitK_of {ty : FieldType} {v : Value} {q : Prop} (h : fitK ty v q) : q ∧ narrow ty (mV P v) = mV P v ∧ fits ty (mV P v) = true := by
  unfold fitK at h
  split at h
  · split at h
    · exact ⟨h, rfl, rfl⟩
    · exact h.elim
  · split at h
    · exact ⟨h, rfl, rfl⟩
    · exact h.elim
  · split at h
    · exact ⟨h, rfl, rfl⟩
    · exact ⟨h, rfl, rfl⟩
    · exact ⟨h, rfl, rfl⟩
    · exact h.elim
  · split at h
    · exact ⟨h, rfl, rfl⟩
    · exact ⟨h, rfl, rfl⟩
    · exact ⟨h, rfl, rfl⟩
    · exact h.elim
  · split at h
    · exact ⟨h.2, h.1.1, h.1.2⟩
    · exact h.elim
  · split at h
    · exact ⟨h.2, h.1.1, h.1.2⟩
    · exact h.elim
  · exact h.elim
theorem ptf_of {st : List Value} {ci j : Nat} {f : mH → List Value → Prop} (q : ptf h st ci j f) : ∃ v i r fs, st = v :: .ref i :: r ∧ nth h i = some (.inr (ci, fs)) ∧ j < fs.length ∧ fitK (mTy ci j) v (f (h.set i (.inr (ci, fs.set j v))) r) := by
  unfold ptf at q
  split at q
  · split at q
    · split at q
      · rename_i hb
        have := Nat.eq_of_beq_eq_true hb
        subst this
        split at q
        · exact ⟨_, _, _, _, rfl, by assumption, nth_lt (by assumption), q⟩
        · exact q.elim
      · exact q.elim
    · exact q.elim
  · exact q.elim
theorem s_putfield {ix : Nat} (hk : Goes1 P a K d k) (hA : AllOk a) (o : OkE a (pc, .putfield ix, n, x, y, z, fl)) (ho : IsE a es) (q : stepI P a K d k (pc, .putfield ix, n, x, y, z, fl) es L st h cb sb) : G P a K d pc L st h cb sb := by
  have q : ptf h st x y fun h r => nxt P a K d k (pc + n) es L r h cb sb := q
  obtain ⟨hd, hl, hw⟩ := dec_of o
  unfold lnk at hl
  simp only [Bool.and_eq_true] at hl
  obtain ⟨⟨⟨hl1, hl2⟩, hl3⟩, hl4⟩ := hl
  have hn : n = 3 := Nat.eq_of_beq_eq_true hl1
  subst hn
  have hx5 : x < 5 := Nat.le_of_ble_eq_true hl2
  have hyN : y < mNn x := Nat.le_of_ble_eq_true hl3
  obtain ⟨v, i, r, fs, rfl, hi, hyl, qf⟩ := ptf_of q
  obtain ⟨qq, hnar, hfit⟩ := fitK_of (P := P) qf
  refine G_of fun p e R s m args below meth c H locs cells slots ls F Y V hx hb => ?_
  obtain ⟨-, -, -, -, hown, hts, hE, -, hname, -⟩ := id F
  obtain ⟨hY1, hY2, hS0, hWd⟩ := id Y
  have hK := Env_K hE
  have hin := inW x hx5
  have hc := mCl_at x hx5
  have hap := va_apart (own := mOwn a) hts hin (mTy x) (mTy_ok x hx5) (mNm_ok x hx5) hK hc
  obtain ⟨r9, h1, cell, q1, q2, q3, q4⟩ := wd_at hWd hi hx5
  have hr : r9 = (mCn x, mTt x, mNn x) := Option.some.inj (h1.symm.trans hc)
  subst hr
  obtain ⟨hSl, hfc, kC, hkC, hkind⟩ := hK.1 x _ hc
  obtain ⟨cf, kf, fi, f, hif, hsl⟩ := hSl y hyN
  have hlay := hts _ (hin _ (u_in_lay hyN))
  unfold u_lay at hlay
  have hst := (u_facts hfc hkC (u_lays hts hin hyN) hif).1
  have hl9 : y < (fs.map (mV P)).length := by rw [List.length_map]; exact hyl
  have fin : ∀ H' : Heap, H'[gN P + i]? = some (cell.setSlot f.slot (mV P v)) → H'.size = H.size → (∀ q, q ≠ gN P + i → H'[q]? = H[q]?) →
      W p (gl P) e R s m args below meth c H' (locs ++ [⟨gN P + i, f.slot⟩]) cells slots (vx_MQ below (QcK P K) (XcK P K) args s R.cells R.slots (gF P)) (F0 m (pc + 3) ls (r.map (mV P))) := by
    intro H' e1 e2 e3
    rw [hsl] at e1
    refine nxt_go hk ho qq p e R s m args below meth c H' _ cells slots _ F ⟨hY1, hY2, hS0.put e2 e3 ?_, wd_set hWd hi e2 ?_ e3⟩ V
    · show gN P ≤ gN P + i
      omega
    · show x < 5 → _
      intro _
      refine ⟨_, hc, ?_⟩
      rw [List.map_set]
      exact t_OB.to (V := updV (vp_V (fs.map (mV P))) y (mV P v)) ⟨_, e1, q2, q3, t_set q4 hap hyN (mV P v)⟩ (fun j _ => vp_updV_set hl9 (mV P v) j)
  match z, hl4 with
  | 0, hl4 =>
    have hfin : (mTt x y).2.2.2 = false := by simpa using hl4
    rw [if_neg (by rw [hfin]; decide)] at hlay
    have h6 := u_store hfc hkC hkind hlay hif (mTy_ok x hx5 y hyN) hnar hfit
    have hw := TB_in (hw (0, fWd a ix x y) (by simp [lnW]))
    exact W.putK hx hb (f := f) ⟨hown, hts _ hw, ⟨_, _, _, hif⟩, hst⟩ (by rw [q2]; exact h6) q1 q3 (by rw [hsl]; exact k2_hasslot (q4 y hyN)) rfl rfl hd fin
  | 1, hl4 =>
    have hfin : (mTt x y).2.2.2 = false := by simpa using hl4
    rw [if_neg (by rw [hfin]; decide)] at hlay
    have h6 := u_store hfc hkC hkind hlay hif (mTy_ok x hx5 y hyN) hnar hfit
    have hw := WN_in (hw (1, fWn a ix x y) (by simp [lnW]))
    exact va_WputK hx hb (f := f) (host := mOwn a) hown (va_Nw.use rfl (hE.2.2.2.2.2.1 _ hw)) hif hst (by rw [q2]; exact h6) q1 q3 (by rw [hsl]; exact k2_hasslot (q4 y hyN)) rfl rfl hd fin
  | 2, hl4 =>
    simp only [Bool.and_eq_true, decide_eq_true_eq] at hl4
    obtain ⟨⟨hfin, hnm⟩, hdecl⟩ := hl4
    rw [if_pos hfin] at hlay
    have hcf : m.cls = cf := by
      obtain ⟨_, _, c', _, _, _, -, -, hf', -, -, -, hown2, -⟩ := Cond.laysFinal_spec hlay
      have e1 : c' = cf := by have := hif.symm.trans hf'; simp at this; exact this.1.symm
      rw [hdecl] at hown2
      rw [← e1]; exact Option.some.inj (hown.symm.trans hown2)
    have h6 := u_fits hfc hkC hkind (Or.inr hlay) hif (mTy_ok x hx5 y hyN) hnar hfit
    have hw := TB_in (hw (0, fWd a ix x y) (by simp [lnW]))
    exact W.putFinK hx hb hown (hts _ hw) hif hst hcf (by rw [hname]; exact hnm) (by rw [q2]; exact h6) q1 q3 (by rw [hsl]; exact k2_hasslot (q4 y hyN)) rfl rfl hd fin
theorem s_getstatic {ix : Nat} (hk : Goes1 P a K d k) (hA : AllOk a) (o : OkE a (pc, .getstatic ix, n, x, y, z, fl)) (ho : IsE a es) (q : stepI P a K d k (pc, .getstatic ix, n, x, y, z, fl) es L st h cb sb) : G P a K d pc L st h cb sb := by
  obtain ⟨hd, hl, hw⟩ := dec_of o
  have hn : n = 3 := Nat.eq_of_beq_eq_true hl
  subst hn
  match x, q, hw, o with
  | 0, q, hw, o =>
    have hw := TB_in (hw _ (List.mem_singleton.mpr rfl))
    exact G_of fun p e R s m args below meth c H locs cells slots ls F Y V hx hb => va_gets hx hb F.2.2.2.2.2.2.1.2.2.2.2.2.2.2.2.2.2.2.1 Y.2.2.1 F.2.2.2.2.1 (F.2.2.2.2.2.1 _ hw) (fun _ h9 => h9) hd (nxt_go hk ho q p e R s m args below meth c H locs cells slots _ F Y V)
  | 1, q, hw, o =>
    have hw := TB_in (hw _ (List.mem_singleton.mpr rfl))
    exact G_of fun p e R s m args below meth c H locs cells slots ls F Y V hx hb => va_gets hx hb F.2.2.2.2.2.2.1.2.2.2.2.2.2.2.2.2.2.2.2.1.1 Y.2.2.1 F.2.2.2.2.1 (F.2.2.2.2.2.1 _ hw) (fun _ h9 => h9) hd (nxt_go hk ho q p e R s m args below meth c H locs cells slots _ F Y V)
  | 2, q, hw, o =>
    have hw := TB_in (hw _ (List.mem_singleton.mpr rfl))
    exact G_of fun p e R s m args below meth c H locs cells slots ls F Y V hx hb => va_gets hx hb F.2.2.2.2.2.2.1.2.2.2.2.2.2.2.2.2.2.2.2.2.1.1 Y.2.2.1 F.2.2.2.2.1 (F.2.2.2.2.2.1 _ hw) (fun _ h9 => h9) hd (nxt_go hk ho q p e R s m args below meth c H locs cells slots _ F Y V)
  | _ + 3, q, hw, o => exact q.elim
end SIM3
end
section
/-! steps over arrays, constants, new cells -/
section SIM4
variable {P : GP} {a : Nat} {K : Kt} {d : Nat}
variable {k : Ct} {es : List Ent} {pc n x y z : Nat} {fl : Bool} {L : mLs} {st : List Value} {h : mH} {cb sb : Nat}
theorem cBy_of {c n : Nat} {g : Nat → Int32} {s : State} (hc : cBy c = some (n, g)) (hE : Env P s) : va_T .byte (gA P c) n (fun j => .int (g j)) (gF P) s s.heap := by
  obtain ⟨-, -, -, -, -, -, -, -, -, -, hS, -, hT, hO, -⟩ := hE
  unfold cBy at hc
  split at hc
  · rename_i hb
    simp only [Bool.and_eq_true] at hb
    have h1 : 30 ≤ c := Nat.le_of_ble_eq_true hb.1
    have h2 : c < 33 := Nat.le_of_ble_eq_true hb.2
    have h3 := (hS.1 (c - 30) (by omega)).2.2.2
    dsimp only at h3
    rw [show 30 + (c - 30) = c by omega] at h3
    split at hc
    · rename_i n9 hn
      rw [nth_eq] at hn
      have e : kSl.getD (c - 30) 0 = n9 := by rw [List.getD_eq_getElem?_getD, hn]; rfl
      rw [e] at h3
      simp only [Option.some.injEq, Prod.mk.injEq] at hc
      obtain ⟨rfl, rfl⟩ := hc
      exact h3
    · cases hc
  · split at hc
    · rename_i hb
      have := Nat.eq_of_beq_eq_true hb
      subst this
      cases hc
      exact hT.2
    · split at hc
      · rename_i hb
        have := Nat.eq_of_beq_eq_true hb
        subst this
        cases hc
        exact hO.2
      · cases hc
theorem script_lt {s : State} (hE : Env P s) : gA P 0 < s.heap.size ∧ ¬ gF P (gA P 0) := ⟨Nat.lt_of_lt_of_le hE.2.2.2.1 hE.2.1, Nat.not_le.mpr hE.2.2.2.1⟩
theorem alI_of {f : Value → List Value → Prop} (q : alI P h st f) : (∃ j i r m g, st = .int j :: .ref i :: r ∧ nth h i = some (.inl (1, m, .inl g)) ∧ vp_in j m ∧ f (.int (g j.toNatClampNeg)) r) ∨ (∃ j r, st = .int j :: .retAddr 0 :: r ∧ vp_in j (gL P) ∧ f (.int (gX P j.toNatClampNeg)) r) := by
  unfold alI at q
  split at q
  · split at q
    · split at q
      · rename_i hb
        have := Nat.eq_of_beq_eq_true hb
        subst this
        exact Or.inl ⟨_, _, _, _, _, rfl, by assumption, q.1, q.2⟩
      · exact q.elim
    · exact q.elim
  · split at q
    · exact Or.inr ⟨_, _, rfl, q.1, q.2⟩
    · exact q.elim
  · exact q.elim
theorem s_iaload (hk : Goes1 P a K d k) (hA : AllOk a) (o : OkE a (pc, .iaload, n, x, y, z, fl)) (ho : IsE a es) (q : stepI P a K d k (pc, .iaload, n, x, y, z, fl) es L st h cb sb) : G P a K d pc L st h cb sb := by
  have q : alI P h st fun v r => nxt P a K d k (pc + n) es L (v :: r) h cb sb := q
  obtain ⟨hd, hl, -⟩ := dec_of o
  have hn : n = 1 := Nat.eq_of_beq_eq_true hl
  subst hn
  rcases alI_of q with ⟨j, i, r, m9, g, rfl, hi, hin, qq⟩ | ⟨j, r, rfl, hin, qq⟩
  · exact G_of fun p e R s m args below meth c H locs cells slots ls F Y V hx hb => va_iald (ws := [(gN P + i, .inl (gC P 1, m9, .inl g))]) hx hb (Env_K F.2.2.2.2.2.2.1) (one_P (wd_arr Y.2.2.2 hi)) 0 1 rfl rfl hin hd (nxt_go hk ho qq p e R s m args below meth c H locs cells slots _ F Y V)
  · exact G_of fun p e R s m args below meth c H locs cells slots ls F Y V hx hb => va_sld hx hb F.2.2.2.2.2.2.1.2.2.1 (script_lt F.2.2.2.2.2.2.1).1 (script_lt F.2.2.2.2.2.2.1).2 Y.2.2.1 hin hd (nxt_go hk ho qq p e R s m args below meth c H locs cells slots _ F Y V)
theorem alB_of {f : Value → List Value → Prop} (q : alB h st f) : (∃ j i r m g, st = .int j :: .ref i :: r ∧ nth h i = some (.inl (0, m, .inl g)) ∧ vp_in j m ∧ f (.int (g j.toNatClampNeg)) r) ∨ (∃ j c r m g, st = .int j :: .retAddr c :: r ∧ cBy c = some (m, g) ∧ vp_in j m ∧ f (.int (g j.toNatClampNeg)) r) := by
  unfold alB at q
  split at q
  · split at q
    · split at q
      · rename_i hb
        have := Nat.eq_of_beq_eq_true hb
        subst this
        exact Or.inl ⟨_, _, _, _, _, rfl, by assumption, q.1, q.2⟩
      · exact q.elim
    · exact q.elim
  · split at q
    · exact Or.inr ⟨_, _, _, _, _, rfl, by assumption, q.1, q.2⟩
    · exact q.elim
  · exact q.elim
theorem s_baload (hk : Goes1 P a K d k) (hA : AllOk a) (o : OkE a (pc, .baload, n, x, y, z, fl)) (ho : IsE a es) (q : stepI P a K d k (pc, .baload, n, x, y, z, fl) es L st h cb sb) : G P a K d pc L st h cb sb := by
  have q : alB h st fun v r => nxt P a K d k (pc + n) es L (v :: r) h cb sb := q
  obtain ⟨hd, hl, -⟩ := dec_of o
  have hn : n = 1 := Nat.eq_of_beq_eq_true hl
  subst hn
  rcases alB_of q with ⟨j, i, r, m9, g, rfl, hi, hin, qq⟩ | ⟨j, c9, r, m9, g, rfl, hc, hin, qq⟩
  · exact G_of fun p e R s m args below meth c H locs cells slots ls F Y V hx hb => va_bald (ws := [(gN P + i, .inl (gC P 0, m9, .inl g))]) hx hb (Env_K F.2.2.2.2.2.2.1) (one_P (wd_arr Y.2.2.2 hi)) 0 0 rfl rfl hin hd (nxt_go hk ho qq p e R s m args below meth c H locs cells slots _ F Y V)
  · exact G_of fun p e R s m args below meth c H locs cells slots ls F Y V hx hb => va_tb hx hb (cBy_of hc F.2.2.2.2.2.2.1) Y.2.2.1 hin rfl hd (nxt_go hk ho qq p e R s m args below meth c H locs cells slots _ F Y V)
theorem alL_of {f : Value → List Value → Prop} (q : alL h st f) : ∃ j i r m g, st = .int j :: .ref i :: r ∧ nth h i = some (.inl (2, m, .inr (.inl g))) ∧ vp_in j m ∧ f (.long (g j.toNatClampNeg)) r := by
  unfold alL at q
  split at q
  · split at q
    · split at q
      · rename_i hb
        have := Nat.eq_of_beq_eq_true hb
        subst this
        exact ⟨_, _, _, _, _, rfl, by assumption, q.1, q.2⟩
      · exact q.elim
    · exact q.elim
  · exact q.elim
theorem s_laload (hk : Goes1 P a K d k) (hA : AllOk a) (o : OkE a (pc, .laload, n, x, y, z, fl)) (ho : IsE a es) (q : stepI P a K d k (pc, .laload, n, x, y, z, fl) es L st h cb sb) : G P a K d pc L st h cb sb := by
  have q : alL h st fun v r => nxt P a K d k (pc + n) es L (v :: r) h cb sb := q
  obtain ⟨hd, hl, -⟩ := dec_of o
  have hn : n = 1 := Nat.eq_of_beq_eq_true hl
  subst hn
  obtain ⟨j, i, r, m9, g, rfl, hi, hin, qq⟩ := alL_of q
  exact G_of fun p e R s m args below meth c H locs cells slots ls F Y V hx hb => va_lald (ws := [(gN P + i, .inl (gC P 2, m9, .inr (.inl g)))]) hx hb (Env_K F.2.2.2.2.2.2.1) (one_P (wd_arr Y.2.2.2 hi)) 0 2 rfl rfl hin hd (nxt_go hk ho qq p e R s m args below meth c H locs cells slots _ F Y V)
theorem alA_of {f : Value → List Value → Prop} (q : alA h st f) : ∃ j i r m g w, st = .int j :: .ref i :: r ∧ nth h i = some (.inl (3, m, .inr (.inr (.inr (.inr g))))) ∧ vp_in j m ∧ g j.toNatClampNeg = some w ∧ f (.ref w) r := by
  unfold alA at q
  split at q
  · split at q
    · split at q
      · rename_i hb
        have := Nat.eq_of_beq_eq_true hb
        subst this
        obtain ⟨q1, q2, q3⟩ := q
        obtain ⟨w, hw⟩ := Option.ne_none_iff_exists'.mp q3
        exact ⟨_, _, _, _, _, w, rfl, by assumption, q1, hw, q2 w hw⟩
      · exact q.elim
    · exact q.elim
  · exact q.elim
theorem s_aaload (hk : Goes1 P a K d k) (hA : AllOk a) (o : OkE a (pc, .aaload, n, x, y, z, fl)) (ho : IsE a es) (q : stepI P a K d k (pc, .aaload, n, x, y, z, fl) es L st h cb sb) : G P a K d pc L st h cb sb := by
  have q : alA h st fun v r => nxt P a K d k (pc + n) es L (v :: r) h cb sb := q
  obtain ⟨hd, hl, -⟩ := dec_of o
  have hn : n = 1 := Nat.eq_of_beq_eq_true hl
  subst hn
  obtain ⟨j, i, r, m9, g, w, rfl, hi, hin, hg, qq⟩ := alA_of q
  refine G_of fun p e R s m args below meth c H locs cells slots ls F Y V hx hb => ?_
  have K1 := nxt_go hk ho qq p e R s m args below meth c H locs cells slots _ F Y V
  have hlt : j.toNatClampNeg < m9 := Nat.not_le.mp fun q => hin (Or.inr q)
  have hc : H[gN P + i]? = some (vp_cell (gC P 3) (m9, .inr (.inr (.inr (.inr (fun j => (g j).map (fun i => gN P + i))))))) := wd_arr Y.2.2.2 hi
  exact W.aald (v := .ref (gN P + w)) (ty := .array .int) hx hb hc (((Env_K F.2.2.2.2.2.2.1).2 3 _ rfl).1 m9 (fun j => va_rf ((g j).map (fun i => gN P + i)))) rfl (fun q => by cases q) (by show ¬ (j < 0 ∨ (arrV _ _ _).slots.size ≤ _); rw [arrV_size]; exact hin) (by show (arrV _ _ _).slots[_]? = _; rw [arrV_read _ _ hlt]; simp only [hg]; rfl) rfl rfl hd K1
theorem asI_of {f : mH → List Value → Prop} (q : asI h st f) : ∃ x9 j i r m g, st = .int x9 :: .int j :: .ref i :: r ∧ nth h i = some (.inl (1, m, .inl g)) ∧ vp_in j m ∧ f (h.set i (.inl (1, m, .inl (upd g j.toNatClampNeg x9)))) r := by
  unfold asI at q
  split at q
  · split at q
    · split at q
      · rename_i hb
        have := Nat.eq_of_beq_eq_true hb
        subst this
        exact ⟨_, _, _, _, _, _, rfl, by assumption, q.1, q.2⟩
      · exact q.elim
    · exact q.elim
  · exact q.elim
theorem s_iastore (hk : Goes1 P a K d k) (hA : AllOk a) (o : OkE a (pc, .iastore, n, x, y, z, fl)) (ho : IsE a es) (q : stepI P a K d k (pc, .iastore, n, x, y, z, fl) es L st h cb sb) : G P a K d pc L st h cb sb := by
  have q : asI h st fun h r => nxt P a K d k (pc + n) es L r h cb sb := q
  obtain ⟨hd, hl, -⟩ := dec_of o
  have hn : n = 1 := Nat.eq_of_beq_eq_true hl
  subst hn
  obtain ⟨x9, j, i, r, m9, g, rfl, hi, hin, qq⟩ := asI_of q
  refine G_of fun p e R s m args below meth c H locs cells slots ls F Y V hx hb => ?_
  have hc : H[gN P + i]? = some (vp_cell (gC P 1) (m9, .inl g)) := wd_arr Y.2.2.2 hi
  refine W.iast hx hb hc (((Env_K F.2.2.2.2.2.2.1).2 1 _ rfl).1 m9 (fun j => .int (g j))) (fun q => by cases q) (by show ¬ (j < 0 ∨ (arrV _ _ _).slots.size ≤ _); rw [arrV_size]; exact hin) rfl rfl hd fun H1 e1 z1 oq => ?_
  refine nxt_go hk ho qq p e R s m args below meth c H1 _ cells slots _ F ⟨Y.1, Y.2.1, Y.2.2.1.put z1 oq ?_, wd_set Y.2.2.2 hi z1 ?_ oq⟩ V
  · show gN P ≤ gN P + i
    omega
  · show H1[gN P + i]? = some (vp_cell _ _)
    rw [e1]
    show _ = some (vp_cell (gC P 1) (m9, .inl (upd g j.toNatClampNeg x9)))
    rw [vp_cell_i, vp_cell_i, arrV_store]
    congr 2
    funext q
    by_cases hq : q = j.toNatClampNeg
    · subst hq
      simp [updV, upd]
    · simp [updV, upd, hq]
theorem asB_of {f : mH → List Value → Prop} (q : asB h st f) : ∃ x9 j i r m g, st = .int x9 :: .int j :: .ref i :: r ∧ nth h i = some (.inl (0, m, .inl g)) ∧ vp_in j m ∧ f (h.set i (.inl (0, m, .inl (upd g j.toNatClampNeg (vp_nar .byte x9))))) r := by
  unfold asB at q
  split at q
  · split at q
    · split at q
      · rename_i hb
        have := Nat.eq_of_beq_eq_true hb
        subst this
        exact ⟨_, _, _, _, _, _, rfl, by assumption, q.1, q.2⟩
      · exact q.elim
    · exact q.elim
  · exact q.elim
theorem s_bastore (hk : Goes1 P a K d k) (hA : AllOk a) (o : OkE a (pc, .bastore, n, x, y, z, fl)) (ho : IsE a es) (q : stepI P a K d k (pc, .bastore, n, x, y, z, fl) es L st h cb sb) : G P a K d pc L st h cb sb := by
  have q : asB h st fun h r => nxt P a K d k (pc + n) es L r h cb sb := q
  obtain ⟨hd, hl, -⟩ := dec_of o
  have hn : n = 1 := Nat.eq_of_beq_eq_true hl
  subst hn
  obtain ⟨x9, j, i, r, m9, g, rfl, hi, hin, qq⟩ := asB_of q
  refine G_of fun p e R s m args below meth c H locs cells slots ls F Y V hx hb => ?_
  have hc : H[gN P + i]? = some (vp_cell (gC P 0) (m9, .inl g)) := wd_arr Y.2.2.2 hi
  refine W.bast hx hb hc (((Env_K F.2.2.2.2.2.2.1).2 0 _ rfl).1 m9 (fun j => .int (g j))) (fun q => by cases q) (by show ¬ (j < 0 ∨ (arrV _ _ _).slots.size ≤ _); rw [arrV_size]; exact hin) rfl rfl hd fun H1 e1 z1 oq => ?_
  refine nxt_go hk ho qq p e R s m args below meth c H1 _ cells slots _ F ⟨Y.1, Y.2.1, Y.2.2.1.put z1 oq ?_, wd_set Y.2.2.2 hi z1 ?_ oq⟩ V
  · show gN P ≤ gN P + i
    omega
  · show H1[gN P + i]? = some (vp_cell _ _)
    rw [e1]
    show _ = some (vp_cell (gC P 0) (m9, .inl (upd g j.toNatClampNeg (vp_nar .byte x9))))
    rw [vp_cell_i, vp_cell_i, arrV_store]
    congr 2
    funext q
    by_cases hq : q = j.toNatClampNeg
    · subst hq
      simp [updV, upd]
      rfl
    · simp [updV, upd, hq]
theorem asL_of {f : mH → List Value → Prop} (q : asL h st f) : ∃ x9 j i r m g, st = .long x9 :: .int j :: .ref i :: r ∧ nth h i = some (.inl (2, m, .inr (.inl g))) ∧ vp_in j m ∧ f (h.set i (.inl (2, m, .inr (.inl (vp_updL g j.toNatClampNeg x9))))) r := by
  unfold asL at q
  split at q
  · split at q
    · split at q
      · rename_i hb
        have := Nat.eq_of_beq_eq_true hb
        subst this
        exact ⟨_, _, _, _, _, _, rfl, by assumption, q.1, q.2⟩
      · exact q.elim
    · exact q.elim
  · exact q.elim
theorem s_lastore (hk : Goes1 P a K d k) (hA : AllOk a) (o : OkE a (pc, .lastore, n, x, y, z, fl)) (ho : IsE a es) (q : stepI P a K d k (pc, .lastore, n, x, y, z, fl) es L st h cb sb) : G P a K d pc L st h cb sb := by
  have q : asL h st fun h r => nxt P a K d k (pc + n) es L r h cb sb := q
  obtain ⟨hd, hl, -⟩ := dec_of o
  have hn : n = 1 := Nat.eq_of_beq_eq_true hl
  subst hn
  obtain ⟨x9, j, i, r, m9, g, rfl, hi, hin, qq⟩ := asL_of q
  refine G_of fun p e R s m args below meth c H locs cells slots ls F Y V hx hb => ?_
  have hc : H[gN P + i]? = some (vp_cell (gC P 2) (m9, .inr (.inl g))) := wd_arr Y.2.2.2 hi
  refine W.last hx hb hc (((Env_K F.2.2.2.2.2.2.1).2 2 _ rfl).1 m9 (fun j => .long (g j))) (fun q => by cases q) (by show ¬ (j < 0 ∨ (arrV _ _ _).slots.size ≤ _); rw [arrV_size]; exact hin) rfl rfl hd fun H1 e1 z1 oq => ?_
  refine nxt_go hk ho qq p e R s m args below meth c H1 _ cells slots _ F ⟨Y.1, Y.2.1, Y.2.2.1.put z1 oq ?_, wd_set Y.2.2.2 hi z1 ?_ oq⟩ V
  · show gN P ≤ gN P + i
    omega
  · show H1[gN P + i]? = some (vp_cell _ _)
    rw [e1]
    show _ = some (vp_cell (gC P 2) (m9, .inr (.inl (vp_updL g j.toNatClampNeg x9))))
    rw [vp_cell_l, vp_cell_l, arrV_store]
    congr 2
    funext q
    by_cases hq : q = j.toNatClampNeg
    · subst hq
      simp [updV, vp_updL]
    · simp [updV, vp_updL, hq]
theorem aln_of {f : Value → List Value → Prop} (q : aln P h st f) : (∃ i r k m g, st = .ref i :: r ∧ nth h i = some (.inl (k, m, g)) ∧ k < 4 ∧ f (.int (Int32.ofNat m)) r) ∨ (∃ r, st = .retAddr 0 :: r ∧ f (.int (Int32.ofNat (gL P))) r) ∨ (∃ c r m g, st = .retAddr c :: r ∧ cBy c = some (m, g) ∧ f (.int (Int32.ofNat m)) r) := by
  unfold aln at q
  split at q
  · split at q
    · split at q
      · rename_i hb
        exact Or.inl ⟨_, _, _, _, _, rfl, by assumption, Nat.le_of_ble_eq_true hb, q⟩
      · exact q.elim
    · exact q.elim
  · split at q
    · exact Or.inr (Or.inl ⟨_, rfl, q⟩)
    · split at q
      · exact Or.inr (Or.inr ⟨_, _, _, _, rfl, by assumption, q⟩)
      · exact q.elim
  · exact q.elim
theorem s_arraylength (hk : Goes1 P a K d k) (hA : AllOk a) (o : OkE a (pc, .arraylength, n, x, y, z, fl)) (ho : IsE a es) (q : stepI P a K d k (pc, .arraylength, n, x, y, z, fl) es L st h cb sb) : G P a K d pc L st h cb sb := by
  have q : aln P h st fun v r => nxt P a K d k (pc + n) es L (v :: r) h cb sb := q
  obtain ⟨hd, hl, -⟩ := dec_of o
  have hn : n = 1 := Nat.eq_of_beq_eq_true hl
  subst hn
  rcases aln_of q with ⟨i, r, k9, m9, g, rfl, hi, h4, qq⟩ | ⟨r, rfl, qq⟩ | ⟨c9, r, m9, g, rfl, hc, qq⟩
  · refine G_of fun p e R s m args below meth c H locs cells slots ls F Y V hx hb => ?_
    have hk9 : ∃ ty, (tys P)[k9]? = some (gC P k9, ty) := by
      match k9, h4 with
      | 0, _ => exact ⟨_, rfl⟩
      | 1, _ => exact ⟨_, rfl⟩
      | 2, _ => exact ⟨_, rfl⟩
      | 3, _ => exact ⟨_, rfl⟩
    obtain ⟨ty, hty⟩ := hk9
    exact va_alen (ws := [(gN P + i, .inl (gC P k9, m9, mRA P g))]) hx hb (Env_K F.2.2.2.2.2.2.1) (one_P (wd_arr Y.2.2.2 hi)) 0 k9 rfl hty rfl hd (nxt_go hk ho qq p e R s m args below meth c H locs cells slots _ F Y V)
  · exact G_of fun p e R s m args below meth c H locs cells slots ls F Y V hx hb => va_slen hx hb F.2.2.2.2.2.2.1.2.2.1 (script_lt F.2.2.2.2.2.2.1).1 (script_lt F.2.2.2.2.2.2.1).2 Y.2.2.1 hd (nxt_go hk ho qq p e R s m args below meth c H locs cells slots _ F Y V)
  · exact G_of fun p e R s m args below meth c H locs cells slots ls F Y V hx hb => va_tlen hx hb (cBy_of hc F.2.2.2.2.2.2.1) Y.2.2.1 rfl hd (nxt_go hk ho qq p e R s m args below meth c H locs cells slots _ F Y V)
end SIM4
end
section
/-! steps: constants, new cells, what is thrown, returns -/
section SIM5
variable {P : GP} {a : Nat} {K : Kt} {d : Nat}
variable {k : Ct} {es : List Ent} {pc n x y z : Nat} {fl : Bool} {L : mLs} {st : List Value} {h : mH} {cb sb : Nat}
theorem tfx : ∀ j z, j < 2 → nth kZ j = some z → ∀ w ∈ vx_atS rc_X z (exN j) nmX, w.onTables = true ∧ w ∈ WF := by
  have h0 : ∀ w ∈ vx_atS rc_X ((nth kZ 0).getD 0) (exN 0) nmX, w ∈ lT ∧ (w.onTables && w.keepsFace) = true := by decide +kernel
  have h1 : ∀ w ∈ vx_atS rc_X ((nth kZ 1).getD 0) (exN 1) nmX, w ∈ lT ∧ (w.onTables && w.keepsFace) = true := by decide +kernel
  intro j z hj hz w hw
  have key : w ∈ lT ∧ (w.onTables && w.keepsFace) = true := by
    match j, hj with
    | 0, _ => exact h0 w (by rw [hz]; exact hw)
    | 1, _ => exact h1 w (by rw [hz]; exact hw)
  have k2 := key.2
  simp only [Bool.and_eq_true] at k2
  exact ⟨k2.1, List.mem_filter.mpr ⟨key.1, key.2⟩⟩
theorem fitX : ∀ j, j < 2 → Bundle.fit (exN j) = true := by decide
theorem catS_map (P : GP) : ∀ st : List Value, ((st.map (mV P)).map fun v => v.category).sum = catS st
  | [] => rfl
  | v :: r => by
    simp only [List.map_cons, List.sum_cons, catS, mV_cat]
    rw [catS_map P r]
theorem wd_junk {h : mH} {H H1 : Heap} (w : Wd P h H) (hz : H.size ≤ H1.size) (ho : ∀ q : Nat, q < H.size → H1[q]? = H[q]?) : Wd P (h ++ List.replicate (H1.size - H.size) junk) H1 := by
  refine ⟨by rw [List.length_append, List.length_replicate]; have := w.1; omega, fun j x hj => ?_⟩
  rw [nth_app] at hj
  by_cases e : j < h.length
  · rw [if_pos e] at hj
    exact mC_kept (w.2 j x hj) (ho _ (by rw [w.1]; omega))
  · rw [if_neg e, nth_eq] at hj
    have hm := List.mem_of_getElem? hj
    rw [List.eq_of_mem_replicate hm]
    exact fun h9 => absurd h9 (by decide)
theorem s_ldc {ix : Nat} (hk : Goes1 P a K d k) (hA : AllOk a) (o : OkE a (pc, .ldc ix, n, x, y, z, fl)) (ho : IsE a es) (q : stepI P a K d k (pc, .ldc ix, n, x, y, z, fl) es L st h cb sb) : G P a K d pc L st h cb sb := by
  obtain ⟨hd, hl, hw⟩ := dec_of o
  unfold lnk at hl
  simp only [Bool.and_eq_true] at hl
  have hn : n = 2 := Nat.eq_of_beq_eq_true hl.1
  subst hn
  match y, q, hw, hl with
  | 0, q, hw, _ =>
    obtain ⟨v, hv, qq⟩ := cI_of q
    have hw := TB_in (hw (0, .constant (mOwn a) ix v) (by simp [lnW, hv]))
    exact G_of fun p e R s m args below meth c H locs cells slots ls F Y V hx hb => lv_ldc hx hb F.2.2.2.2.1 (F.2.2.2.2.2.1 _ hw) hd (nxt_go hk ho qq p e R s m args below meth c H locs cells slots _ F Y V)
  | 1, q, hw, hl =>
    have q : (match Nat.blt x 3 with | true => nxt P a K d k (pc + 2) es L (.retAddr (10 + x) :: st) h cb sb | false => False) := q
    have hq : (match Nat.blt x 3 with | true => (match nth LTx x with | some t => decide (t.1 = mOwn a) && Nat.beq t.2.1 ix | none => false) | false => true) = true := hl.2
    cases h3 : Nat.blt x 3 with
    | false => rw [h3] at q; exact q.elim
    | true =>
    rw [h3] at q hq
    dsimp only at q hq
    cases hs : nth LTx x with
    | none => rw [hs] at hq; cases hq
    | some t =>
      rw [hs] at hq
      simp only [Bool.and_eq_true, decide_eq_true_eq] at hq
      refine G_of fun p e R s m args below meth c H locs cells slots ls F Y V hx hb => ?_
      have hR := F.2.2.2.2.2.2.1.2.2.2.2.2.2.2.2.2.1 x t hs
      rw [hq.1, Nat.eq_of_beq_eq_true hq.2] at hR
      exact va_ldcS hx hb F.2.2.2.2.1 hR hd (nxt_go hk ho q p e R s m args below meth c H locs cells slots _ F Y V)
  | _ + 2, q, hw, _ => exact q.elim
theorem s_new {ix : Nat} (hk : Goes1 P a K d k) (hA : AllOk a) (o : OkE a (pc, .new ix, n, x, y, z, fl)) (ho : IsE a es) (q : stepI P a K d k (pc, .new ix, n, x, y, z, fl) es L st h cb sb) : G P a K d pc L st h cb sb := by
  obtain ⟨hd, hl, hw⟩ := dec_of o
  unfold lnk at hl
  simp only [Bool.and_eq_true] at hl
  have hn : n = 3 := Nat.eq_of_beq_eq_true hl.1
  subst hn
  have hl := hl.2
  unfold stepI at q
  dsimp only at q
  split at q
  · rename_i h100
    rw [h100] at hl
    dsimp only at hl
    simp only [Bool.and_eq_true, decide_eq_true_eq] at hl
    obtain ⟨⟨⟨⟨⟨⟨⟨hd3, hd4⟩, hd6⟩, hd9⟩, hLR⟩, hown9⟩, hkz⟩, hx2⟩ := hl
    split at q
    · rename_i hex
      obtain ⟨⟨q1, q2, q3, q4⟩, q5⟩ := q
      have hw1 := TB_in (hw (0, .classLink (mOwn a) ix (exN (x - 100))) (by simp [lnW, h100]))
      have hw2 := TB_in (hw (0, .initialized (exN (x - 100))) (by simp [lnW, h100]))
      have hx9 : x - 100 < 2 := by have : x < 102 := Nat.le_of_ble_eq_true hx2; omega
      have hwf := tfx (x - 100) z hx9 hkz
      rw [← hown9] at hwf
      obtain ⟨tq, htq, hte⟩ := List.any_eq_true.mp hLR
      simp only [Bool.and_eq_true, decide_eq_true_eq] at hte
      refine G_of fun p e R s m args below meth c H locs cells slots ls F Y V hx hb => ?_
      obtain ⟨-, -, hml, -, hown, hts, hE, hlocks, -, htab, hfr, hlo⟩ := id F
      obtain ⟨hY1, hY2, hS, hWd⟩ := id Y
      obtain ⟨sa, hsa⟩ := hE.2.2.2.2.2.2.2.2.1 tq htq
      rw [hte.1, Nat.eq_of_beq_eq_true hte.2] at hsa
      refine vx_throwS (names := nmX) (sa := sa) (A := gF P) hx hb hE.2.2.2.2.2.2.2.2.2.2.2.2.2.2.2.1 hown (fitX (x - 100) hx9) (by decide) (hts _ hw1) (hts _ hw2) hsa (fun w hw => va_Nw.use (hwf w hw).1 (hE.2.2.2.2.1 w (hwf w hw).2)) (fun w hw => ?_)
        hE.2.2.2.2.2.2.1 hE.2.2.2.2.2.2.2.1 hS (V.1.1.trans hml.symm) hd hd3 hd4 hd6 hd9 (fun x9 hx9 => ?_) (by show 2 + 3 < R.frames; omega) (by rw [catS_map]; show catS st + (13 * (2 + 1) + 43) ≤ R.locals; omega) (by omega) (by omega) hlocks (fun t halike hsz hsame => ?_) (fun w hw => hS.2.2 w hw) (by omega) (by omega)
      · rcases List.mem_cons.mp hw with rfl | hw
        · simp [vx_ot, TB_good hw1]
        · rcases List.mem_cons.mp hw with rfl | hw
          · simp [vx_ot, TB_good hw2]
          · simp [vx_ot, (hwf w hw).1]
      · rw [htab, hex] at hx9
        cases hx9
      · refine ⟨x - 100, h ++ List.replicate (t.heap.size - H.size) junk, ⟨hx9, rfl⟩, q5 _, wd_junk hWd hsz hsame, Nat.le_trans hS.1 hsz, fun q h1 h2 => ?_⟩
        rw [hsame q (Nat.lt_of_lt_of_le h1 hS.1)]
        exact hS.2.1 q h1 h2
    · exact q.elim
  · rename_i h100
    rw [h100] at hl
    split at q
    · exact q.elim
    · rename_i h5
      rw [h5] at hl
      dsimp only at hl
      have hx5 : x < 5 := by
        rcases Nat.lt_or_ge x 5 with w | w
        · exact w
        · rw [Nat.ble_eq_true_of_le w] at h5; cases h5
      have hyN : y = mNn x := Nat.eq_of_beq_eq_true hl
      subst hyN
      obtain ⟨⟨q1, q2⟩, qq⟩ := q
      have hw1 := TB_in (hw (0, .classLink (mOwn a) ix (mCn x)) (by simp [lnW, h100, h5]))
      have hw2 := TB_in (hw (0, .instantiable (mCn x) (mNn x)) (by simp [lnW, h100, h5]))
      have hw3 := TB_in (hw (0, .initialized (mCn x)) (by simp [lnW, h100, h5]))
      refine G_of fun p e R s m args below meth c H locs cells slots ls F Y V hx hb => ?_
      obtain ⟨-, -, -, -, hown, hts, hE, -⟩ := id F
      obtain ⟨hY1, hY2, hS, hWd⟩ := id Y
      have hKn := (Env_K hE).1 x _ (mCl_at x hx5)
      refine W.newcK hx hb hown (hts _ hw1) (hts _ hw2) (hts _ hw3) rfl hd (by omega) (by omega) hKn.2.1 rfl fun H1 kC hkC e1 z1 o1 => ?_
      have hz : H.size = gN P + h.length := hWd.1
      have K1 := nxt_go hk ho qq p e R s m args below meth c H1 locs (cells + 1) (slots + mNn x) ls F ⟨by omega, by omega, ⟨Nat.le_trans hS.1 (by omega), fun x h1 h2 => (o1 x (Nat.lt_of_lt_of_le h1 hS.1)).trans (hS.2.1 x h1 h2), hS.2.2⟩, wd_push hWd z1 ?_ o1⟩ V
      · show W _ _ _ _ _ _ _ _ _ _ _ _ _ _ _ (F0 m (pc + 3) ls (.ref H.size :: st.map (mV P)))
        rw [hz]
        exact K1
      · intro _
        refine ⟨_, mCl_at x hx5, ?_⟩
        show t_OB (gN P + h.length) _ _ _ _ _
        rw [← hz]
        exact (u_born (mTy x) hts (inW x hx5) hKn hkC e1 (mTy_ok x hx5)).to (mDf_ok x hx5)
theorem arrK {s : State} (hE : Env P s) {k9 : Nat} {ty : FieldType} {cA : ClassId} (ht : (tys P)[k9]? = some (gC P k9, ty)) (hn : s.vm.findClass ("[" ++ ty.toString) = some cA) (ho : ∀ C, ty ≠ .object C) : gC P k9 = cA := by
  have h2 := ((Env_K hE).2 k9 _ ht).2
  cases ty with
  | object C => exact (ho C rfl).elim
  | _ => exact Option.some.inj (h2.symm.trans hn)
theorem s_newarray {t : ArrayType} (hk : Goes1 P a K d k) (hA : AllOk a) (o : OkE a (pc, .newarray t, n, x, y, z, fl)) (ho : IsE a es) (q : stepI P a K d k (pc, .newarray t, n, x, y, z, fl) es L st h cb sb) : G P a K d pc L st h cb sb := by
  obtain ⟨v, r, rfl, ⟨g1, g2, g3, g4⟩, q⟩ := p1i_of q
  obtain ⟨hd, hl, hw⟩ := dec_of o
  unfold lnk at hl
  simp only [Bool.and_eq_true] at hl
  have hn : n = 2 := Nat.eq_of_beq_eq_true hl.1
  subst hn
  have hl := hl.2
  match x, q, hw, hl with
  | 0, q, hw, hl =>
    have hl : t = .byte := of_decide_eq_true hl
    subst hl
    have hw := TB_in (hw _ (List.mem_singleton.mpr rfl))
    refine G_of fun p e R s m args below meth c H locs cells slots ls F Y V hx hb => ?_
    obtain ⟨hY1, hY2, hS, hWd⟩ := id Y
    refine va_newaK (atype := .byte) hx hb (F.2.2.2.2.2.1 _ hw) rfl hd rfl g1 rfl (by show _ * 1 ≤ _; omega) (by omega) (by omega) rfl fun H1 cA e1 z1 o1 _ hNm => ?_
    have hz : H.size = gN P + h.length := hWd.1
    have hcA := arrK F.2.2.2.2.2.2.1 (k9 := 0) rfl hNm (fun _ e => by cases e)
    have K1 := nxt_go hk ho q p e R s m args below meth c H1 locs (cells + 1) (slots + v.toNatClampNeg) ls F ⟨by omega, by omega, ⟨Nat.le_trans hS.1 (by omega), fun x h1 h2 => (o1 x (Nat.lt_of_lt_of_le h1 hS.1)).trans (hS.2.1 x h1 h2), hS.2.2⟩, wd_push hWd z1 (by show H1[gN P + h.length]? = _; rw [← hz, hcA]; exact e1) o1⟩ V
    show W _ _ _ _ _ _ _ _ _ _ _ _ _ _ _ (F0 m (pc + 2) ls (.ref H.size :: r.map (mV P)))
    rw [hz]
    exact K1
  | 1, q, hw, hl =>
    have hl : t = .int := of_decide_eq_true hl
    subst hl
    have hw := TB_in (hw _ (List.mem_singleton.mpr rfl))
    refine G_of fun p e R s m args below meth c H locs cells slots ls F Y V hx hb => ?_
    obtain ⟨hY1, hY2, hS, hWd⟩ := id Y
    refine va_newaK (atype := .int) hx hb (F.2.2.2.2.2.1 _ hw) rfl hd rfl g1 rfl (by show _ * 4 ≤ _; omega) (by omega) (by omega) rfl fun H1 cA e1 z1 o1 _ hNm => ?_
    have hz : H.size = gN P + h.length := hWd.1
    have hcA := arrK F.2.2.2.2.2.2.1 (k9 := 1) rfl hNm (fun _ e => by cases e)
    have K1 := nxt_go hk ho q p e R s m args below meth c H1 locs (cells + 1) (slots + v.toNatClampNeg) ls F ⟨by omega, by omega, ⟨Nat.le_trans hS.1 (by omega), fun x h1 h2 => (o1 x (Nat.lt_of_lt_of_le h1 hS.1)).trans (hS.2.1 x h1 h2), hS.2.2⟩, wd_push hWd z1 (by show H1[gN P + h.length]? = _; rw [← hz, hcA]; exact e1) o1⟩ V
    show W _ _ _ _ _ _ _ _ _ _ _ _ _ _ _ (F0 m (pc + 2) ls (.ref H.size :: r.map (mV P)))
    rw [hz]
    exact K1
  | 2, q, hw, hl =>
    have hl : t = .long := of_decide_eq_true hl
    subst hl
    have hw := TB_in (hw _ (List.mem_singleton.mpr rfl))
    refine G_of fun p e R s m args below meth c H locs cells slots ls F Y V hx hb => ?_
    obtain ⟨hY1, hY2, hS, hWd⟩ := id Y
    refine va_newaK (atype := .long) hx hb (F.2.2.2.2.2.1 _ hw) rfl hd rfl g1 rfl (by show _ * 8 ≤ _; omega) (by omega) (by omega) rfl fun H1 cA e1 z1 o1 _ hNm => ?_
    have hz : H.size = gN P + h.length := hWd.1
    have hcA := arrK F.2.2.2.2.2.2.1 (k9 := 2) rfl hNm (fun _ e => by cases e)
    have K1 := nxt_go hk ho q p e R s m args below meth c H1 locs (cells + 1) (slots + v.toNatClampNeg) ls F ⟨by omega, by omega, ⟨Nat.le_trans hS.1 (by omega), fun x h1 h2 => (o1 x (Nat.lt_of_lt_of_le h1 hS.1)).trans (hS.2.1 x h1 h2), hS.2.2⟩, wd_push hWd z1 (by show H1[gN P + h.length]? = _; rw [← hz, hcA]; exact e1) o1⟩ V
    show W _ _ _ _ _ _ _ _ _ _ _ _ _ _ _ (F0 m (pc + 2) ls (.ref H.size :: r.map (mV P)))
    rw [hz]
    exact K1
  | _ + 3, q, hw, hl => exact q.elim
theorem qc_of {v : Option Value} {R : Room} {s t : State} {args : Array Value} {H : Heap} {locs : List Loc} {cells slots : Nat} (q : K (.inl v) h) (Y : Dy P R s H locs cells slots h cb sb) (ht : t.heap = H) : QcK P K args s (.returned (v.map (mV P))) t :=
  ⟨v, h, rfl, q, by rw [ht]; exact Y.2.2.2, Y.2.2.1.F ht⟩
theorem s_return_ (hk : Goes1 P a K d k) (hA : AllOk a) (o : OkE a (pc, .return_, n, x, y, z, fl)) (ho : IsE a es) (q : stepI P a K d k (pc, .return_, n, x, y, z, fl) es L st h cb sb) : G P a K d pc L st h cb sb := by
  obtain ⟨hd, hl, -⟩ := dec_of o
  have hn : n = 1 := Nat.eq_of_beq_eq_true hl
  subst hn
  have hq : st = [] ∧ mRet a = none ∧ K (.inl none) h := by
    unfold stepI at q
    dsimp only at q
    split at q
    · split at q
      · exact ⟨rfl, by assumption, q⟩
      · exact q.elim
    · exact q.elim
  obtain ⟨rfl, hr, q⟩ := hq
  exact G_of fun p e R s m args below meth c H locs cells slots ls F Y V hx hb =>
    vx_ret (W.widen (k := R.cells) (n := R.slots) (Nat.le_trans (Nat.le_add_right _ _) Y.1) (Nat.le_trans (Nat.le_add_right _ _) Y.2.1) (W.vret hx hb (F.2.2.2.1.trans hr) (fun t ht _ => qc_of q Y ht) (fun q hq => Y.2.2.1.2.2 q hq) hd F.2.2.2.2.2.2.2.1))
theorem s_ireturn (hk : Goes1 P a K d k) (hA : AllOk a) (o : OkE a (pc, .ireturn, n, x, y, z, fl)) (ho : IsE a es) (q : stepI P a K d k (pc, .ireturn, n, x, y, z, fl) es L st h cb sb) : G P a K d pc L st h cb sb := by
  obtain ⟨v, r, rfl, q1⟩ := p1i_of q
  obtain ⟨hd, hl, -⟩ := dec_of o
  have hn : n = 1 := Nat.eq_of_beq_eq_true hl
  subst hn
  cases r with
  | cons _ _ => exact q1.elim
  | nil =>
  have hq : ∃ ty, mRet a = some ty ∧ narrow ty (.int v) = .int v ∧ K (.inl (some (.int v))) h := by
    dsimp only at q1
    split at q1
    · exact ⟨_, by assumption, rfl, q1⟩
    · exact ⟨_, by assumption, q1.1, q1.2⟩
    · exact q1.elim
  obtain ⟨ty, hr, hn, q⟩ := hq
  exact G_of fun p e R s m args below meth c H locs cells slots ls F Y V hx hb =>
    vx_ret (W.widen (k := R.cells) (n := R.slots) (Nat.le_trans (Nat.le_add_right _ _) Y.1) (Nat.le_trans (Nat.le_add_right _ _) Y.2.1) (W.zret hx hb (F.2.2.2.1.trans hr) hn (fun t ht _ => qc_of q Y ht) (fun q hq => Y.2.2.1.2.2 q hq) hd F.2.2.2.2.2.2.2.1))
theorem s_lreturn (hk : Goes1 P a K d k) (hA : AllOk a) (o : OkE a (pc, .lreturn, n, x, y, z, fl)) (ho : IsE a es) (q : stepI P a K d k (pc, .lreturn, n, x, y, z, fl) es L st h cb sb) : G P a K d pc L st h cb sb := by
  obtain ⟨v, r, rfl, q1⟩ := p1l_of q
  obtain ⟨hd, hl, -⟩ := dec_of o
  have hn : n = 1 := Nat.eq_of_beq_eq_true hl
  subst hn
  cases r with
  | cons _ _ => exact q1.elim
  | nil =>
  have hq : mRet a = some .long ∧ K (.inl (some (.long v))) h := by
    dsimp only at q1
    split at q1
    · exact ⟨by assumption, q1⟩
    · exact q1.elim
  obtain ⟨hr, q⟩ := hq
  exact G_of fun p e R s m args below meth c H locs cells slots ls F Y V hx hb =>
    vx_ret (W.widen (k := R.cells) (n := R.slots) (Nat.le_trans (Nat.le_add_right _ _) Y.1) (Nat.le_trans (Nat.le_add_right _ _) Y.2.1) (W.lret hx hb (F.2.2.2.1.trans hr) (fun t ht _ => qc_of q Y ht) (fun q hq => Y.2.2.1.2.2 q hq) hd F.2.2.2.2.2.2.2.1))
theorem isR_of {t : Option FieldType} (h : isR t = true) : ∃ rt, t = some rt ∧ ((∃ n, rt = .object n) ∨ ∃ u, rt = .array u) := by
  unfold isR at h
  split at h
  · exact ⟨_, rfl, Or.inl ⟨_, rfl⟩⟩
  · exact ⟨_, rfl, Or.inr ⟨_, rfl⟩⟩
  · cases h
theorem s_areturn (hk : Goes1 P a K d k) (hA : AllOk a) (o : OkE a (pc, .areturn, n, x, y, z, fl)) (ho : IsE a es) (q : stepI P a K d k (pc, .areturn, n, x, y, z, fl) es L st h cb sb) : G P a K d pc L st h cb sb := by
  obtain ⟨hd, hl, -⟩ := dec_of o
  have hn : n = 1 := Nat.eq_of_beq_eq_true hl
  subst hn
  have hq : ∃ v b, st = [v] ∧ mV P v = .ref b ∧ isR (mRet a) = true ∧ K (.inl (some v)) h := by
    unfold stepI at q
    dsimp only at q
    split at q
    · split at q
      · exact ⟨_, _, rfl, rfl, by assumption, q⟩
      · exact q.elim
    · split at q
      · exact ⟨_, _, rfl, rfl, by assumption, q⟩
      · exact q.elim
    · exact q.elim
  obtain ⟨v, b, rfl, hb9, hr, q⟩ := hq
  obtain ⟨rt, hr, hrt⟩ := isR_of hr
  exact G_of fun p e R s m args below meth c H locs cells slots ls F Y V hx hb =>
    vx_ret (W.widen (k := R.cells) (n := R.slots) (Nat.le_trans (Nat.le_add_right _ _) Y.1) (Nat.le_trans (Nat.le_add_right _ _) Y.2.1) (W.aret hx hb (F.2.2.2.1.trans hr) hrt (Or.inr ⟨b, hb9⟩) (fun t ht _ => qc_of q Y ht) (fun q hq => Y.2.2.1.2.2 q hq) hd F.2.2.2.2.2.2.2.1))
end SIM5
end
section
/-! steps: calls -/
section SIM6
variable {P : GP} {a : Nat} {K : Kt} {d : Nat}
variable {k : Ct} {es : List Ent} {pc n x y z : Nat} {fl : Bool} {L : mLs} {st : List Value} {h : mH} {cb sb : Nat}
theorem Env_step {s U : State} {H : Heap} {locs : List Loc} (h : Env P s) (hW : s.WarmedH U.vm) (hS : va_S (gF P) s.heap H locs) (hU : U.heap = H) : Env P U := by
  obtain ⟨h1, h2, h3, h4, h5, h6, h7, h8, h9, h10, h11, h12, ⟨h13, h14⟩, ⟨h15, h16⟩, ⟨h17, h18⟩, h19, h20⟩ := h
  subst hU
  refine ⟨va_K.moved hW.alike h1, Nat.le_trans h2 hS.1, va_X.moved hW.alike (h3.kept (hS.2.1 _ (Nat.lt_of_lt_of_le h4 h2) (Nat.not_le.mpr h4))), h4, fun w hw => ?_, fun w hw => ?_, vx_Zq.moved hW.alike (h7.kept hS.2.1), vx_Zq.moved hW.alike (h8.kept hS.2.1),
    fun q hq => ?_, fun i q hq => vk_R.warm hW (h10 i q hq), vk_S.moved hW.alike (h11.kept hS.2.1), va_Z.moved hW.alike (h12.kept hS.2.1), ⟨va_Z.moved hW.alike (h13.kept hS.2.1), va_T.moved hW.alike (h14.kept hS.2.1)⟩, ⟨va_Z.moved hW.alike (h15.kept hS.2.1), va_T.moved hW.alike (h16.kept hS.2.1)⟩, ⟨va_Nc.moved hW.alike h17, va_Nc.moved hW.alike h18⟩, h19, over_moved hW.alike h20⟩
  · have hf := (List.mem_filter.mp hw).2
    simp only [Bool.and_eq_true] at hf
    have e := Cond.before_shiftedFace (State.Shifted.of_warmed hW) w hf.2 (h5 w hw)
    exact va_tabs hf.1 (rfl : (s.setVm U.vm).vm = U.vm) e
  · have hf := (List.mem_filter.mp hw).2
    have hb := h6 w hw
    cases w <;> first | exact va_Nw.warmF hW hb | exact va_Nw.warmM hW hb | (simp [isNest] at hf; done)
  · obtain ⟨sa, hs⟩ := h9 q hq
    exact ⟨sa, vk_R.warm hW hs⟩
theorem Env_same {u U : State} (h : Env P u) (hv : U.vm = u.vm) (hh : U.heap = u.heap) : Env P U :=
  Env_step (H := u.heap) (locs := []) h (by rw [hv]; exact State.WarmedH.refl u) va_S.rf hh
theorem Pc_blind (as : List Value) (h : mH) : FrameBlind (PcK P as h) := fun a U g mk q => ⟨q.1, Env_same q.2.1 rfl rfl, q.2.2⟩
theorem catE_mem : ∀ {l : List (Nat × Nat)} {i E : Nat}, catE l i = some E → (i, E) ∈ l
  | [], i, E, h => by simp [catE] at h
  | q :: r, i, E, h => by
    unfold catE at h
    split at h
    · rename_i hb
      have := Nat.eq_of_beq_eq_true hb
      cases h
      rw [← this]
      exact List.mem_cons_self
    · exact List.mem_cons_of_mem _ (catE_mem h)
theorem exW : ∀ q ∈ kC, q.1 ≠ 0 ∧ (.classLink rc_K q.1 (exN q.2) : Jvm.Cond) ∈ TB := by
  have h : ∀ q ∈ kC, q.1 ≠ 0 ∧ ((.classLink rc_K q.1 (exN q.2) : Jvm.Cond) ∈ lT ∧ okK 0 (.classLink rc_K q.1 (exN q.2)) = true) := by decide +kernel
  exact fun q hq => ⟨(h q hq).1, TB_in (h q hq).2⟩
theorem exC : ∀ E, E < 2 → (.castable (exN E) (exN E) : Jvm.Cond) ∈ WF := by
  have h : ∀ E, E < 2 → ((.castable (exN E) (exN E) : Jvm.Cond) ∈ lT ∧ okK 2 (.castable (exN E) (exN E)) = true) := by decide +kernel
  exact fun E hE => List.mem_filter.mpr ⟨(h E hE).1, (h E hE).2⟩
/-- an entry of a table that does not take what is thrown -/
def exPass (pc E : Nat) (x : Nat × Nat × Nat × Nat) : Prop := ¬ (x.1 ≤ pc ∧ pc < x.2.1) ∨ ∃ E2, catE kC x.2.2.2 = some E2 ∧ E2 ≠ E
theorem findH_none {pc E : Nat} : ∀ {l : List (Nat × Nat × Nat × Nat)}, findH l pc E = none → ∀ x ∈ l, exPass pc E x
  | [], _, x, hx => nomatch hx
  | y :: r, h, x, hx => by
    unfold findH at h
    split at h
    · split at h
      · rename_i E2 hc
        split at h
        · cases h
        · rename_i hne
          rcases List.mem_cons.mp hx with rfl | hx
          · exact Or.inr ⟨E2, hc, fun e => by subst e; rw [Nat.beq_refl] at hne; cases hne⟩
          · exact findH_none h x hx
      · cases h
    · rename_i hb
      rcases List.mem_cons.mp hx with rfl | hx
      · refine Or.inl fun q => ?_
        rw [Nat.ble_eq_true_of_le q.1, show Nat.blt pc x.2.1 = true from Nat.ble_eq_true_of_le q.2] at hb
        cases hb
      · exact findH_none h x hx
theorem findH_some {pc E t : Nat} : ∀ {l : List (Nat × Nat × Nat × Nat)}, findH l pc E = some t → ∃ pre x suf, l = pre ++ x :: suf ∧ (∀ y ∈ pre, exPass pc E y) ∧ (x.1 ≤ pc ∧ pc < x.2.1) ∧ ((catE kC x.2.2.2 = some E ∧ t = x.2.2.1) ∨ catE kC x.2.2.2 = none)
  | [], h => by simp [findH] at h
  | y :: r, h => by
    unfold findH at h
    split at h
    · rename_i hb
      simp only [Bool.and_eq_true] at hb
      have hb2 : y.1 ≤ pc ∧ pc < y.2.1 := ⟨Nat.le_of_ble_eq_true hb.1, Nat.le_of_ble_eq_true hb.2⟩
      split at h
      · rename_i E2 hc
        split at h
        · rename_i he
          have := Nat.eq_of_beq_eq_true he
          subst this
          cases h
          exact ⟨[], y, r, rfl, (fun _ h => nomatch h), hb2, Or.inl ⟨hc, rfl⟩⟩
        · rename_i hne
          obtain ⟨pre, x, suf, e1, e2, e3⟩ := findH_some h
          refine ⟨y :: pre, x, suf, by rw [e1]; rfl, fun w hw => ?_, e3⟩
          rcases List.mem_cons.mp hw with rfl | hw
          · exact Or.inr ⟨E2, hc, fun e => by subst e; rw [Nat.beq_refl] at hne; cases hne⟩
          · exact e2 w hw
      · exact ⟨[], y, r, rfl, (fun _ h => nomatch h), hb2, Or.inr (by assumption)⟩
    · rename_i hb
      obtain ⟨pre, x, suf, e1, e2, e3⟩ := findH_some h
      refine ⟨y :: pre, x, suf, by rw [e1]; rfl, fun w hw => ?_, e3⟩
      rcases List.mem_cons.mp hw with rfl | hw
      · refine Or.inl fun q => ?_
        rw [Nat.ble_eq_true_of_le q.1, show Nat.blt pc w.2.1 = true from Nat.ble_eq_true_of_le q.2] at hb
        cases hb
      · exact e2 w hw
theorem exCat {x : Nat × Nat × Nat × Nat} (hA : AllOk a) (hx : x ∈ mEx a) : mOwn a = rc_K ∧ ∃ E, catE kC x.2.2.2 = some E ∧ E < 2 := by
  have hA2 := hA.2
  unfold exOkB at hA2
  rw [Bool.and_eq_true] at hA2
  have := List.all_eq_true.mp hA2.2 x hx
  simp only [Bool.and_eq_true, decide_eq_true_eq] at this
  obtain ⟨h1, h2⟩ := this
  split at h2
  · exact ⟨h1, _, by assumption, Nat.le_of_ble_eq_true h2⟩
  · cases h2
theorem exNc {s : State} (hE : Env P s) : ∀ E E2, E < 2 → E2 < 2 → E2 ≠ E → va_Nc (exN E) (exN E2) s
  | 0, 0, _, _, h => absurd rfl h
  | 0, 1, _, _, _ => hE.2.2.2.2.2.2.2.2.2.2.2.2.2.2.1.2
  | 1, 0, _, _, _ => hE.2.2.2.2.2.2.2.2.2.2.2.2.2.2.1.1
  | 1, 1, _, _, h => absurd rfl h
  | _ + 2, _, h, _, _ => absurd h (by omega)
  | _, _ + 2, _, h, _ => absurd h (by omega)
theorem exPassV {p : Program} {R : Room} {s : State} {m : MethodId} {args : Array Value} {meth : Method} {c : Code} (F : Fx P a d p R s m args meth c) (hA : AllOk a) {pc E : Nat} (hE2 : E < 2) {x : Nat × Nat × Nat × Nat} (hx : x ∈ mEx a) (h : exPass pc E x) :
    covers ⟨x.1, x.2.1, x.2.2.1, x.2.2.2⟩ pc = false ∨ (x.2.2.2 ≠ 0 ∧ ∃ nm : String, (Cond.classLink (mOwn a) x.2.2.2 nm).before args s = true ∧ va_Nc (exN E) nm s) := by
  rcases h with h | ⟨E2, h1, h2⟩
  · left
    show (decide (x.1 ≤ pc) && decide (pc < x.2.1)) = false
    by_cases c1 : x.1 ≤ pc
    · by_cases c2 : pc < x.2.1
      · exact absurd ⟨c1, c2⟩ h
      · simp [c2]
    · simp [c1]
  · right
    obtain ⟨ho, E3, h3, h4⟩ := exCat hA hx
    rw [h1] at h3
    cases h3
    have hw := exW _ (catE_mem h1)
    refine ⟨hw.1, exN E2, ?_, exNc F.2.2.2.2.2.2.1 E E2 hE2 h4 h2⟩
    rw [ho]
    exact F.2.2.2.2.2.1 _ hw.2
theorem thr_go {p : Program} {e : Jvm.Env} {R : Room} {s : State} {m : MethodId} {args : Array Value} {below : List Frame} {meth : Method} {c : Code} {H : Heap} {locs : List Loc} {cells slots : Nat} {ls : Array Slot} {E : Nat} {q9 : Addr} {ce : Cell} {rest : List Value}
    (hk : Goes1 P a K d k) (hA : AllOk a) (F : Fx P a d p R s m args meth c) (Y : Dy P R s H locs cells slots h cb sb) (V : LV P ls (mMax a) L) (hE2 : E < 2) (q : thr P a K d k pc L h cb sb E) (hcell : H[q9]? = some ce) (hv : ce.vm = .none) (hcl : s.vm.findClass (exN E) = some ce.cls) :
    vx_W p (gl P) e R s m args below meth c H locs cells slots (vx_MQ below (QcK P K) (XcK P K) args s R.cells R.slots (gF P)) (F0 m pc ls rest) q9 := by
  obtain ⟨hx, hb, hml, hr, hown, hts, hE, hlocks, -, htab, -⟩ := id F
  unfold thr at q
  split at q
  · rename_i hf
    refine vx_outP hown hlocks (fun z hz => ?_) hcell hv hcl (fun t ht _ => ⟨E, h, ⟨hE2, rfl⟩, q, by rw [ht]; exact Y.2.2.2, Y.2.2.1.F ht⟩) (fun z hz => Y.2.2.1.2.2 z hz) (Nat.le_trans (Nat.le_add_right _ _) Y.1) (Nat.le_trans (Nat.le_add_right _ _) Y.2.1)
    rw [htab] at hz
    obtain ⟨x, hx9, rfl⟩ := List.mem_map.mp hz
    exact exPassV F hA hE2 hx9 (findH_none hf x hx9)
  · rename_i t hf
    obtain ⟨pre, x, suf, e1, e2, e3, e4⟩ := findH_some hf
    have hx9 : x ∈ mEx a := by rw [e1]; exact List.mem_append_right _ List.mem_cons_self
    obtain ⟨ho, E3, h3, h4⟩ := exCat hA hx9
    rcases e4 with ⟨h5, rfl⟩ | h5
    · have hw := exW _ (catE_mem h5)
      refine vx_catch hown (pre.map fun q => ⟨q.1, q.2.1, q.2.2.1, q.2.2.2⟩) ⟨x.1, x.2.1, x.2.2.1, x.2.2.2⟩ (suf.map fun q => ⟨q.1, q.2.1, q.2.2.1, q.2.2.2⟩) (name := exN E) (by rw [htab, e1]; show List.map _ _ = _; rw [List.map_append, List.map_cons]) (fun z hz => ?_) ?_ hw.1 ?_ (va_Nw.use rfl (hE.2.2.2.2.1 _ (exC E hE2))) hcell hv hcl ?_
      · obtain ⟨w, hw9, rfl⟩ := List.mem_map.mp hz
        exact exPassV F hA hE2 (by rw [e1]; exact List.mem_append_left _ hw9) (e2 w hw9)
      · show (decide (x.1 ≤ pc) && decide (pc < x.2.1)) = true
        simp [e3.1, e3.2]
      · rw [ho]
        exact hts _ hw.2
      · show W _ _ _ _ _ _ _ _ _ _ _ _ _ _ _ (F0 m x.2.2.1 ls [.ref q9])
        split at q
        · rename_i e9 cs hs
          have hpc := seekC_hd _ _ _ _ hs
          have hcs : IsE a (e9 :: cs) := by rw [← hs]; exact isE_seek hA _
          obtain ⟨pc9, i9, n9, x9, y9, z9, f9⟩ := e9
          dsimp only at hpc
          subst hpc
          obtain ⟨hd, hl, -⟩ := dec_of (hcs _ List.mem_cons_self)
          have ho2 : IsE a cs := fun e he => hcs e (List.mem_cons_of_mem _ he)
          dsimp only at q
          split at q
          · obtain ⟨L2, qq, h2, hlt, h4⟩ := set1_of _ _ _ _ q
            unfold lnk at hl
            simp only [Bool.and_eq_true] at hl
            have hn := Nat.eq_of_beq_eq_true hl.1
            subst hn
            have hj := Nat.eq_of_beq_eq_true hl.2
            subst hj
            exact lv_astore hx hb hd V.1 (Nat.lt_of_lt_of_le hlt V.2) rfl (fun ls' hl' => nxt_go hk ho2 qq p e R s m args below meth c H locs cells slots _ F Y (LV_set1 V h2 h4 (fun w hw => by cases hw) hl'))
          · obtain ⟨L2, qq, h2, hlt, h4⟩ := set1_of _ _ _ _ q
            unfold lnk at hl
            simp only [Bool.and_eq_true] at hl
            have hn := Nat.eq_of_beq_eq_true hl.1
            subst hn
            have hj := Nat.eq_of_beq_eq_true hl.2
            exact lv_astore_n hx hb hd hj V.1 (Nat.lt_of_lt_of_le hlt V.2) rfl (fun ls' hl' => nxt_go hk ho2 qq p e R s m args below meth c H locs cells slots _ F Y (LV_set1 V h2 h4 (fun w hw => by cases hw) hl'))
          · exact q.elim
        · exact q.elim
    · rw [h3] at h5
      cases h5
/-- what comes back from a call -/
def retK (P : GP) (a : Nat) (K : Kt) (d : Nat) (k : Ct) (pc n : Nat) (cs : List Ent) (L : mLs) (cb sb mc ms : Nat) (r : List Value) : Kt := fun res h' => match res with
  | .inl v => match v with
    | some w => nxt P a K d k (pc + n) cs L (w :: r) h' (cb - mc) (sb - ms)
    | none => nxt P a K d k (pc + n) cs L r h' (cb - mc) (sb - ms)
  | .inr E => thr P a K d k pc L h' (cb - mc) (sb - ms) E
theorem call_go {p : Program} {e : Jvm.Env} {R : Room} {s : State} {m : MethodId} {args : Array Value} {below : List Frame} {meth : Method} {c : Code} {H : Heap} {locs : List Loc} {cells slots : Nat} {ls : Array Slot} {mc ms : Nat} {r : List Value} {st0 : List Value} {av : Array Value}
    (hk : Goes1 P a K d k) (hA : AllOk a) (ho : IsE a es) (F : Fx P a d p R s m args meth c) (Y : Dy P R s H locs cells slots h cb sb) (V : LV P ls (mMax a) L) (hmc : mc ≤ cb) (hms : ms ≤ sb)
    (hr : vx_Run p (gl P) e R s m args below meth c H locs cells slots mc ms (F0 m pc ls st0) (r.map (mV P)) (QcK P (retK P a K d k pc 3 es L cb sb mc ms r) av) (XcK P (retK P a K d k pc 3 es L cb sb mc ms r)) (gF P)) :
    W p (gl P) e R s m args below meth c H locs cells slots (vx_MQ below (QcK P K) (XcK P K) args s R.cells R.slots (gF P)) (F0 m pc ls st0) := by
  obtain ⟨hY1, hY2, hS, hWd⟩ := id Y
  intro T hT X
  rcases hr T hT X with ⟨v, st₀, t, T', Lc, h0, X', hL, e1, e2, ⟨v9, h9, ho9, hk9, hw9, hF⟩, stp⟩ | ⟨q, st₀, t, T', Lc, E, ce, h0, X', hL, e1, e2, ⟨k9, h9, ⟨hk2, rfl⟩, hk9, hw9, hF⟩, hce, hcv, hcl, stp⟩
  · obtain ⟨k1, k2, k3⟩ := vx_keep h0 e1 hS (fun q _ h => h) (fun q h => h) hL hF
    have Y' : Dy P R s T'.heap (locs ++ Lc) (cells + mc) (slots + ms) h9 (cb - mc) (sb - ms) := ⟨by omega, by omega, k3, by rw [e1]; exact hw9⟩
    cases v9 with
    | none =>
      cases ho9
      obtain ⟨t2, a1, b1⟩ := nxt_go hk ho hk9 p e R s m args below meth c T'.heap (locs ++ Lc) (cells + mc) (slots + ms) ls F Y' V T' rfl X'
      exact ⟨t2, stp t2 a1, b1⟩
    | some w =>
      cases ho9
      obtain ⟨t2, a1, b1⟩ := nxt_go hk ho hk9 p e R s m args below meth c T'.heap (locs ++ Lc) (cells + mc) (slots + ms) ls F Y' V T' rfl X'
      exact ⟨t2, stp t2 a1, b1⟩
  · obtain ⟨k1, k2, k3⟩ := vx_keep h0 e1 hS (fun q _ h => h) (fun q h => h) hL hF
    have Y' : Dy P R s T'.heap (locs ++ Lc) (cells + mc) (slots + ms) h9 (cb - mc) (sb - ms) := ⟨by omega, by omega, k3, by rw [e1]; exact hw9⟩
    obtain ⟨t2, a1, b1⟩ := thr_go (e := e) (below := below) (rest := r.map (mV P)) hk hA F Y' V hk2 hk9 (by rw [e1]; exact hce) hcv hcl T' rfl X'
    exact ⟨t2, stp.trans a1, b1⟩
theorem popN_of {f : List Value → List Value → Prop} : ∀ (n : Nat) (st acc : List Value), popN n st acc f → ∃ vs r, st = vs ++ r ∧ vs.length = n ∧ f (vs.reverse ++ acc) r
  | 0, st, acc, h => ⟨[], st, rfl, rfl, h⟩
  | n + 1, [], acc, h => h.elim
  | n + 1, v :: st, acc, h => by
    obtain ⟨vs, r, h1, h2, h3⟩ := popN_of n st (v :: acc) h
    refine ⟨v :: vs, r, by rw [h1]; rfl, by simp [h2], ?_⟩
    rw [List.reverse_cons, List.append_assoc]
    exact h3
theorem good_WS {x : Nat} (h : headw x ∈ TB) : GoodIn TB (WS x) := fun w hw => by
  have hm : w ∈ TB := (List.mem_cons.mp hw).elim (fun e => by rw [e]; exact h) (fun h => h)
  exact ⟨hm, good_of_word (TB_good hm)⟩
theorem good_l {ws : List Jvm.Cond} (h : ∀ w ∈ ws, w ∈ TB) : GoodIn TB ws := fun w hw => ⟨h w hw, good_of_word (TB_good (h w hw))⟩
theorem WS_code {x : Nat} (h : mEx x = []) : WS x = Cond.code (mY x) (mCode x) (mMax x) (mRet x) :: TB := by
  unfold WS headw
  rw [h]
theorem WS_codeW {x : Nat} (h : mEx x ≠ []) : WS x = Cond.codeWith (mY x) (mCode x) (mMax x) (mRet x) (mEx x) :: TB := by
  unfold WS headw
  split
  · rename_i he
    exact absurd he h
  · rename_i he
    rw [he]
theorem lnS_of {x y : Nat} (h : lnS x y = true) : ((mY x).cls ≠ "java/lang/invoke/MethodHandle" ∧ (mY x).cls ≠ "java/lang/invoke/VarHandle" ∧ (parseMethodDescriptor (mY x).desc).map (fun d => d.parameters.length) = some y) ∧ mMax x ≤ 81 := by
  unfold lnS at h
  simp only [Bool.and_eq_true, decide_eq_true_eq] at h
  exact ⟨h.1, Nat.le_of_ble_eq_true h.2⟩
theorem cal_of {n x : Nat} {as r : List Value} (q : cal P a K d k pc n es L h cb sb x as r) : catS r ≤ 8 ∧ ∃ mc ms d' : Nat, M P x as h mc ms d' (retK P a K d k pc n es L cb sb mc ms r) ∧ mc ≤ cb ∧ ms ≤ sb ∧ d' + 1 ≤ d := by
  unfold cal at q
  split at q
  · exact ⟨Nat.le_of_ble_eq_true (by assumption), q⟩
  · exact q.elim
theorem cat_room {ls : Array Slot} {m : MethodId} {r stv : List Value} (hc : catS r ≤ 8) : 2 * (F0 m pc ls stv).monitorRoom + ((r.map (mV P)).map fun v => v.category).sum ≤ 8 := by
  rw [catS_map]
  show 2 * 0 + _ ≤ 8
  omega
theorem pre_S {p : Program} {R : Room} {s : State} {m : MethodId} {args : Array Value} {meth : Method} {c : Code} {H : Heap} {locs : List Loc} {cells slots : Nat} (F : Fx P a d p R s m args meth c) (Y : Dy P R s H locs cells slots h cb sb) (as : List Value) : PreS s H (PcK P as h) (as.map (mV P)) :=
  ⟨Pc_blind as h, fun U hU hW => ⟨rfl, Env_step F.2.2.2.2.2.2.1 hW Y.2.2.1 hU, by rw [hU]; exact Y.2.2.2⟩⟩
theorem s_invokestatic {ix : Nat} (hk : Goes1 P a K d k) (hA : AllOk a) (o : OkE a (pc, .invokestatic ix, n, x, y, z, fl)) (ho : IsE a es) (q : stepI P a K d k (pc, .invokestatic ix, n, x, y, z, fl) es L st h cb sb) : G P a K d pc L st h cb sb := by
  obtain ⟨hd, hl, hw⟩ := dec_of o
  unfold lnk at hl
  simp only [Bool.and_eq_true] at hl
  have hn : n = 3 := Nat.eq_of_beq_eq_true hl.1
  subst hn
  have hl := hl.2
  have hz : (z = 0 ∨ z = 8) ∧ popN y st [] fun as r => cal P a K d k pc 3 es L h cb sb x as r := by
    unfold stepI at q
    dsimp only at q
    split at q
    · exact ⟨Or.inl rfl, q⟩
    · exact ⟨Or.inr rfl, q⟩
    · exact q.elim
  obtain ⟨hz, q1⟩ := hz
  obtain ⟨vs, r, rfl, hlen, q2⟩ := popN_of _ _ _ q1
  rw [List.append_nil] at q2
  obtain ⟨hc8, mc, ms, d', hM, hmc, hms, hd'⟩ := cal_of q2
  refine G_of fun p e R s m args below meth c H locs cells slots ls F Y V hx hb => ?_
  obtain ⟨-, -, hml, hr, hown, hts, hE, hlocks, -, htab, hfr, hlo⟩ := id F
  obtain ⟨hY1, hY2, hS, hWd⟩ := id Y
  have hst : (F0 m pc ls ((vs ++ r).map (mV P))).stack = (vs.reverse.map (mV P)).reverse ++ r.map (mV P) := by
    show (vs ++ r).map (mV P) = _
    rw [List.map_append, List.map_reverse, List.reverse_reverse]
  have hnl : (vs.reverse.map (mV P)).length = y := by rw [List.length_map, List.length_reverse]; exact hlen
  refine call_go (av := (vs.reverse.map (mV P)).toArray) (r := r) hk hA ho F Y V hmc hms ?_
  rcases hz with rfl | rfl
  · have hl : (lnS x y && decide (mEx x = [])) = true := hl
    simp only [Bool.and_eq_true, decide_eq_true_eq] at hl
    obtain ⟨hl1, hl2⟩ := hl
    obtain ⟨hl3, hl4⟩ := lnS_of hl1
    have w0 := TB_in (hw (0, .methodLink (mOwn a) ix (mY x)) (by simp [lnW]))
    have w1 := TB_in (hw (0, .static (mY x)) (by simp [lnW]))
    have w2 := TB_in (hw (0, .initialized (mY x).cls) (by simp [lnW]))
    have w3 := TB_in (hw (0, headw x) (by simp [lnW]))
    exact vx_runS ⟨hx, hb, hml, hown, hts⟩ hM (va_cwS y hts (good_l (fun w hw => by
        rcases List.mem_append.mp hw with h | h
        · simp only [List.mem_cons, List.not_mem_nil, or_false] at h
          rcases h with rfl | rfl | rfl
          · exact w0
          · exact w1
          · exact w2
        · exact (good_WS w3 w h).1)) (WS_code hl2) rfl rfl hl3 ⟨by show d' + 1 ≤ _; omega, by show 8 + (mMax x + 11) + 100 * d' ≤ _; omega⟩) (pre_S F Y _) rfl hnl V.1.1 hst (cat_room hc8) hd ⟨by omega, by omega⟩
  · have hl : (lnS x y && decide (mEx x ≠ [])) = true := hl
    simp only [Bool.and_eq_true, decide_eq_true_eq] at hl
    obtain ⟨hl1, hl2⟩ := hl
    obtain ⟨hl3, hl4⟩ := lnS_of hl1
    have w0 := TB_in (hw (0, .methodLink (mOwn a) ix (mY x)) (by simp [lnW]))
    have w1 := TB_in (hw (0, .static (mY x)) (by simp [lnW]))
    have w2 := TB_in (hw (0, .initialized (mY x).cls) (by simp [lnW]))
    have w3 := TB_in (hw (0, headw x) (by simp [lnW]))
    exact vx_runSX ⟨hx, hb, hml, hown, hts⟩ hM (vx_cwSW y hts (good_l (fun w hw => by
        rcases List.mem_append.mp hw with h | h
        · simp only [List.mem_cons, List.not_mem_nil, or_false] at h
          rcases h with rfl | rfl | rfl
          · exact w0
          · exact w1
          · exact w2
        · exact (good_WS w3 w h).1)) (WS_codeW hl2) rfl rfl hl3 ⟨by show d' + 1 ≤ _; omega, by show 8 + (mMax x + 11) + 100 * d' ≤ _; omega⟩) (pre_S F Y _) rfl hnl V.1.1 hst (cat_room hc8) hd ⟨by omega, by omega⟩
theorem vs_of {vs as' : List Value} {w : Value} (h : vs.reverse = w :: as') : vs = as'.reverse ++ [w] := by
  rw [← List.reverse_reverse vs, h, List.reverse_cons]
theorem recv_heap {p : Program} {R : Room} {s : State} {m : MethodId} {args : Array Value} {meth : Method} {c : Code} {H : Heap} {locs : List Loc} {cells slots : Nat} (F : Fx P a d p R s m args meth c) (Y : Dy P R s H locs cells slots h cb sb) {i ci : Nat} {fs : List Value} (hi : nth h i = some (.inr (ci, fs))) (hc : ci < 5) :
    ∃ cell : Cell, H[gN P + i]? = some cell ∧ cell.vm.isStatics = false ∧ s.vm.findClass (mCn ci) = some cell.cls :=
  va_recv (ws := [(gN P + i, .inr (ci, fs.map (mV P)))]) (q0 := 0) (Env_K F.2.2.2.2.2.2.1) (one_P (wd_at Y.2.2.2 hi hc)) (mCl_at ci hc) rfl
theorem recv_any {p : Program} {R : Room} {s : State} {m : MethodId} {args : Array Value} {meth : Method} {c : Code} {H : Heap} {locs : List Loc} {cells slots : Nat} (F : Fx P a d p R s m args meth c) (Y : Dy P R s H locs cells slots h cb sb) {w : Value} {ci : Nat}
    (hw : (∃ i fs, w = .ref i ∧ nth h i = some (.inr (ci, fs)) ∧ ci < 5) ∨ (∃ c9, w = .retAddr c9 ∧ ci = 0 ∧ 10 ≤ c9 ∧ c9 < 13)) :
    ∃ b : Nat, mV P w = .ref b ∧ ∃ cell : Cell, H[b]? = some cell ∧ cell.vm.isStatics = false ∧ s.vm.findClass (mCn ci) = some cell.cls := by
  rcases hw with ⟨i, fs, rfl, hi, hc⟩ | ⟨c9, rfl, rfl, h1, h2⟩
  · exact ⟨_, rfl, recv_heap F Y hi hc⟩
  · refine ⟨_, rfl, ?_⟩
    have := vk_recv F.2.2.2.2.2.2.1.2.2.2.2.2.2.2.2.2.2.1 (i := c9 - 10) (by omega) Y.2.2.1
    rw [show 10 + (c9 - 10) = c9 by omega] at this
    exact this
theorem pre_V {p : Program} {R : Room} {s : State} {m : MethodId} {args : Array Value} {meth : Method} {c : Code} {H : Heap} {locs : List Loc} {cells slots : Nat} (F : Fx P a d p R s m args meth c) (Y : Dy P R s H locs cells slots h cb sb) {w : Value} {b ci : Nat} (as : List Value) (hb : mV P w = .ref b) (hr : ∃ cell : Cell, H[b]? = some cell ∧ cell.vm.isStatics = false ∧ s.vm.findClass (mCn ci) = some cell.cls) : PreV s H (mCn ci) b (PcK P (w :: as) h) (as.map (mV P)) :=
  ⟨Pc_blind _ h, hr, fun U hU hW => ⟨by rw [List.map_cons, hb], Env_step F.2.2.2.2.2.2.1 hW Y.2.2.1 hU, by rw [hU]; exact Y.2.2.2⟩⟩
theorem s_invokevirtual {ix : Nat} (hk : Goes1 P a K d k) (hA : AllOk a) (o : OkE a (pc, .invokevirtual ix, n, x, y, z, fl)) (ho : IsE a es) (q : stepI P a K d k (pc, .invokevirtual ix, n, x, y, z, fl) es L st h cb sb) : G P a K d pc L st h cb sb := by
  obtain ⟨hd, hl, hw⟩ := dec_of o
  unfold lnk at hl
  simp only [Bool.and_eq_true] at hl
  have hn : n = 3 := Nat.eq_of_beq_eq_true hl.1
  subst hn
  have hl := hl.2
  have hz : (z / 16 = 1 ∨ z / 16 = 2 ∨ z / 16 = 3) ∧ ∃ vs r w as', st = vs ++ r ∧ vs.length = y + 1 ∧ vs.reverse = w :: as' ∧ ((∃ i fs, w = .ref i ∧ nth h i = some (.inr (z % 16, fs))) ∨ (∃ c9, w = .retAddr c9 ∧ z % 16 = 0 ∧ 10 ≤ c9 ∧ c9 < 13)) ∧ cal P a K d k pc 3 es L h cb sb x (w :: as') r := by
    unfold stepI at q
    dsimp only at q
    split at q
    · rename_i hb
      simp only [Bool.or_eq_true] at hb
      refine ⟨?_, ?_⟩
      · rcases hb with (hb | hb) | hb
        · exact Or.inl (Nat.eq_of_beq_eq_true hb)
        · exact Or.inr (Or.inl (Nat.eq_of_beq_eq_true hb))
        · exact Or.inr (Or.inr (Nat.eq_of_beq_eq_true hb))
      · obtain ⟨vs, r, h1, h2, q2⟩ := popN_of _ _ _ q
        rw [List.append_nil] at q2
        generalize hv : vs.reverse = V9 at q2
        split at q2
        · split at q2
          · split at q2
            · rename_i hb2
              have := Nat.eq_of_beq_eq_true hb2
              subst this
              exact ⟨vs, r, _, _, h1, h2, hv, Or.inl ⟨_, _, rfl, by assumption⟩, q2⟩
            · exact q2.elim
          · exact q2.elim
        · split at q2
          · rename_i hb2
            simp only [Bool.and_eq_true] at hb2
            exact ⟨vs, r, _, _, h1, h2, hv, Or.inr ⟨_, rfl, Nat.eq_of_beq_eq_true hb2.1.1, Nat.le_of_ble_eq_true hb2.1.2, Nat.le_of_ble_eq_true hb2.2⟩, q2⟩
          · exact q2.elim
        · exact q2.elim
    · exact q.elim
  obtain ⟨hz, vs, r, w, as', rfl, hlen, hrev, hrc, q2⟩ := hz
  obtain ⟨hc8, mc, ms, d', hM, hmc, hms, hd'⟩ := cal_of q2
  refine G_of fun p e R s m args below meth c H locs cells slots ls F Y V hx hb => ?_
  obtain ⟨-, -, hml, hr, hown, hts, hE, hlocks, -, htab, hfr, hlo⟩ := id F
  obtain ⟨hY1, hY2, hS, hWd⟩ := id Y
  have hvs := vs_of hrev
  have hal : as'.length = y := by
    have := congrArg List.length hvs
    simp only [List.length_append, List.length_reverse, List.length_singleton] at this
    omega
  have hz5 : z % 16 < 5 := by
    rcases hz with hz | hz | hz <;> (rw [hz] at hl; simp only [Bool.and_eq_true] at hl)
    · exact Nat.le_of_ble_eq_true hl.2
    · exact Nat.le_of_ble_eq_true hl.2
    · exact Nat.le_of_ble_eq_true hl.1.1.2
  have hrc2 : (∃ i fs, w = .ref i ∧ nth h i = some (.inr (z % 16, fs)) ∧ z % 16 < 5) ∨ (∃ c9, w = .retAddr c9 ∧ z % 16 = 0 ∧ 10 ≤ c9 ∧ c9 < 13) := by
    rcases hrc with ⟨i, fs, e1, e2⟩ | h9
    · exact Or.inl ⟨i, fs, e1, e2, hz5⟩
    · exact Or.inr h9
  obtain ⟨b, hbw, hrecv⟩ := recv_any F Y hrc2
  have hst : (F0 m pc ls ((vs ++ r).map (mV P))).stack = (as'.map (mV P)).reverse ++ .ref b :: r.map (mV P) := by
    show (vs ++ r).map (mV P) = _
    rw [hvs, List.map_append, List.map_append, List.map_reverse, List.append_assoc, List.map_cons, hbw]
    rfl
  have hnl : (as'.map (mV P)).length = y := by rw [List.length_map]; exact hal
  have hpV := pre_V F Y as' hbw hrecv
  refine call_go (av := (Value.ref b :: as'.map (mV P)).toArray) (r := r) hk hA ho F Y V hmc hms ?_
  have hroom : ∀ x : Nat, mMax x ≤ 81 → d' + 1 ≤ R.frames ∧ 8 + (mMax x + 11) + 100 * d' ≤ R.locals := fun x hx => ⟨by omega, by omega⟩
  rcases hz with hz | hz | hz
  · rw [hz] at hl
    simp only [Bool.and_eq_true, decide_eq_true_eq] at hl
    obtain ⟨⟨⟨hl1, hl2⟩, hcls⟩, -⟩ := hl
    obtain ⟨hl3, hl4⟩ := lnS_of hl1
    have w0 := TB_in (hw (0, .methodLink (mOwn a) ix (mY x)) (by simp [lnW, hz]))
    have w1 := TB_in (hw (0, .instanceMethod (mY x)) (by simp [lnW, hz]))
    have w2 := TB_in (hw (0, .selects (mCn (z % 16)) (mY x) (mY x)) (by simp [lnW, hz]))
    have w3 := TB_in (hw (0, .initialized (mCn (z % 16))) (by simp [lnW, hz]))
    have w4 := TB_in (hw (0, headw x) (by simp [lnW, hz]))
    exact vx_runV ⟨hx, hb, hml, hown, hts⟩ hM (cwV y hts (good_l (fun w hw => by
        rcases List.mem_append.mp hw with h | h
        · simp only [List.mem_cons, List.not_mem_nil, or_false] at h
          rcases h with rfl | rfl | rfl | rfl
          · exact w0
          · exact w1
          · exact w2
          · exact w3
        · exact (good_WS w4 w h).1)) (WS_code hl2) rfl rfl ⟨hcls, hl3⟩ (hroom x hl4)) hpV rfl hnl V.1.1 hst (cat_room hc8) hd ⟨by omega, by omega⟩
  · rw [hz] at hl
    simp only [Bool.and_eq_true, decide_eq_true_eq] at hl
    obtain ⟨⟨hl1, hl2⟩, -⟩ := hl
    obtain ⟨hl3, hl4⟩ := lnS_of hl1
    have w0 := TB_in (hw (0, .methodLink (mOwn a) ix (mY x)) (by simp [lnW, hz]))
    have w1 := TB_in (hw (0, .sameMethod (mY x).cls (mY x).cls (mY x).name (mY x).desc) (by simp [lnW, hz]))
    have w2 := TB_in (hw (0, .selects (mCn (z % 16)) (mY x) (mY x)) (by simp [lnW, hz]))
    have w3 := TB_in (hw (0, .instanceMethod (mY x)) (by simp [lnW, hz]))
    have w4 := TB_in (hw (0, .initialized (mY x).cls) (by simp [lnW, hz]))
    have w5 := TB_in (hw (0, headw x) (by simp [lnW, hz]))
    exact vx_runU ⟨hx, hb, hml, hown, hts⟩ hM (va_cwU (x := mY x) (owner := (mY x).cls) y hts (good_l (fun w hw => by
        rcases List.mem_append.mp hw with h | h
        · simp only [List.mem_cons, List.not_mem_nil, or_false] at h
          rcases h with rfl | rfl | rfl | rfl | rfl
          · exact w0
          · exact w1
          · exact w2
          · exact w3
          · exact w4
        · exact (good_WS w5 w h).1)) (WS_code hl2) rfl rfl rfl hl3 (hroom x hl4)) hpV rfl hnl V.1.1 hst (cat_room hc8) hd ⟨by omega, by omega⟩
  · rw [hz] at hl
    simp only [Bool.and_eq_true, decide_eq_true_eq] at hl
    obtain ⟨⟨⟨⟨hl1, hl2⟩, -⟩, hoy⟩, hex2⟩ := hl
    obtain ⟨hl3, hl4⟩ := lnS_of hl1
    have w0 := TB_in (hw (0, .methodLink (mOwn a) ix (oY x)) (by simp [lnW, hz]))
    have w1 := TB_in (hw (0, .sameMethod rc_ASB rc_ASB (mY x).name (mY x).desc) (by simp [lnW, hz]))
    have w2 := TB_in (hw (0, .instanceMethod (oY x)) (by simp [lnW, hz]))
    have w3 := TB_in (hw (0, .selects (mCn (z % 16)) (oY x) (mY x)) (by simp [lnW, hz]))
    have w4 := TB_in (hw (0, .instanceMethod (mY x)) (by simp [lnW, hz]))
    have w5 := TB_in (hw (0, .initialized (mY x).cls) (by simp [lnW, hz]))
    have w6 := TB_in (hw (0, headw x) (by simp [lnW, hz]))
    have w7 := TB_in (hw (0, headw n_ASB_length) (by simp [lnW, hz]))
    have h7 : Cond.code (oY x) (mCode n_ASB_length) (mMax n_ASB_length) (mRet n_ASB_length) ∈ TB := by
      have e : headw n_ASB_length = Cond.code (mY n_ASB_length) (mCode n_ASB_length) (mMax n_ASB_length) (mRet n_ASB_length) := by
        unfold headw
        rw [hex2]
      rw [hoy, ← e]
      exact w7
    exact vx_runU ⟨hx, hb, hml, hown, hts⟩ hM (va_cwO (x := oY x) (owner := rc_ASB) y hts (good_l (fun w hw => by
        rcases List.mem_append.mp hw with h | h
        · simp only [List.mem_cons, List.not_mem_nil, or_false] at h
          rcases h with rfl | rfl | rfl | rfl | rfl | rfl
          · exact w0
          · exact w1
          · exact w2
          · exact w3
          · exact w4
          · exact w5
        · exact (good_WS w6 w h).1)) (WS_code hl2) rfl rfl h7 ⟨by decide, by decide, hl3.2.2⟩ (hroom x hl4)) hpV rfl hnl V.1.1 hst (cat_room hc8) hd ⟨by omega, by omega⟩
theorem s_invokespecial {ix : Nat} (hk : Goes1 P a K d k) (hA : AllOk a) (o : OkE a (pc, .invokespecial ix, n, x, y, z, fl)) (ho : IsE a es) (q : stepI P a K d k (pc, .invokespecial ix, n, x, y, z, fl) es L st h cb sb) : G P a K d pc L st h cb sb := by
  obtain ⟨hd, hl, hw⟩ := dec_of o
  unfold lnk at hl
  simp only [Bool.and_eq_true] at hl
  have hn : n = 3 := Nat.eq_of_beq_eq_true hl.1
  subst hn
  have hl := hl.2
  have hz : (z = 7 ∧ ∃ i r, st = .ref i :: r ∧ (catS r ≤ 8 ∧ 1 ≤ d) ∧ nxt P a K d k (pc + 3) es L r h cb sb) ∨ ((z = 4 ∨ z = 5 ∨ z = 6) ∧ ∃ vs r i as', st = vs ++ r ∧ vs.length = y + 1 ∧ vs.reverse = .ref i :: as' ∧ (z = 4 → ∃ ci fs, nth h i = some (.inr (ci, fs)) ∧ ci < 5) ∧ cal P a K d k pc 3 es L h cb sb x (.ref i :: as') r) := by
    unfold stepI at q
    dsimp only at q
    split at q
    · obtain ⟨vs, r, h1, h2, q2⟩ := popN_of _ _ _ q
      rw [List.append_nil] at q2
      generalize hv : vs.reverse = V9 at q2
      split at q2
      · split at q2
        · split at q2
          · exact Or.inr ⟨Or.inl rfl, vs, r, _, _, h1, h2, hv, fun _ => ⟨_, _, by assumption, Nat.le_of_ble_eq_true (by assumption)⟩, q2⟩
          · exact q2.elim
        · exact q2.elim
      · exact q2.elim
    · obtain ⟨vs, r, h1, h2, q2⟩ := popN_of _ _ _ q
      rw [List.append_nil] at q2
      generalize hv : vs.reverse = V9 at q2
      split at q2
      · exact Or.inr ⟨Or.inr (Or.inl rfl), vs, r, _, _, h1, h2, hv, (fun h => by cases h), q2⟩
      · exact q2.elim
    · obtain ⟨vs, r, h1, h2, q2⟩ := popN_of _ _ _ q
      rw [List.append_nil] at q2
      generalize hv : vs.reverse = V9 at q2
      split at q2
      · exact Or.inr ⟨Or.inr (Or.inr rfl), vs, r, _, _, h1, h2, hv, (fun h => by cases h), q2⟩
      · exact q2.elim
    · split at q
      · split at q
        · rename_i hb9
          simp only [Bool.and_eq_true] at hb9
          exact Or.inl ⟨rfl, _, _, rfl, ⟨Nat.le_of_ble_eq_true hb9.1, Nat.le_of_ble_eq_true hb9.2⟩, q⟩
        · exact q.elim
      · exact q.elim
    · exact q.elim
  rcases hz with ⟨rfl, i, r, rfl, ⟨hc8, hd1⟩, qq⟩ | ⟨hz, vs, r, i, as', rfl, hlen, hrev, hrc, q2⟩
  · have w0 := TB_in (hw (0, .methodLink (mOwn a) ix Lib.objectInit) (by simp [lnW]))
    have w1 := TB_in (hw (0, .instanceMethod Lib.objectInit) (by simp [lnW]))
    have w2 := TB_in (hw (0, .code Lib.objectInit ⟨#[0xb1]⟩ 1 none) (by simp [lnW]))
    refine G_of fun p e R s m args below meth c H locs cells slots ls F Y V hx hb => ?_
    obtain ⟨-, -, hml, hr, hown, hts, hE, hlocks, -, htab, hfr, hlo⟩ := id F
    exact W.objInit hx hb hown (hts _ w0) (hts _ w1) (hts _ w2) rfl (by rw [hml]; exact V.1.1) rfl hd (by omega) (by rw [catS_map]; show 2 * 0 + _ + 12 ≤ _; omega) (nxt_go hk ho qq p e R s m args below meth c H locs cells slots _ F Y V)
  · obtain ⟨hc8, mc, ms, d', hM, hmc, hms, hd'⟩ := cal_of q2
    refine G_of fun p e R s m args below meth c H locs cells slots ls F Y V hx hb => ?_
    obtain ⟨-, -, hml, hr, hown, hts, hE, hlocks, -, htab, hfr, hlo⟩ := id F
    obtain ⟨hY1, hY2, hS, hWd⟩ := id Y
    have hvs := vs_of hrev
    have hal : as'.length = y := by
      have := congrArg List.length hvs
      simp only [List.length_append, List.length_reverse, List.length_singleton] at this
      omega
    have hst : (F0 m pc ls ((vs ++ r).map (mV P))).stack = (as'.map (mV P)).reverse ++ .ref (gN P + i) :: r.map (mV P) := by
      show (vs ++ r).map (mV P) = _
      rw [hvs, List.map_append, List.map_append, List.map_reverse, List.append_assoc]
      rfl
    have hnl : (as'.map (mV P)).length = y := by rw [List.length_map]; exact hal
    refine call_go (av := (Value.ref (gN P + i) :: as'.map (mV P)).toArray) (r := r) hk hA ho F Y V hmc hms ?_
    have hroom : ∀ x : Nat, mMax x ≤ 81 → d' + 1 ≤ R.frames ∧ 8 + (mMax x + 11) + 100 * d' ≤ R.locals := fun x hx => ⟨by omega, by omega⟩
    rcases hz with rfl | rfl | rfl
    · have hl : (lnS x y && decide (mEx x = []) && decide ((mY x).name ≠ "<init>")) = true := hl
      simp only [Bool.and_eq_true, decide_eq_true_eq] at hl
      obtain ⟨⟨hl1, hl2⟩, hl5⟩ := hl
      obtain ⟨hl3, hl4⟩ := lnS_of hl1
      obtain ⟨ci, fs, hi, hci⟩ := hrc rfl
      have w0 := TB_in (hw (0, .methodLink (mOwn a) ix (mY x)) (by simp [lnW]))
      have w1 := TB_in (hw (0, .sameMethod (mY x).cls (mY x).cls (mY x).name (mY x).desc) (by simp [lnW]))
      have w2 := TB_in (hw (0, .superclass (mOwn a) (mY x).cls) (by simp [lnW]))
      have w3 := TB_in (hw (0, .instanceMethod (mY x)) (by simp [lnW]))
      have w4 := TB_in (hw (0, .initialized (mY x).cls) (by simp [lnW]))
      have w5 := TB_in (hw (0, headw x) (by simp [lnW]))
      have hpV := pre_V (w := .ref i) F Y as' rfl (recv_heap F Y hi hci)
      exact vx_runSU ((Env_K hE).1 ci _ (mCl_at ci hci)).2 ⟨hx, hb, hml, hown, hts⟩ hM (va_cwSU y hts (good_l (fun w hw => by
          rcases List.mem_append.mp hw with h | h
          · simp only [List.mem_cons, List.not_mem_nil, or_false] at h
            rcases h with rfl | rfl | rfl | rfl | rfl
            · exact w0
            · exact w1
            · exact w2
            · exact w3
            · exact w4
          · exact (good_WS w5 w h).1)) (WS_code hl2) rfl rfl ⟨hl5, hl3.2.2⟩ (hroom x hl4)) hpV rfl hnl V.1.1 hst (cat_room hc8) hd ⟨by omega, by omega⟩
    · have hl : (lnS x y && decide (mEx x = []) && decide ((mY x).name = "<init>") && decide (mRet x = none)) = true := hl
      simp only [Bool.and_eq_true, decide_eq_true_eq] at hl
      obtain ⟨⟨⟨hl1, hl2⟩, hl5⟩, hl6⟩ := hl
      obtain ⟨hl3, hl4⟩ := lnS_of hl1
      have w0 := TB_in (hw (0, .methodLink (mOwn a) ix (mY x)) (by simp [lnW]))
      have w3 := TB_in (hw (0, .instanceMethod (mY x)) (by simp [lnW]))
      have w4 := TB_in (hw (0, .initialized (mY x).cls) (by simp [lnW]))
      have w5 := TB_in (hw (0, headw x) (by simp [lnW]))
      have hws := WS_code hl2
      rw [hl6] at hws
      exact vx_runI ⟨hx, hb, hml, hown, hts⟩ hM (cwI y hts (good_WS w5) hws rfl rfl (hts _ w4) (hts _ w0) (hts _ w3) hl5 hl3 (hroom x hl4)) (pre_S F Y (.ref i :: as')) rfl hnl V.1.1 hst (cat_room hc8) hd ⟨by omega, by omega⟩
    · have hl : (lnS x y && decide (mEx x = []) && decide ((mY x).name = "<init>") && decide (mRet x = none)) = true := hl
      simp only [Bool.and_eq_true, decide_eq_true_eq] at hl
      obtain ⟨⟨⟨hl1, hl2⟩, hl5⟩, hl6⟩ := hl
      obtain ⟨hl3, hl4⟩ := lnS_of hl1
      have w0 := WN_in (hw (1, .methodLinkNest (mOwn a) ix (mY x) (mOwn a)) (by simp [lnW]))
      have w3 := TB_in (hw (0, .instanceMethod (mY x)) (by simp [lnW]))
      have w4 := TB_in (hw (0, .initialized (mY x).cls) (by simp [lnW]))
      have w5 := TB_in (hw (0, headw x) (by simp [lnW]))
      have hws := WS_code hl2
      rw [hl6] at hws
      exact vx_runIN ⟨hx, hb, hml, hown, hts⟩ hM ⟨va_cnB y hts (good_WS w5) hws rfl rfl (hE.2.2.2.2.2.1 _ w0) (hts _ w4) hl3 (hroom x hl4), hl5, hts _ w3⟩ (pre_S F Y (.ref i :: as')) rfl hnl V.1.1 hst (cat_room hc8) hd ⟨by omega, by omega⟩
end SIM6
end
section
/-! what is run is what the machine does -/
/-! as vx_ofW and vx_ofWH, for a method without an entry of its own among the natives -/
theorem my_ofW {l : Launch} {y : MethodName} {ws ws' : List Cond} {rm : Room} {Pc : Array Value → State → Prop} {Qc : Array Value → State → Outcome → State → Prop} {XC : String → State → State → Prop} {mc ms : Nat} {free : Addr → Prop} {cc : ByteArray} {maxL : Nat} {ret : Option FieldType}
    (hy : plainFor y = true) (hw : ws = Cond.code y cc maxL ret :: ws')
    (body : ∀ p e s m args below meth c s₁, BodyLoose p l y (headSpec ws rm) cc maxL ret e s m args below meth c s₁ → c.maxLocals = maxL → (∀ x ∈ c.exceptionTable.toList, False) → Pc args s →
      W p l e (headSpec ws rm).room s m args below meth c s.heap [] 0 0 (vx_MQ below Qc XC args s mc ms free) (entryFrame m args maxL)) : vx_Met l y ws rm Pc Qc XC mc ms free := by
  refine MetFree.of_bodySF (code := cc) (maxLocals := maxL) (ret := ret) hy ?_ ?_
  · intro args s m h hn
    obtain ⟨meth, c, h1, h2, h3, h4, h5, h6, -, -⟩ := Cond.code_spec hn (atoms_spec (ws := ws) h _ (by rw [hw]; exact List.mem_cons_self))
    exact ⟨meth, c, h1, h2, h3, h4, h5, h6⟩
  · intro p e s m args below meth c s₁ B hml hP _
    have hh0 : s₁.heap = s.heap := by rw [B.state]; rfl
    have ht : ∀ x ∈ c.exceptionTable.toList, False := by
      obtain ⟨meth9, c9, h1, h2, -, -, -, -, h7, -⟩ := Cond.code_spec B.named (atoms_spec (ws := ws) B.pre _ (by rw [hw]; exact List.mem_cons_self))
      cases Option.some.inj (h1.symm.trans B.method)
      cases Option.some.inj (h2.symm.trans (Stand.of_body B).code)
      intro x hx
      rw [Array.isEmpty_iff.mp h7] at hx
      cases hx
    obtain ⟨t, a1, o, b1, b2, b3⟩ := body p e s m args below meth c s₁ B hml ht hP s₁ hh0 (Stand.of_body B)
    exact ⟨t, o, a1, b1, b2, b3⟩
theorem my_ofWH {l : Launch} {y : MethodName} {ws ws' : List Cond} {rm : Room} {Pc : Array Value → State → Prop} {Qc : Array Value → State → Outcome → State → Prop} {XC : String → State → State → Prop} {mc ms : Nat} {free : Addr → Prop} {cc : ByteArray} {maxL : Nat} {ret : Option FieldType} {hh : List (Nat × Nat × Nat × Nat)}
    (hy : plainFor y = true) (hw : ws = Cond.codeWith y cc maxL ret hh :: ws')
    (body : ∀ p e s m args below meth c s₁, BodyLoose p l y (headSpec ws rm) cc maxL ret e s m args below meth c s₁ → c.maxLocals = maxL → Pc args s →
      W p l e (headSpec ws rm).room s m args below meth c s.heap [] 0 0 (vx_MQ below Qc XC args s mc ms free) (entryFrame m args maxL)) : vx_Met l y ws rm Pc Qc XC mc ms free := by
  refine MetFree.of_bodySF (code := cc) (maxLocals := maxL) (ret := ret) hy ?_ ?_
  · intro args s m h hn
    obtain ⟨m9, meth, c, hn9, h1, h2, h3, h4, -, h5, h6, -⟩ := Cond.codeWith_spec (atoms_spec (ws := ws) h _ (by rw [hw]; exact List.mem_cons_self))
    cases hn.symm.trans hn9
    exact ⟨meth, c, h1, h2, h3, h4, h5, h6⟩
  · intro p e s m args below meth c s₁ B hml hP _
    have hh0 : s₁.heap = s.heap := by rw [B.state]; rfl
    obtain ⟨t, a1, o, b1, b2, b3⟩ := body p e s m args below meth c s₁ B hml hP s₁ hh0 (Stand.of_body B)
    exact ⟨t, o, a1, b1, b2, b3⟩
section GO
variable {P : GP} {a : Nat} {K : Kt} {d : Nat}
theorem step_go {k : Ct} (hk : Goes1 P a K d k) (hA : AllOk a) {e : Ent} {es : List Ent} {L : mLs} {st : List Value} {h : mH} {cb sb : Nat} (hI : IsE a (e :: es)) (q : stepI P a K d k e es L st h cb sb) : G P a K d e.1 L st h cb sb := by
  obtain ⟨pc, i, n, x, y, z, fl⟩ := e
  have o := hI _ List.mem_cons_self
  have ho : IsE a es := fun e he => hI e (List.mem_cons_of_mem _ he)
  cases i with
  | iadd => exact s_iadd hk hA o ho q
  | isub => exact s_isub hk hA o ho q
  | imul => exact s_imul hk hA o ho q
  | iand => exact s_iand hk hA o ho q
  | ior => exact s_ior hk hA o ho q
  | idiv => exact s_idiv hk hA o ho q
  | irem => exact s_irem hk hA o ho q
  | ishl => exact s_ishl hk hA o ho q
  | ishr => exact s_ishr hk hA o ho q
  | iushr => exact s_iushr hk hA o ho q
  | ineg => exact s_ineg hk hA o ho q
  | i2l => exact s_i2l hk hA o ho q
  | i2b => exact s_i2b hk hA o ho q
  | i2c => exact s_i2c hk hA o ho q
  | l2i => exact s_l2i hk hA o ho q
  | lneg => exact s_lneg hk hA o ho q
  | ladd => exact s_ladd hk hA o ho q
  | lsub => exact s_lsub hk hA o ho q
  | lmul => exact s_lmul hk hA o ho q
  | land => exact s_land hk hA o ho q
  | lor => exact s_lor hk hA o ho q
  | lxor => exact s_lxor hk hA o ho q
  | ldiv => exact s_ldiv hk hA o ho q
  | lrem => exact s_lrem hk hA o ho q
  | lshl => exact s_lshl hk hA o ho q
  | lshr => exact s_lshr hk hA o ho q
  | lushr => exact s_lushr hk hA o ho q
  | iconst => exact s_iconst hk hA o ho q
  | bipush => exact s_bipush hk hA o ho q
  | sipush => exact s_sipush hk hA o ho q
  | lconst => exact s_lconst hk hA o ho q
  | aconst_null => exact s_aconst_null hk hA o ho q
  | ldc2_w => exact s_ldc2_w hk hA o ho q
  | iload => exact s_iload hk hA o ho q
  | iload_n => exact s_iload_n hk hA o ho q
  | lload => exact s_lload hk hA o ho q
  | lload_n => exact s_lload_n hk hA o ho q
  | aload => exact s_aload hk hA o ho q
  | aload_n => exact s_aload_n hk hA o ho q
  | istore => exact s_istore hk hA o ho q
  | istore_n => exact s_istore_n hk hA o ho q
  | lstore => exact s_lstore hk hA o ho q
  | lstore_n => exact s_lstore_n hk hA o ho q
  | astore => exact s_astore hk hA o ho q
  | astore_n => exact s_astore_n hk hA o ho q
  | iinc => exact s_iinc hk hA o ho q
  | pop => exact s_pop hk hA o ho q
  | pop2 => exact s_pop2 hk hA o ho q
  | dup => exact s_dup hk hA o ho q
  | dup_x1 => exact s_dup_x1 hk hA o ho q
  | goto => exact s_goto hk hA o ho q
  | ifnonnull => exact s_ifnonnull hk hA o ho q
  | ifCond => exact s_ifCond hk hA o ho q
  | if_icmp => exact s_if_icmp hk hA o ho q
  | lcmp => exact s_lcmp hk hA o ho q
  | tableswitch => exact s_tableswitch hk hA o ho q
  | getfield => exact s_getfield hk hA o ho q
  | putfield => exact s_putfield hk hA o ho q
  | getstatic => exact s_getstatic hk hA o ho q
  | iaload => exact s_iaload hk hA o ho q
  | baload => exact s_baload hk hA o ho q
  | laload => exact s_laload hk hA o ho q
  | aaload => exact s_aaload hk hA o ho q
  | iastore => exact s_iastore hk hA o ho q
  | bastore => exact s_bastore hk hA o ho q
  | lastore => exact s_lastore hk hA o ho q
  | arraylength => exact s_arraylength hk hA o ho q
  | ldc => exact s_ldc hk hA o ho q
  | new => exact s_new hk hA o ho q
  | newarray => exact s_newarray hk hA o ho q
  | return_ => exact s_return_ hk hA o ho q
  | ireturn => exact s_ireturn hk hA o ho q
  | lreturn => exact s_lreturn hk hA o ho q
  | areturn => exact s_areturn hk hA o ho q
  | invokestatic => exact s_invokestatic hk hA o ho q
  | invokevirtual => exact s_invokevirtual hk hA o ho q
  | invokespecial => exact s_invokespecial hk hA o ho q
  | _ => exact q.elim
theorem run_go (hA : AllOk a) : ∀ n : Nat, Goes1 P a K d (run P a K d n)
  | 0 => fun e es L st h cb sb _ q => q
  | n + 1 => fun e es L st h cb sb hI q => step_go (run_go hA n) hA hI q
theorem go (hA : AllOk a) (n : Nat) {pc : Nat} {L : mLs} {st : List Value} {h : mH} {cb sb : Nat} (q : run P a K d n (seekC (mChk a) pc) L st h cb sb) : G P a K d pc L st h cb sb := by
  cases hs : seekC (mChk a) pc with
  | nil =>
    rw [hs] at q
    cases n <;> exact q.elim
  | cons e es =>
    rw [hs] at q
    have hI : IsE a (e :: es) := by rw [← hs]; exact isE_seek hA pc
    have := run_go hA n e es L st h cb sb hI q
    rw [seekC_hd _ _ _ _ hs] at this
    exact this
def entA : List Value → mLs
  | [] => []
  | v :: r => match cat2 (some v) with
    | true => some v :: none :: entA r
    | false => some v :: entA r
def entL (n : Nat) (vs : List Value) : mLs := entA vs ++ List.replicate (n - (entA vs).length) none
theorem lvl_app (P : GP) : ∀ (L r : mLs) (i : Nat), lvl P i (L ++ r) = lvl P i L ++ lvl P (i + L.length) r
  | [], r, i => by simp [lvl]
  | none :: t, r, i => by
    simp only [List.cons_append, lvl]
    rw [lvl_app P t r (i + 1), List.length_cons, show i + 1 + t.length = i + (t.length + 1) by omega]
  | some v :: t, r, i => by
    simp only [List.cons_append, lvl]
    rw [lvl_app P t r (i + 1), List.length_cons, show i + 1 + t.length = i + (t.length + 1) by omega]
theorem lvl_none (P : GP) : ∀ (n i : Nat), lvl P i (List.replicate n none) = []
  | 0, _ => rfl
  | n + 1, i => by
    rw [List.replicate_succ]
    exact lvl_none P n (i + 1)
theorem lvl_ent (P : GP) : ∀ (vs : List Value) (i : Nat), lvl P i (entA vs) = lv_args i (vs.map (mV P))
  | [], _ => rfl
  | v :: r, i => by
    unfold entA
    simp only [List.map_cons, lv_args, mV_cat]
    cases hc : cat2 (some v) with
    | true =>
      rw [if_pos ((cat2_iff v).mp hc)]
      simp only [lvl]
      rw [lvl_ent P r]
    | false =>
      rw [if_neg (fun e => by rw [(cat2_iff v).mpr e] at hc; cases hc)]
      simp only [lvl]
      rw [lvl_ent P r]
theorem ent_len (P : GP) : ∀ vs : List Value, (lg_sl (vs.map (mV P))).length = (entA vs).length
  | [] => rfl
  | v :: r => by
    unfold entA
    have ih := ent_len P r
    unfold lg_sl at ih ⊢
    simp only [List.map_cons, List.flatMap_cons, List.length_append, mV_cat, ih]
    cases hc : cat2 (some v) with
    | true =>
      rw [if_pos ((cat2_iff v).mp hc)]
      simp only [List.length_cons, List.length_nil]
      omega
    | false =>
      rw [if_neg (fun e => by rw [(cat2_iff v).mpr e] at hc; cases hc)]
      simp only [List.length_cons, List.length_nil]
      omega
/-- a method's contract, from its first instruction -/
theorem M_of {x : Nat} {args : List Value} {h : mH} {mc ms d : Nat} {K : Kt} (hp : plainFor (mY x) = true) (hc : (mY x).cls = mOwn x) (hn : (entA args).length ≤ mMax x) (hG : G P x K d 0 (entL (mMax x) args) [] h mc ms) : M P x args h mc ms d K := by
  have key : ∀ (p : Program) (e : Jvm.Env) (s : State) (m : MethodId) (ar : Array Value) (below : List Frame) (meth : Method) (c : Code) (s₁ : State),
      BodyLoose p (gl P) (mY x) (headSpec (WS x) { frames := d, cells := mc, slots := ms, locals := 100 * d }) (mCode x) (mMax x) (mRet x) e s m ar below meth c s₁ → c.maxLocals = mMax x → c.exceptionTable.toList = tableOf (mEx x) → PcK P args h ar s →
      W p (gl P) e { frames := d, cells := mc, slots := ms, locals := 100 * d } s m ar below meth c s.heap [] 0 0 (vx_MQ below (QcK P K) (XcK P K) ar s mc ms (gF P)) (entryFrame m ar (mMax x)) := by
    intro p e s m ar below meth c s₁ B hml htab hv
    obtain ⟨rfl, hE, hWd⟩ := hv
    have hts := atoms_spec (ws := WS x) B.pre
    have hown : s.vm.findClass (mY x).cls = some m.cls := findClass_of_methodNamed B.named
    have hl := lv_entry (args.map (mV P)) (n := mMax x) (by rw [ent_len]; exact hn)
    rw [lg_entry_eq]
    refine hG p e { frames := d, cells := mc, slots := ms, locals := 100 * d } s m _ below meth c s.heap [] 0 0 _ ⟨B.exec, B.bytes, hml, B.returns, by rw [← hc]; exact hown, fun w hw => hts w (List.mem_cons_of_mem _ hw), hE, B.notSynchronized, (name_of_methodNamed B.named B.method).1, htab, Nat.le_refl _, Nat.le_refl _⟩ ⟨by show 0 + mc ≤ mc; omega, by show 0 + ms ≤ ms; omega, va_S.rf, hWd⟩ ⟨?_, ?_⟩
    · unfold entL
      rw [lvl_app, lvl_none, List.append_nil, lvl_ent]
      exact hl
    · unfold entL
      rw [List.length_append, List.length_replicate]
      omega
  by_cases hx : mEx x = []
  · refine my_ofW (cc := mCode x) (maxL := mMax x) (ret := mRet x) hp (WS_code hx) ?_
    intro p e s m ar below meth c s₁ B hml hno hv
    refine key p e s m ar below meth c s₁ B hml ?_ hv
    rw [hx]
    cases ht : c.exceptionTable.toList with
    | nil => rfl
    | cons w r => exact (hno w (by rw [ht]; exact List.mem_cons_self)).elim
  · refine my_ofWH (cc := mCode x) (maxL := mMax x) (ret := mRet x) hp (WS_codeW hx) ?_
    intro p e s m ar below meth c s₁ B hml hv
    have hm : Cond.codeWith (mY x) (mCode x) (mMax x) (mRet x) (mEx x) ∈ WS x := by
      rw [WS_codeW hx]
      exact List.mem_cons_self
    exact key p e s m ar below meth c s₁ B hml (vx_table (x := mY x) B ((atoms_spec (ws := WS x) B.pre) _ hm)) hv
/-- a method's contract, run from its first instruction -/
theorem Mgo {x : Nat} (ok : AllOk x) (n : Nat) {args : List Value} {h : mH} {mc ms d : Nat} {K : Kt} (hn : Nat.ble (entA args).length (mMax x) = true) (q : run P x K d n (seekC (mChk x) 0) (entL (mMax x) args) [] h mc ms) : M P x args h mc ms d K := by
  have hb := ok.2
  unfold exOkB at hb
  simp only [Bool.and_eq_true, Bool.or_eq_true, decide_eq_true_eq] at hb
  have hp : plainFor (mY x) = true := by
    rcases hb.1.1 with h9 | h9
    · obtain ⟨c9, hc9, he9⟩ := List.any_eq_true.mp h9
      have e9 : c9 = (mY x).cls := of_decide_eq_true he9
      exact plainFor_of_name (by rw [← e9]; exact clsL_ok _ hc9)
    · obtain ⟨c9, hc9, he9⟩ := List.any_eq_true.mp h9
      have e9 : c9 = mY x := of_decide_eq_true he9
      rw [← e9]
      exact mathL_ok _ hc9
  exact M_of hp hb.1.2 (Nat.le_of_ble_eq_true hn) (go ok n q)
end GO
end
