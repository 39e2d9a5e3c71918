/-! THE SMALL MACHINE: values, cells, steps. '.ref i' is the i-th cell made since the law began; '.retAddr c' a fixed cell (0 the script, 10 + j a text, 30 + j its bytes, 50 and 51 the tables of digits) -/
abbrev GP : Type := Launch × va_G × (Nat → ClassId) × (Nat → Nat) × Nat × (Nat → Int32) × Nat
abbrev gl (P : GP) : Launch := P.1
abbrev gD (P : GP) : va_G := P.2.1
abbrev gC (P : GP) : Nat → ClassId := P.2.2.1
abbrev gA (P : GP) : Nat → Nat := P.2.2.2.1
abbrev gN (P : GP) : Nat := P.2.2.2.2.1
abbrev gX (P : GP) : Nat → Int32 := P.2.2.2.2.2.1
abbrev gL (P : GP) : Nat := P.2.2.2.2.2.2
def gF (P : GP) : Nat → Prop := fun q => gN P ≤ q
def nth {α : Type} : List α → Nat → Option α
  | [], _ => none
  | x :: _, 0 => some x
  | _ :: t, n + 1 => nth t n
theorem nth_eq {α : Type} : ∀ (l : List α) (n : Nat), nth l n = l[n]?
  | [], _ => rfl
  | _ :: _, 0 => rfl
  | _ :: t, n + 1 => by rw [nth, nth_eq t n]; rfl
def mV (P : GP) : Value → Value
  | .ref i => .ref (gN P + i)
  | .retAddr c => .ref (gA P c)
  | v => v
abbrev mAc : Type := (Nat → Int32) ⊕ (Nat → Int64) ⊕ (Nat → UInt32) ⊕ (Nat → UInt64) ⊕ (Nat → Option Nat)
def mRA (P : GP) : mAc → mAc
  | .inr (.inr (.inr (.inr f))) => .inr (.inr (.inr (.inr (fun j => (f j).map (fun i => gN P + i)))))
  | x => x
abbrev mH : Type := List va_E
def mC (P : GP) (i : Nat) (c : va_E) (H : Heap) : Prop := match c with
  | .inl (k, n, f) => H[gN P + i]? = some (vp_cell (gC P k) (n, mRA P f))
  | .inr (ci, fs) => ci < 5 → va_at (gD P) mCl (gN P + i, .inr (ci, fs.map (mV P))) H
def Wd (P : GP) (h : mH) (H : Heap) : Prop := H.size = gN P + h.length ∧ ∀ i c, nth h i = some c → mC P i c H
abbrev mLs : Type := List (Option Value)
def lvl (P : GP) : Nat → mLs → List (Nat × Value)
  | _, [] => []
  | j, none :: t => lvl P (j + 1) t
  | j, some v :: t => (j, mV P v) :: lvl P (j + 1) t
def LV (P : GP) (ls : Array Slot) (n : Nat) (L : mLs) : Prop := lv_has ls n (lvl P 0 L) ∧ L.length ≤ n
def md0 : MD := ("", ⟨"", "", ""⟩, ⟨#[]⟩, 0, none, [], [])
def md (a : Nat) : MD := match nth mT a with | some x => x | none => md0
abbrev mOwn (a : Nat) : String := (md a).1
abbrev mY (a : Nat) : MethodName := (md a).2.1
abbrev mCode (a : Nat) : ByteArray := (md a).2.2.1
abbrev mMax (a : Nat) : Nat := (md a).2.2.2.1
abbrev mRet (a : Nat) : Option FieldType := (md a).2.2.2.2.1
abbrev mEx (a : Nat) : List (Nat × Nat × Nat × Nat) := (md a).2.2.2.2.2.1
abbrev mChk (a : Nat) : List Chk := (md a).2.2.2.2.2.2
def seekE : List Ent → Nat → List Ent
  | [], _ => []
  | e :: es, pc => match Nat.beq e.1 pc with | true => e :: es | false => seekE es pc
def seekC : List Chk → Nat → List Ent
  | [], _ => []
  | k :: r, pc => match Nat.ble k.1 pc && Nat.ble pc k.2.1 with | true => seekE k.2.2 pc | false => seekC r pc
def tys (P : GP) : List (ClassId × FieldType) := [(gC P 0, .byte), (gC P 1, .int), (gC P 2, .long), (gC P 3, .array .int)]
def lx : List Cond := lxM.map (fun y => .selects rc_SB y y)
/-- the tables' words, and what the private methods of a class above a text's builder add -/
def lT : List Cond := lw_tbl ++ lx
def TB : List Cond := lT.filter goodWord
def headw (a : Nat) : Cond := match mEx a with | [] => .code (mY a) (mCode a) (mMax a) (mRet a) | x :: r => .codeWith (mY a) (mCode a) (mMax a) (mRet a) (x :: r)
def WS (a : Nat) : List Cond := headw a :: TB
def kSl : List Nat := [0, 2, 1]
def kSb : List (List Int32) := [[], [58, 32], [32]]
def dTen (j : Nat) : Int32 := Int32.ofNat (48 + j / 10)
def dOne (j : Nat) : Int32 := Int32.ofNat (48 + j % 10)
def isNest (w : Jvm.Cond) : Bool := match w with | .fieldLinkNest .. => true | .methodLinkNest .. => true | _ => false
def WF : List Jvm.Cond := lT.filter (fun w => w.onTables && w.keepsFace)
def WN : List Jvm.Cond := lT.filter isNest
def exN (k : Nat) : String := match nth kE k with | some x => x | none => ""
/-- what every method finds, in the state that it starts in -/
def Env (P : GP) (U : State) : Prop := va_K (gD P) mCl (tys P) U ∧ gN P ≤ U.heap.size ∧ va_X (gA P 0) (gL P) (gX P) U U.heap ∧ gA P 0 < gN P ∧
  (∀ w ∈ WF, w.before #[] U = true) ∧ (∀ w ∈ WN, w.before #[] U = true) ∧
  vx_Zq Bundle.tN "UNASSIGNED_STACK" Bundle.steD (gF P) U U.heap ∧ vx_Zq Bundle.tN "SUPPRESSED_SENTINEL" Bundle.listD (gF P) U U.heap ∧
  (∀ q ∈ LR, ∃ sa : Nat, vk_R q.1 q.2.1 q.2.2 sa U) ∧ (∀ i q, nth LTx i = some q → vk_R q.1 q.2.1 q.2.2 (gA P (10 + i)) U) ∧
  vk_S 3 kSl kSb (fun i => gA P (10 + i)) (fun i => gA P (30 + i)) (gF P) U U.heap ∧
  va_Z "java/lang/String" "COMPACT_STRINGS" "Z" (.int 1) (gF P) U U.heap ∧
  (va_Z "java/lang/Integer" "DigitTens" "[B" (.ref (gA P 50)) (gF P) U U.heap ∧ va_T .byte (gA P 50) 100 (fun j => .int (dTen j)) (gF P) U U.heap) ∧
  (va_Z "java/lang/Integer" "DigitOnes" "[B" (.ref (gA P 51)) (gF P) U U.heap ∧ va_T .byte (gA P 51) 100 (fun j => .int (dOne j)) (gF P) U U.heap) ∧
  (va_Nc (exN 1) (exN 0) U ∧ va_Nc (exN 0) (exN 1) U) ∧ ((gl P).stackTraces = false ∧ (Jvm.Cond.arrayOver (.array .int)).before #[] U = true)
abbrev Res : Type := Option Value ⊕ Nat
abbrev Kt : Type := Res → mH → Prop
def QcK (P : GP) (K : Kt) : Array Value → State → Outcome → State → Prop := fun _ st o t => ∃ (v : Option Value) (h : mH), o = .returned (v.map (mV P)) ∧ K (.inl v) h ∧ Wd P h t.heap ∧ va_F (gF P) st t
def XcK (P : GP) (K : Kt) : String → State → State → Prop := fun E st t => ∃ (k : Nat) (h : mH), (k < 2 ∧ E = exN k) ∧ K (.inr k) h ∧ Wd P h t.heap ∧ va_F (gF P) st t
def PcK (P : GP) (args : List Value) (h : mH) : Array Value → State → Prop := fun a U => a = (args.map (mV P)).toArray ∧ Env P U ∧ Wd P h U.heap
/-- method a, called with args over h: in d frames, mc cells, ms slots it answers or throws so that K holds -/
def M (P : GP) (a : Nat) (args : List Value) (h : mH) (mc ms d : Nat) (K : Kt) : Prop :=
  vx_Met (gl P) (mY a) (WS a) { frames := d, cells := mc, slots := ms, locals := 100 * d } (PcK P args h) (QcK P K) (XcK P K) mc ms (gF P)
/-- what stays through a method's body -/
def Fx (P : GP) (a d : Nat) (p : Program) (R : Room) (s : State) (m : MethodId) (args : Array Value) (meth : Method) (c : Code) : Prop :=
  p.tables.exec = Jvm.exec ∧ c.code = mCode a ∧ c.maxLocals = mMax a ∧ meth.sig.returnType = mRet a ∧ s.vm.findClass (mOwn a) = some m.cls ∧ (∀ w ∈ TB, w.before args s = true) ∧ Env P s ∧ meth.locks = false ∧ meth.name = (mY a).name ∧ c.exceptionTable.toList = tableOf (mEx a) ∧ d ≤ R.frames ∧ 100 * d ≤ R.locals
def Dy (P : GP) (R : Room) (s : State) (H : Heap) (locs : List Loc) (cells slots : Nat) (h : mH) (cb sb : Nat) : Prop := cells + cb ≤ R.cells ∧ slots + sb ≤ R.slots ∧ va_S (gF P) s.heap H locs ∧ Wd P h H
/-- method a at pc, with locals L, stack st, heap h, cb cells and sb slots left: it comes to an end with K -/
def G (P : GP) (a : Nat) (K : Kt) (d pc : Nat) (L : mLs) (st : List Value) (h : mH) (cb sb : Nat) : Prop :=
  ∀ (p : Program) (e : Jvm.Env) (R : Room) (s : State) (m : MethodId) (args : Array Value) (below : List Frame) (meth : Method) (c : Code) (H : Heap) (locs : List Loc) (cells slots : Nat) (ls : Array Slot),
    Fx P a d p R s m args meth c → Dy P R s H locs cells slots h cb sb → LV P ls (mMax a) L →
    W p (gl P) e R s m args below meth c H locs cells slots (vx_MQ below (QcK P K) (XcK P K) args s R.cells R.slots (gF P)) (F0 m pc ls (st.map (mV P)))
