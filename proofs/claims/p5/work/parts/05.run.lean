/-! the steps of the small machine: 'run n cs L st h cb sb' is what is left to show, some n steps on -/
abbrev Ct : Type := List Ent → mLs → List Value → mH → Nat → Nat → Prop
def nxt (P : GP) (a : Nat) (K : Kt) (d : Nat) (k : Ct) (pc : Nat) (cs : List Ent) (L : mLs) (st : List Value) (h : mH) (cb sb : Nat) : Prop :=
  match cs with
  | [] => G P a K d pc L st h cb sb
  | e :: es => match Nat.beq e.1 pc with
    | true => match e.2.2.2.2.2.2 with
      | true => G P a K d e.1 L st h cb sb
      | false => k (e :: es) L st h cb sb
    | false => False
def jmp (P : GP) (a : Nat) (K : Kt) (d : Nat) (k : Ct) (t : Nat) : mLs → List Value → mH → Nat → Nat → Prop := nxt P a K d k t (seekC (mChk a) t)
def p1i (st : List Value) (f : Int32 → List Value → Prop) : Prop := match st with | .int x :: r => f x r | _ => False
def p2i (st : List Value) (f : Int32 → Int32 → List Value → Prop) : Prop := match st with | .int y :: .int x :: r => f x y r | _ => False
def p1l (st : List Value) (f : Int64 → List Value → Prop) : Prop := match st with | .long x :: r => f x r | _ => False
def p2l (st : List Value) (f : Int64 → Int64 → List Value → Prop) : Prop := match st with | .long y :: .long x :: r => f x y r | _ => False
def plj (st : List Value) (f : Int64 → Int32 → List Value → Prop) : Prop := match st with | .int y :: .long x :: r => f x y r | _ => False
def ldI (L : mLs) (i : Nat) (f : Int32 → Prop) : Prop := match nth L i with | some (some (.int x)) => f x | _ => False
def ldL (L : mLs) (i : Nat) (f : Int64 → Prop) : Prop := match nth L i with | some (some (.long x)) => f x | _ => False
def ldA (L : mLs) (i : Nat) (f : Value → Prop) : Prop := match nth L i with
  | some (some (.ref x)) => f (.ref x)
  | some (some (.retAddr x)) => f (.retAddr x)
  | some (some .null) => f .null
  | _ => False
def cat2 (x : Option Value) : Bool := match x with | some (.long _) => true | some (.double _) => true | _ => false
/-- a value of one slot (or none that is known) is put at place i -/
def set1 : mLs → Nat → Option Value → (mLs → Prop) → Prop
  | _ :: t, 0, v, f => f (v :: t)
  | x :: _ :: t, 1, v, f => match cat2 x with | true => f (none :: v :: t) | false => f (x :: v :: t)
  | x :: t, n + 2, v, f => set1 t (n + 1) v (fun l => f (x :: l))
  | _, _, _, _ => False
def set2 : mLs → Nat → Option Value → (mLs → Prop) → Prop
  | _ :: _ :: t, 0, v, f => f (v :: none :: t)
  | x :: _ :: _ :: t, 1, v, f => match cat2 x with | true => f (none :: v :: none :: t) | false => f (x :: v :: none :: t)
  | x :: t, n + 2, v, f => set2 t (n + 1) v (fun l => f (x :: l))
  | _, _, _, _ => False
def cI (i : Nat) (f : Int32 → Prop) : Prop := match nth kI i with | some v => f v | none => False
def cJ (i : Nat) (f : Int64 → Prop) : Prop := match nth kJ i with | some v => f v | none => False
def condI (c : ClassFile.Cond) (x y : Int32) (t f : Prop) : Prop := match c with
  | .eq => (x = y → t) ∧ (¬ x = y → f)
  | .ne => (x = y → f) ∧ (¬ x = y → t)
  | .lt => (x < y → t) ∧ (¬ x < y → f)
  | .ge => (x < y → f) ∧ (¬ x < y → t)
  | .gt => (y < x → t) ∧ (¬ y < x → f)
  | .le => (y < x → f) ∧ (¬ y < x → t)
def condL (c : ClassFile.Cond) (x y : Int64) (t f : Prop) : Prop := match c with
  | .eq => (x = y → t) ∧ (¬ x = y → f)
  | .ne => (x = y → f) ∧ (¬ x = y → t)
  | .lt => (x < y → t) ∧ (¬ x < y → f)
  | .ge => (x < y → f) ∧ (¬ x < y → t)
  | .gt => (y < x → t) ∧ (¬ y < x → f)
  | .le => (y < x → f) ∧ (¬ y < x → t)
def swi : List (Int32 × Nat) → Int32 → (Nat → Prop) → Nat → Prop
  | [], _, f, df => f df
  | q :: r, v, f, df => (v = q.1 → f q.2) ∧ (¬ v = q.1 → swi r v f df)
def popN : Nat → List Value → List Value → (List Value → List Value → Prop) → Prop
  | 0, st, as, f => f as st
  | n + 1, v :: st, as, f => popN n st (v :: as) f
  | _ + 1, [], _, _ => False
def catS : List Value → Nat
  | [] => 0
  | v :: r => v.category + catS r
def mDf (ci : Nat) : List Value := match ci with
  | 0 => [.null, .int 0, .int 0, .int 0]
  | 1 => [.null, .int 0, .int 0, .int 0]
  | 2 => [.null, .null, .null, .null, .int 0, .int 0]
  | 3 => [.long 0, .null]
  | _ => [.int 0, .null, .null, .null, .null, .int 0, .int 0]
def mTy (ci k : Nat) : FieldType := match ci with | 0 => yT0 k | 1 => yT1 k | 2 => yT2 k | 3 => yT3 k | _ => yT4 k
def fitK (ty : FieldType) (v : Value) (q : Prop) : Prop := match ty with
  | .int => match v with | .int _ => q | _ => False
  | .long => match v with | .long _ => q | _ => False
  | .array _ => match v with | .ref _ => q | .null => q | .retAddr _ => q | _ => False
  | .object _ => match v with | .ref _ => q | .null => q | .retAddr _ => q | _ => False
  | .byte => match v with | .int x => (narrow .byte (.int x) = .int x ∧ fits .byte (.int x) = true) ∧ q | _ => False
  | .boolean => match v with | .int x => (narrow .boolean (.int x) = .int x ∧ fits .boolean (.int x) = true) ∧ q | _ => False
  | _ => False
def gtf (h : mH) (st : List Value) (ci j : Nat) (f : Value → List Value → Prop) : Prop := match st with
  | .ref i :: r => match nth h i with
    | some (.inr (cj, fs)) => match Nat.beq cj ci with
      | true => match nth fs j with | some v => f v r | none => False
      | false => False
    | _ => False
  | .retAddr c :: r => match Nat.ble 10 c && Nat.blt c 13 && Nat.beq ci 0 with
    | true => match j with | 0 => f (.retAddr (c + 20)) r | 1 => f (.int 0) r | _ => False
    | false => False
  | _ => False
def ptf (h : mH) (st : List Value) (ci j : Nat) (f : mH → List Value → Prop) : Prop := match st with
  | v :: .ref i :: r => match nth h i with
    | some (.inr (cj, fs)) => match Nat.beq cj ci with
      | true => match nth fs j with | some _ => fitK (mTy ci j) v (f (h.set i (.inr (ci, fs.set j v))) r) | none => False
      | false => False
    | _ => False
  | _ => False
/-- bytes that are fixed: of the texts, and of the tables of digits -/
def cBy (c : Nat) : Option (Nat × (Nat → Int32)) := match Nat.ble 30 c && Nat.blt c 33 with
  | true => match nth kSl (c - 30) with | some n => some (n, fun j => (kSb.getD (c - 30) []).getD j 0) | none => none
  | false => match Nat.beq c 50 with | true => some (100, dTen) | false => match Nat.beq c 51 with | true => some (100, dOne) | false => none
def alI (P : GP) (h : mH) (st : List Value) (f : Value → List Value → Prop) : Prop := match st with
  | .int j :: .ref i :: r => match nth h i with
    | some (.inl (k, n, .inl g)) => match Nat.beq k 1 with | true => vp_in j n ∧ f (.int (g j.toNatClampNeg)) r | false => False
    | _ => False
  | .int j :: .retAddr c :: r => match c with | 0 => vp_in j (gL P) ∧ f (.int (gX P j.toNatClampNeg)) r | _ => False
  | _ => False
def alB (h : mH) (st : List Value) (f : Value → List Value → Prop) : Prop := match st with
  | .int j :: .ref i :: r => match nth h i with
    | some (.inl (k, n, .inl g)) => match Nat.beq k 0 with | true => vp_in j n ∧ f (.int (g j.toNatClampNeg)) r | false => False
    | _ => False
  | .int j :: .retAddr c :: r => match cBy c with | some (n, g) => vp_in j n ∧ f (.int (g j.toNatClampNeg)) r | none => False
  | _ => False
def alL (h : mH) (st : List Value) (f : Value → List Value → Prop) : Prop := match st with
  | .int j :: .ref i :: r => match nth h i with
    | some (.inl (k, n, .inr (.inl g))) => match Nat.beq k 2 with | true => vp_in j n ∧ f (.long (g j.toNatClampNeg)) r | false => False
    | _ => False
  | _ => False
def alA (h : mH) (st : List Value) (f : Value → List Value → Prop) : Prop := match st with
  | .int j :: .ref i :: r => match nth h i with
    | some (.inl (k, n, .inr (.inr (.inr (.inr g))))) => match Nat.beq k 3 with | true => vp_in j n ∧ (∀ q, g j.toNatClampNeg = some q → f (.ref q) r) ∧ ¬ g j.toNatClampNeg = none | false => False
    | _ => False
  | _ => False
def asI (h : mH) (st : List Value) (f : mH → List Value → Prop) : Prop := match st with
  | .int x :: .int j :: .ref i :: r => match nth h i with
    | some (.inl (k, n, .inl g)) => match Nat.beq k 1 with | true => vp_in j n ∧ f (h.set i (.inl (k, n, .inl (upd g j.toNatClampNeg x)))) r | false => False
    | _ => False
  | _ => False
def asB (h : mH) (st : List Value) (f : mH → List Value → Prop) : Prop := match st with
  | .int x :: .int j :: .ref i :: r => match nth h i with
    | some (.inl (k, n, .inl g)) => match Nat.beq k 0 with | true => vp_in j n ∧ f (h.set i (.inl (k, n, .inl (upd g j.toNatClampNeg (vp_nar .byte x))))) r | false => False
    | _ => False
  | _ => False
def asL (h : mH) (st : List Value) (f : mH → List Value → Prop) : Prop := match st with
  | .long x :: .int j :: .ref i :: r => match nth h i with
    | some (.inl (k, n, .inr (.inl g))) => match Nat.beq k 2 with | true => vp_in j n ∧ f (h.set i (.inl (k, n, .inr (.inl (vp_updL g j.toNatClampNeg x))))) r | false => False
    | _ => False
  | _ => False
def aln (P : GP) (h : mH) (st : List Value) (f : Value → List Value → Prop) : Prop := match st with
  | .ref i :: r => match nth h i with | some (.inl (k, n, _)) => (match Nat.blt k 4 with | true => f (.int (Int32.ofNat n)) r | false => False) | _ => False
  | .retAddr c :: r => match c with | 0 => f (.int (Int32.ofNat (gL P))) r | c' + 1 => match cBy (c' + 1) with | some (n, _) => f (.int (Int32.ofNat n)) r | none => False
  | _ => False
def isR (t : Option FieldType) : Bool := match t with | some (.object _) => true | some (.array _) => true | _ => false
def junk : va_E := .inr (9, [])
/-- which of the two exceptions an entry of a table names -/
def catE : List (Nat × Nat) → Nat → Option Nat
  | [], _ => none
  | q :: r, i => match Nat.beq q.1 i with | true => some q.2 | false => catE r i
def findH : List (Nat × Nat × Nat × Nat) → Nat → Nat → Option Nat
  | [], _, _ => none
  | x :: r, pc, E => match Nat.ble x.1 pc && Nat.blt pc x.2.1 with
    | true => match catE kC x.2.2.2 with
      | some E2 => match Nat.beq E2 E with | true => some x.2.2.1 | false => findH r pc E
      | none => some 65535
    | false => findH r pc E
def thr (P : GP) (a : Nat) (K : Kt) (d : Nat) (k : Ct) (pc : Nat) (L : mLs) (h : mH) (cb sb E : Nat) : Prop := match findH (mEx a) pc E with
  | none => K (.inr E) h
  | some t => match seekC (mChk a) t with
    | e :: cs => match e.2.1 with
      | .astore _ => set1 L e.2.2.2.1 none (fun L => nxt P a K d k (e.1 + e.2.2.1) cs L [] h cb sb)
      | .astore_n _ => set1 L e.2.2.2.1 none (fun L => nxt P a K d k (e.1 + e.2.2.1) cs L [] h cb sb)
      | _ => False
    | [] => False
def cal (P : GP) (a : Nat) (K : Kt) (d : Nat) (k : Ct) (pc n : Nat) (cs : List Ent) (L : mLs) (h : mH) (cb sb x : Nat) (as r : List Value) : Prop :=
  match Nat.ble (catS r) 8 with
  | true => ∃ mc ms d' : Nat, M P x as h mc ms d' (fun res h' => match res with
      | .inl v => match v with
        | some w => nxt P a K d k (pc + n) cs L (w :: r) h' (cb - mc) (sb - ms)
        | none => nxt P a K d k (pc + n) cs L r h' (cb - mc) (sb - ms)
      | .inr E => thr P a K d k pc L h' (cb - mc) (sb - ms) E) ∧ mc ≤ cb ∧ ms ≤ sb ∧ d' + 1 ≤ d
  | false => False
def stepI (P : GP) (a : Nat) (K : Kt) (d : Nat) (k : Ct) (e : Ent) (cs : List Ent) (L : mLs) (st : List Value) (h : mH) (cb sb : Nat) : Prop :=
  match e with
  | (pc, i, n, x, y, z, _) => match i with
    | .iconst _ => cI x fun v => nxt P a K d k (pc + n) cs L (.int v :: st) h cb sb
    | .bipush _ => cI x fun v => nxt P a K d k (pc + n) cs L (.int v :: st) h cb sb
    | .sipush _ => cI x fun v => nxt P a K d k (pc + n) cs L (.int v :: st) h cb sb
    | .lconst _ => cJ x fun v => nxt P a K d k (pc + n) cs L (.long v :: st) h cb sb
    | .ldc2_w _ => cJ x fun v => nxt P a K d k (pc + n) cs L (.long v :: st) h cb sb
    | .aconst_null => nxt P a K d k (pc + n) cs L (.null :: st) h cb sb
    | .iload _ => ldI L x fun v => nxt P a K d k (pc + n) cs L (.int v :: st) h cb sb
    | .iload_n _ => ldI L x fun v => nxt P a K d k (pc + n) cs L (.int v :: st) h cb sb
    | .lload _ => ldL L x fun v => nxt P a K d k (pc + n) cs L (.long v :: st) h cb sb
    | .lload_n _ => ldL L x fun v => nxt P a K d k (pc + n) cs L (.long v :: st) h cb sb
    | .aload _ => ldA L x fun v => nxt P a K d k (pc + n) cs L (v :: st) h cb sb
    | .aload_n _ => ldA L x fun v => nxt P a K d k (pc + n) cs L (v :: st) h cb sb
    | .istore _ => p1i st fun v r => set1 L x (some (.int v)) fun L => nxt P a K d k (pc + n) cs L r h cb sb
    | .istore_n _ => p1i st fun v r => set1 L x (some (.int v)) fun L => nxt P a K d k (pc + n) cs L r h cb sb
    | .lstore _ => p1l st fun v r => set2 L x (some (.long v)) fun L => nxt P a K d k (pc + n) cs L r h cb sb
    | .lstore_n _ => p1l st fun v r => set2 L x (some (.long v)) fun L => nxt P a K d k (pc + n) cs L r h cb sb
    | .astore _ => match st with
      | .ref v :: r => set1 L x (some (.ref v)) fun L => nxt P a K d k (pc + n) cs L r h cb sb
      | .retAddr v :: r => set1 L x (some (.retAddr v)) fun L => nxt P a K d k (pc + n) cs L r h cb sb
      | _ => False
    | .astore_n _ => match st with
      | .ref v :: r => set1 L x (some (.ref v)) fun L => nxt P a K d k (pc + n) cs L r h cb sb
      | .retAddr v :: r => set1 L x (some (.retAddr v)) fun L => nxt P a K d k (pc + n) cs L r h cb sb
      | _ => False
    | .iinc _ _ => ldI L x fun v => cI y fun w => set1 L x (some (.int (v + w))) fun L => nxt P a K d k (pc + n) cs L st h cb sb
    | .iadd => p2i st fun u v r => nxt P a K d k (pc + n) cs L (.int (u + v) :: r) h cb sb
    | .isub => p2i st fun u v r => nxt P a K d k (pc + n) cs L (.int (u - v) :: r) h cb sb
    | .imul => p2i st fun u v r => nxt P a K d k (pc + n) cs L (.int (u * v) :: r) h cb sb
    | .iand => p2i st fun u v r => nxt P a K d k (pc + n) cs L (.int (u &&& v) :: r) h cb sb
    | .ior => p2i st fun u v r => nxt P a K d k (pc + n) cs L (.int (u ||| v) :: r) h cb sb
    | .idiv => p2i st fun u v r => ¬ v = 0 ∧ nxt P a K d k (pc + n) cs L (.int (u / v) :: r) h cb sb
    | .irem => p2i st fun u v r => ¬ v = 0 ∧ nxt P a K d k (pc + n) cs L (.int (u - u / v * v) :: r) h cb sb
    | .ineg => p1i st fun v r => nxt P a K d k (pc + n) cs L (.int (-v) :: r) h cb sb
    | .ishl => p2i st fun u v r => nxt P a K d k (pc + n) cs L (.int (u <<< (v &&& 31)) :: r) h cb sb
    | .ishr => p2i st fun u v r => nxt P a K d k (pc + n) cs L (.int (u >>> (v &&& 31)) :: r) h cb sb
    | .iushr => p2i st fun u v r => nxt P a K d k (pc + n) cs L (.int (u.toUInt32 >>> (v.toUInt32 &&& Int32.toUInt32 31)).toInt32 :: r) h cb sb
    | .i2l => p1i st fun v r => nxt P a K d k (pc + n) cs L (.long v.toInt64 :: r) h cb sb
    | .i2b => p1i st fun v r => nxt P a K d k (pc + n) cs L (.int v.toInt8.toInt32 :: r) h cb sb
    | .i2c => p1i st fun v r => nxt P a K d k (pc + n) cs L (.int (v.toUInt32 % 65536).toInt32 :: r) h cb sb
    | .l2i => p1l st fun v r => nxt P a K d k (pc + n) cs L (.int v.toInt32 :: r) h cb sb
    | .ladd => p2l st fun u v r => nxt P a K d k (pc + n) cs L (.long (u + v) :: r) h cb sb
    | .lsub => p2l st fun u v r => nxt P a K d k (pc + n) cs L (.long (u - v) :: r) h cb sb
    | .lmul => p2l st fun u v r => nxt P a K d k (pc + n) cs L (.long (u * v) :: r) h cb sb
    | .land => p2l st fun u v r => nxt P a K d k (pc + n) cs L (.long (u &&& v) :: r) h cb sb
    | .lor => p2l st fun u v r => nxt P a K d k (pc + n) cs L (.long (u ||| v) :: r) h cb sb
    | .lxor => p2l st fun u v r => nxt P a K d k (pc + n) cs L (.long (u ^^^ v) :: r) h cb sb
    | .ldiv => p2l st fun u v r => ¬ v = 0 ∧ nxt P a K d k (pc + n) cs L (.long (u / v) :: r) h cb sb
    | .lrem => p2l st fun u v r => ¬ v = 0 ∧ nxt P a K d k (pc + n) cs L (.long (u - u / v * v) :: r) h cb sb
    | .lneg => p1l st fun v r => nxt P a K d k (pc + n) cs L (.long (-v) :: r) h cb sb
    | .lshl => plj st fun u v r => nxt P a K d k (pc + n) cs L (.long (u <<< (v.toInt64 &&& 63)) :: r) h cb sb
    | .lshr => plj st fun u v r => nxt P a K d k (pc + n) cs L (.long (u >>> (v.toInt64 &&& 63)) :: r) h cb sb
    | .lushr => plj st fun u v r => nxt P a K d k (pc + n) cs L (.long (u.toUInt64 >>> (v.toInt64.toUInt64 &&& Int64.toUInt64 63)).toInt64 :: r) h cb sb
    | .dup => match st with | .ref v :: r => nxt P a K d k (pc + n) cs L (.ref v :: .ref v :: r) h cb sb | .int v :: r => nxt P a K d k (pc + n) cs L (.int v :: .int v :: r) h cb sb | _ => False
    | .dup_x1 => match st with
      | .int v :: .ref w :: r => nxt P a K d k (pc + n) cs L (.int v :: .ref w :: .int v :: r) h cb sb
      | _ => False
    | .pop => match st with | .ref _ :: r => nxt P a K d k (pc + n) cs L r h cb sb | .int _ :: r => nxt P a K d k (pc + n) cs L r h cb sb | _ => False
    | .pop2 => p1l st fun _ r => nxt P a K d k (pc + n) cs L r h cb sb
    | .ifCond c _ => p1i st fun v r => condI c v 0 (jmp P a K d k x L r h cb sb) (nxt P a K d k (pc + n) cs L r h cb sb)
    | .if_icmp c _ => p2i st fun u v r => condI c u v (jmp P a K d k x L r h cb sb) (nxt P a K d k (pc + n) cs L r h cb sb)
    | .lcmp => p2l st fun u v r => match cs with
      | (pc2, j, n2, x2, _, _, fl) :: cs2 => match Nat.beq pc2 (pc + n) && !fl with
        | true => match j with
          | .ifCond c _ => condL c u v (jmp P a K d k x2 L r h cb sb) (nxt P a K d k (pc2 + n2) cs2 L r h cb sb)
          | _ => False
        | false => False
      | [] => False
    | .goto _ => jmp P a K d k x L st h cb sb
    | .ifnonnull _ => match st with
      | .ref _ :: r => jmp P a K d k x L r h cb sb
      | .retAddr _ :: r => jmp P a K d k x L r h cb sb
      | _ => False
    | .tableswitch _ _ _ _ => p1i st fun v r => match nth kS z with
      | some l => swi l v (fun t => jmp P a K d k t L r h cb sb) x
      | none => False
    | .getfield _ => gtf h st x y fun v r => nxt P a K d k (pc + n) cs L (v :: r) h cb sb
    | .putfield _ => ptf h st x y fun h r => nxt P a K d k (pc + n) cs L r h cb sb
    | .getstatic _ => match x with
      | 0 => nxt P a K d k (pc + n) cs L (.int 1 :: st) h cb sb
      | 1 => nxt P a K d k (pc + n) cs L (.retAddr 50 :: st) h cb sb
      | 2 => nxt P a K d k (pc + n) cs L (.retAddr 51 :: st) h cb sb
      | _ => False
    | .iaload => alI P h st fun v r => nxt P a K d k (pc + n) cs L (v :: r) h cb sb
    | .baload => alB h st fun v r => nxt P a K d k (pc + n) cs L (v :: r) h cb sb
    | .laload => alL h st fun v r => nxt P a K d k (pc + n) cs L (v :: r) h cb sb
    | .aaload => alA h st fun v r => nxt P a K d k (pc + n) cs L (v :: r) h cb sb
    | .iastore => asI h st fun h r => nxt P a K d k (pc + n) cs L r h cb sb
    | .bastore => asB h st fun h r => nxt P a K d k (pc + n) cs L r h cb sb
    | .lastore => asL h st fun h r => nxt P a K d k (pc + n) cs L r h cb sb
    | .arraylength => aln P h st fun v r => nxt P a K d k (pc + n) cs L (v :: r) h cb sb
    | .ldc _ => match y with
      | 0 => cI x fun v => nxt P a K d k (pc + n) cs L (.int v :: st) h cb sb
      | 1 => match Nat.blt x 3 with | true => nxt P a K d k (pc + n) cs L (.retAddr (10 + x) :: st) h cb sb | false => False
      | _ => False
    | .new _ => match Nat.ble 100 x with
      | true => match mEx a with
        | [] => (1 ≤ cb ∧ 6 ≤ sb ∧ 6 ≤ d ∧ catS st ≤ 8) ∧ ∀ j, K (.inr (x - 100)) (h ++ List.replicate j junk)
        | _ :: _ => False
      | false => match Nat.ble 5 x with
        | true => False
        | false => (1 ≤ cb ∧ y ≤ sb) ∧ nxt P a K d k (pc + n) cs L (.ref h.length :: st) (h ++ [.inr (x, mDf x)]) (cb - 1) (sb - y)
    | .newarray _ => p1i st fun v r => (¬ v < 0 ∧ 1 ≤ cb ∧ v.toNatClampNeg ≤ sb ∧ v.toNatClampNeg ≤ 67108864) ∧ match x with
      | 0 => nxt P a K d k (pc + n) cs L (.ref h.length :: r) (h ++ [.inl (0, v.toNatClampNeg, .inl (fun _ => 0))]) (cb - 1) (sb - v.toNatClampNeg)
      | 1 => nxt P a K d k (pc + n) cs L (.ref h.length :: r) (h ++ [.inl (1, v.toNatClampNeg, .inl (fun _ => 0))]) (cb - 1) (sb - v.toNatClampNeg)
      | 2 => nxt P a K d k (pc + n) cs L (.ref h.length :: r) (h ++ [.inl (2, v.toNatClampNeg, .inr (.inl (fun _ => 0)))]) (cb - 1) (sb - v.toNatClampNeg)
      | _ => False
    | .invokestatic _ => match z with
      | 0 => popN y st [] fun as r => cal P a K d k pc n cs L h cb sb x as r
      | 8 => popN y st [] fun as r => cal P a K d k pc n cs L h cb sb x as r
      | _ => False
    | .invokevirtual _ => match Nat.beq (z / 16) 1 || Nat.beq (z / 16) 2 || Nat.beq (z / 16) 3 with
      | true => popN (y + 1) st [] fun as r => match as with
        | .ref i :: as' => match nth h i with
          | some (.inr (ci, _)) => match Nat.beq ci (z % 16) with
            | true => cal P a K d k pc n cs L h cb sb x (.ref i :: as') r
            | false => False
          | _ => False
        | .retAddr c :: as' => match Nat.beq (z % 16) 0 && Nat.ble 10 c && Nat.blt c 13 with
          | true => cal P a K d k pc n cs L h cb sb x (.retAddr c :: as') r
          | false => False
        | _ => False
      | false => False
    | .invokespecial _ => match z with
      | 4 => popN (y + 1) st [] fun as r => match as with
        | .ref i :: as' => match nth h i with
          | some (.inr (ci, _)) => match Nat.blt ci 5 with
            | true => cal P a K d k pc n cs L h cb sb x (.ref i :: as') r
            | false => False
          | _ => False
        | _ => False
      | 5 => popN (y + 1) st [] fun as r => match as with | .ref i :: as' => cal P a K d k pc n cs L h cb sb x (.ref i :: as') r | _ => False
      | 6 => popN (y + 1) st [] fun as r => match as with | .ref i :: as' => cal P a K d k pc n cs L h cb sb x (.ref i :: as') r | _ => False
      | 7 => match st with
        | .ref _ :: r => match Nat.ble (catS r) 8 && Nat.ble 1 d with
          | true => nxt P a K d k (pc + n) cs L r h cb sb
          | false => False
        | _ => False
      | _ => False
    | .return_ => match st with | [] => (match mRet a with | none => K (.inl none) h | some _ => False) | _ :: _ => False
    | .ireturn => p1i st fun v r => match r with
      | [] => match mRet a with
        | some .int => K (.inl (some (.int v))) h
        | some ty => narrow ty (.int v) = .int v ∧ K (.inl (some (.int v))) h
        | none => False
      | _ => False
    | .lreturn => p1l st fun v r => match r with
      | [] => match mRet a with | some .long => K (.inl (some (.long v))) h | _ => False
      | _ => False
    | .areturn => match st with
      | [.ref v] => match isR (mRet a) with | true => K (.inl (some (.ref v))) h | false => False
      | [.retAddr v] => match isR (mRet a) with | true => K (.inl (some (.retAddr v))) h | false => False
      | _ => False
    | _ => False
def run (P : GP) (a : Nat) (K : Kt) (d : Nat) : Nat → Ct
  | 0 => fun cs L st h cb sb => match cs with | [] => False | e :: _ => G P a K d e.1 L st h cb sb
  | n + 1 => fun cs L st h cb sb => match cs with
    | [] => False
    | e :: es => stepI P a K d (run P a K d n) e es L st h cb sb
