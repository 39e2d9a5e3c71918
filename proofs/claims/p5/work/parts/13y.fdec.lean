/-! an instruction against its bytes, by its constructor -/
theorem fd_bd {α β : Type} {r : Jvm.Free.DS.Rd α} {f : α → Jvm.Free.DS.Rd β} {A : ByteArray} {p s : Nat} {a : α} (h : r A p = .ok (a, s)) : (r >>= f) A p = f a A s := by
  show (do let (a, s) ← r A p; f a A s : Except DecodeError (β × Nat)) = _
  rw [h]
  rfl
theorem fd_u1 {A : ByteArray} {p : Nat} {b : UInt8} (h : A.data.toList[p]? = some b) : (Reader.u1 : Jvm.Free.DS.Rd Nat) A p = .ok (b.toNat, p + 1) := by
  have e : (Reader.u1 : Jvm.Free.DS.Rd Nat) A p = (if h : p < A.size then .ok (A[p].toNat, p + 1) else .error (HasTruncated.truncated p)) := by
    show (do if h : p < A.size then do set (p + 1); Pure.pure A[p].toNat else MonadExcept.throw (HasTruncated.truncated p) : Jvm.Free.DS.Rd Nat) A p = _
    by_cases hi : p < A.size
    · rw [dif_pos hi, dif_pos hi]; rfl
    · rw [dif_neg hi, dif_neg hi]; rfl
  have hp : p < A.size := Jvm.Free.DS.bt_lt h
  have hb : A[p] = b := Option.some.inj ((Jvm.Free.DS.bt_some hp).symm.trans h)
  rw [e, dif_pos hp, hb]
theorem fd_u2 {A : ByteArray} {p : Nat} {b c : UInt8} (h : A.data.toList[p]? = some b) (h2 : A.data.toList[p + 1]? = some c) : (Reader.u2 : Jvm.Free.DS.Rd Nat) A p = .ok (b.toNat * 256 + c.toNat, p + 2) := by
  show ((Reader.u1 : Jvm.Free.DS.Rd Nat) >>= fun hi => Reader.u1 >>= fun lo => Pure.pure (hi * 256 + lo)) A p = _
  rw [fd_bd (fd_u1 h), fd_bd (fd_u1 h2)]
  rfl
theorem fd_map {α β : Type} {r : Jvm.Free.DS.Rd α} {g : α → β} {A : ByteArray} {p s : Nat} {a : α} (h : r A p = .ok (a, s)) : (g <$> r) A p = .ok (g a, s) := by
  show (do let (a, s) ← r A p; .ok (g a, s) : Except DecodeError (β × Nat)) = _
  rw [h]
  rfl
theorem fd_s1 {A : ByteArray} {p : Nat} {b : UInt8} (h : A.data.toList[p]? = some b) : (Reader.s1 : Jvm.Free.DS.Rd Int) A p = .ok (Reader.signed 8 b.toNat, p + 1) := fd_map (fd_u1 h)
theorem fd_s2 {A : ByteArray} {p : Nat} {b c : UInt8} (h : A.data.toList[p]? = some b) (h2 : A.data.toList[p + 1]? = some c) : (Reader.s2 : Jvm.Free.DS.Rd Int) A p = .ok (Reader.signed 16 (b.toNat * 256 + c.toNat), p + 2) := fd_map (fd_u2 h h2)
theorem fd_dc {code : ByteArray} {pc n : Nat} {i : Instr} (h : Decoder.instr pc code pc = .ok (i, pc + n)) : decode code pc = .ok (i, n) := by
  show (do let (x, s) ← Decoder.instr pc code pc; Pure.pure (x, s - pc) : Except DecodeError (Instr × Nat)) = _
  rw [h]
  show Except.ok (i, pc + n - pc) = _
  rw [Nat.add_sub_cancel_left]
def ck0 (op n : Nat) (l : List UInt8) : Bool := match l with | b :: _ => Nat.beq n 1 && Nat.beq b.toNat op | [] => false
def ckU (op k n : Nat) (l : List UInt8) : Bool := match l with | b :: c :: _ => Nat.beq n 2 && (Nat.beq b.toNat op && Nat.beq c.toNat k) | _ => false
def ckW (op k n : Nat) (l : List UInt8) : Bool := match l with | b :: c :: d :: _ => Nat.beq n 3 && (Nat.beq b.toNat op && Nat.beq (c.toNat * 256 + d.toNat) k) | _ => false
def ckB (op : Nat) (v : Int) (n : Nat) (l : List UInt8) : Bool := match l with | b :: c :: _ => Nat.beq n 2 && (Nat.beq b.toNat op && decide (Reader.signed 8 c.toNat = v)) | _ => false
def ckS (op : Nat) (v : Int) (n : Nat) (l : List UInt8) : Bool := match l with | b :: c :: d :: _ => Nat.beq n 3 && (Nat.beq b.toNat op && decide (Reader.signed 16 (c.toNat * 256 + d.toNat) = v)) | _ => false
def ckN (op k : Nat) (v : Int) (n : Nat) (l : List UInt8) : Bool := match l with | b :: c :: d :: _ => Nat.beq n 3 && (Nat.beq b.toNat op && (Nat.beq c.toNat k && decide (Reader.signed 8 d.toNat = v))) | _ => false
section FD
variable {code : ByteArray} {pc : Nat} {l : List UInt8} {f : Nat → Jvm.Free.DS.Rd Instr}
theorem fd_ins {b : UInt8} {op : Nat} (hf : Decoder.instr pc = (Reader.u1 >>= f)) (h0 : code.data.toList[pc]? = some b) (ho : b.toNat = op) : Decoder.instr pc code pc = f op code (pc + 1) := by
  rw [hf, fd_bd (fd_u1 h0), ho]
theorem fd_0 {op n : Nat} {i : Instr} (hf : Decoder.instr pc = (Reader.u1 >>= f)) (hl : ∀ j, l[j]? = code.data.toList[pc + j]?) (hop : f op = Pure.pure i) (h : ck0 op n l = true) : decode code pc = .ok (i, n) := by
  match l, hl, h with
  | b :: _, hl, h =>
    have h : (Nat.beq n 1 && Nat.beq b.toNat op) = true := h
    rw [Bool.and_eq_true] at h
    have hn := Nat.eq_of_beq_eq_true h.1
    subst hn
    refine fd_dc ((fd_ins hf ((hl 0).symm.trans rfl) (Nat.eq_of_beq_eq_true h.2)).trans ?_)
    rw [hop]
    rfl
theorem fd_U {op k n : Nat} {g : Nat → Instr} (hf : Decoder.instr pc = (Reader.u1 >>= f)) (hl : ∀ j, l[j]? = code.data.toList[pc + j]?) (hop : f op = (Reader.u1 >>= fun v => Pure.pure (g v))) (h : ckU op k n l = true) : decode code pc = .ok (g k, n) := by
  match l, hl, h with
  | b :: c :: _, hl, h =>
    have h : (Nat.beq n 2 && (Nat.beq b.toNat op && Nat.beq c.toNat k)) = true := h
    simp only [Bool.and_eq_true] at h
    have hn := Nat.eq_of_beq_eq_true h.1
    subst hn
    refine fd_dc ((fd_ins hf ((hl 0).symm.trans rfl) (Nat.eq_of_beq_eq_true h.2.1)).trans ?_)
    rw [hop, fd_bd (fd_u1 ((hl 1).symm.trans rfl)), Nat.eq_of_beq_eq_true h.2.2]
    rfl
theorem fd_W {op k n : Nat} {g : Nat → Instr} (hf : Decoder.instr pc = (Reader.u1 >>= f)) (hl : ∀ j, l[j]? = code.data.toList[pc + j]?) (hop : f op = (Reader.u2 >>= fun v => Pure.pure (g v))) (h : ckW op k n l = true) : decode code pc = .ok (g k, n) := by
  match l, hl, h with
  | b :: c :: d :: _, hl, h =>
    have h : (Nat.beq n 3 && (Nat.beq b.toNat op && Nat.beq (c.toNat * 256 + d.toNat) k)) = true := h
    simp only [Bool.and_eq_true] at h
    have hn := Nat.eq_of_beq_eq_true h.1
    subst hn
    refine fd_dc ((fd_ins hf ((hl 0).symm.trans rfl) (Nat.eq_of_beq_eq_true h.2.1)).trans ?_)
    rw [hop, fd_bd (fd_u2 (b := c) (c := d) ((hl 1).symm.trans rfl) ((hl 2).symm.trans rfl)), Nat.eq_of_beq_eq_true h.2.2]
    rfl
theorem fd_B {op n : Nat} {v : Int} {g : Int → Instr} (hf : Decoder.instr pc = (Reader.u1 >>= f)) (hl : ∀ j, l[j]? = code.data.toList[pc + j]?) (hop : f op = (Reader.s1 >>= fun v => Pure.pure (g v))) (h : ckB op v n l = true) : decode code pc = .ok (g v, n) := by
  match l, hl, h with
  | b :: c :: _, hl, h =>
    have h : (Nat.beq n 2 && (Nat.beq b.toNat op && decide (Reader.signed 8 c.toNat = v))) = true := h
    simp only [Bool.and_eq_true, decide_eq_true_eq] at h
    have hn := Nat.eq_of_beq_eq_true h.1
    subst hn
    refine fd_dc ((fd_ins hf ((hl 0).symm.trans rfl) (Nat.eq_of_beq_eq_true h.2.1)).trans ?_)
    rw [hop, fd_bd (fd_s1 (b := c) ((hl 1).symm.trans rfl)), h.2.2]
    rfl
theorem fd_S {op n : Nat} {v : Int} {g : Int → Instr} (hf : Decoder.instr pc = (Reader.u1 >>= f)) (hl : ∀ j, l[j]? = code.data.toList[pc + j]?) (hop : f op = (Reader.s2 >>= fun v => Pure.pure (g v))) (h : ckS op v n l = true) : decode code pc = .ok (g v, n) := by
  match l, hl, h with
  | b :: c :: d :: _, hl, h =>
    have h : (Nat.beq n 3 && (Nat.beq b.toNat op && decide (Reader.signed 16 (c.toNat * 256 + d.toNat) = v))) = true := h
    simp only [Bool.and_eq_true, decide_eq_true_eq] at h
    have hn := Nat.eq_of_beq_eq_true h.1
    subst hn
    refine fd_dc ((fd_ins hf ((hl 0).symm.trans rfl) (Nat.eq_of_beq_eq_true h.2.1)).trans ?_)
    rw [hop, fd_bd (fd_s2 (b := c) (c := d) ((hl 1).symm.trans rfl) ((hl 2).symm.trans rfl)), h.2.2]
    rfl
theorem fd_N {op k n : Nat} {v : Int} {g : Nat → Int → Instr} (hf : Decoder.instr pc = (Reader.u1 >>= f)) (hl : ∀ j, l[j]? = code.data.toList[pc + j]?) (hop : f op = (Reader.u1 >>= fun a => Reader.s1 >>= fun v => Pure.pure (g a v))) (h : ckN op k v n l = true) : decode code pc = .ok (g k v, n) := by
  match l, hl, h with
  | b :: c :: d :: _, hl, h =>
    have h : (Nat.beq n 3 && (Nat.beq b.toNat op && (Nat.beq c.toNat k && decide (Reader.signed 8 d.toNat = v)))) = true := h
    simp only [Bool.and_eq_true, decide_eq_true_eq] at h
    have hn := Nat.eq_of_beq_eq_true h.1
    subst hn
    refine fd_dc ((fd_ins hf ((hl 0).symm.trans rfl) (Nat.eq_of_beq_eq_true h.2.1)).trans ?_)
    rw [hop, fd_bd (fd_u1 (b := c) ((hl 1).symm.trans rfl)), fd_bd (fd_s1 (b := d) ((hl 2).symm.trans rfl)), Nat.eq_of_beq_eq_true h.2.2.1, h.2.2.2]
    rfl
end FD
def ckI (i : Instr) (n : Nat) (l : List UInt8) : Bool := match i with
  | .iconst v => match v with
    | .negSucc 0 => ck0 2 n l
    | .ofNat 0 => ck0 3 n l
    | .ofNat 1 => ck0 4 n l
    | .ofNat 2 => ck0 5 n l
    | .ofNat 3 => ck0 6 n l
    | .ofNat 4 => ck0 7 n l
    | .ofNat 5 => ck0 8 n l
    | _ => false
  | .aload_n j => ck0 (42 + j.val) n l
  | .iload_n j => ck0 (26 + j.val) n l
  | .iload v => ckU 21 v n l
  | .invokevirtual v => ckW 182 v n l
  | .ifCond c v => match c with
    | .eq => ckS 153 v n l
    | .ne => ckS 154 v n l
    | .lt => ckS 155 v n l
    | .ge => ckS 156 v n l
    | .gt => ckS 157 v n l
    | .le => ckS 158 v n l
  | .goto v => ckS 167 v n l
  | .invokestatic v => ckW 184 v n l
  | .ireturn => ck0 172 n l
  | .iaload => ck0 46 n l
  | .iadd => ck0 96 n l
  | .lload v => ckU 22 v n l
  | .lload_n j => ck0 (30 + j.val) n l
  | .lstore v => ckU 55 v n l
  | .i2l => ck0 133 n l
  | .istore v => ckU 54 v n l
  | .getfield v => ckW 180 v n l
  | .lcmp => ck0 148 n l
  | .lconst j => ck0 (9 + j.val) n l
  | .if_icmp c v => match c with
    | .eq => ckS 159 v n l
    | .ne => ckS 160 v n l
    | .lt => ckS 161 v n l
    | .ge => ckS 162 v n l
    | .gt => ckS 163 v n l
    | .le => ckS 164 v n l
  | .putfield v => ckW 181 v n l
  | .lmul => ck0 105 n l
  | .astore v => ckU 58 v n l
  | .bipush v => ckB 16 v n l
  | .istore_n j => ck0 (59 + j.val) n l
  | .iinc k v => ckN 132 k v n l
  | .ldc2_w v => ckW 20 v n l
  | .ladd => ck0 97 n l
  | .areturn => ck0 176 n l
  | .dup => ck0 89 n l
  | .invokespecial v => ckW 183 v n l
  | .lreturn => ck0 173 n l
  | .aload v => ckU 25 v n l
  | .laload => ck0 47 n l
  | .lstore_n j => ck0 (63 + j.val) n l
  | .pop => ck0 87 n l
  | .ldc v => ckU 18 v n l
  | .new v => ckW 187 v n l
  | .lsub => ck0 101 n l
  | .return_ => ck0 177 n l
  | .ldiv => ck0 109 n l
  | .l2i => ck0 136 n l
  | .lshr => ck0 123 n l
  | .aaload => ck0 50 n l
  | .getstatic v => ckW 178 v n l
  | .bastore => ck0 84 n l
  | .land => ck0 127 n l
  | .astore_n j => ck0 (75 + j.val) n l
  | .baload => ck0 51 n l
  | .arraylength => ck0 190 n l
  | .iastore => ck0 79 n l
  | .isub => ck0 100 n l
  | .lneg => ck0 117 n l
  | .lxor => ck0 131 n l
  | .lrem => ck0 113 n l
  | .athrow => ck0 191 n l
  | .ineg => ck0 116 n l
  | .ishr => ck0 122 n l
  | .imul => ck0 104 n l
  | .ishl => ck0 120 n l
  | .lushr => ck0 125 n l
  | .lastore => ck0 80 n l
  | .sipush v => ckS 17 v n l
  | .irem => ck0 112 n l
  | .idiv => ck0 108 n l
  | .dup_x1 => ck0 90 n l
  | .iand => ck0 126 n l
  | .lor => ck0 129 n l
  | .checkcast v => ckW 192 v n l
  | .pop2 => ck0 88 n l
  | .i2c => ck0 146 n l
  | .lshl => ck0 121 n l
  | .ifnonnull v => ckS 199 v n l
  | .ifnull v => ckS 198 v n l
  | .i2b => ck0 145 n l
  | .aconst_null => ck0 1 n l
  | .ldc_w v => ckW 19 v n l
  | .ixor => ck0 130 n l
  | .ior => ck0 128 n l
  | .i2s => ck0 147 n l
  | .iushr => ck0 124 n l
  | .dup2 => ck0 92 n l
  | .dup_x2 => ck0 91 n l
  | .swap => ck0 95 n l
  | .castore => ck0 85 n l
  | .caload => ck0 52 n l
  | .instanceof v => ckW 193 v n l
  | _ => false
theorem fd_ex (pc : Nat) : ∃ f : Nat → Jvm.Free.DS.Rd Instr, Decoder.instr pc = (Reader.u1 >>= f) ∧ f 2 = Pure.pure (.iconst (-1)) ∧ f 3 = Pure.pure (.iconst 0) ∧ f 4 = Pure.pure (.iconst 1) ∧ f 5 = Pure.pure (.iconst 2) ∧ f 6 = Pure.pure (.iconst 3) ∧ f 7 = Pure.pure (.iconst 4) ∧ f 8 = Pure.pure (.iconst 5) ∧ f 42 = Pure.pure (.aload_n 0) ∧ f 43 = Pure.pure (.aload_n 1) ∧ f 44 = Pure.pure (.aload_n 2) ∧ f 45 = Pure.pure (.aload_n 3) ∧ f 26 = Pure.pure (.iload_n 0) ∧ f 27 = Pure.pure (.iload_n 1) ∧ f 28 = Pure.pure (.iload_n 2) ∧ f 29 = Pure.pure (.iload_n 3) ∧ f 21 = (Reader.u1 >>= fun v => Pure.pure (.iload v)) ∧ f 182 = (Reader.u2 >>= fun v => Pure.pure (.invokevirtual v)) ∧ f 153 = (Reader.s2 >>= fun v => Pure.pure (.ifCond .eq v)) ∧ f 154 = (Reader.s2 >>= fun v => Pure.pure (.ifCond .ne v)) ∧ f 155 = (Reader.s2 >>= fun v => Pure.pure (.ifCond .lt v)) ∧ f 156 = (Reader.s2 >>= fun v => Pure.pure (.ifCond .ge v)) ∧ f 157 = (Reader.s2 >>= fun v => Pure.pure (.ifCond .gt v)) ∧ f 158 = (Reader.s2 >>= fun v => Pure.pure (.ifCond .le v)) ∧ f 167 = (Reader.s2 >>= fun v => Pure.pure (.goto v)) ∧ f 184 = (Reader.u2 >>= fun v => Pure.pure (.invokestatic v)) ∧ f 172 = Pure.pure (.ireturn) ∧ f 46 = Pure.pure (.iaload) ∧ f 96 = Pure.pure (.iadd) ∧ f 22 = (Reader.u1 >>= fun v => Pure.pure (.lload v)) ∧ f 30 = Pure.pure (.lload_n 0) ∧ f 31 = Pure.pure (.lload_n 1) ∧ f 32 = Pure.pure (.lload_n 2) ∧ f 33 = Pure.pure (.lload_n 3) ∧ f 55 = (Reader.u1 >>= fun v => Pure.pure (.lstore v)) ∧ f 133 = Pure.pure (.i2l) ∧ f 54 = (Reader.u1 >>= fun v => Pure.pure (.istore v)) ∧ f 180 = (Reader.u2 >>= fun v => Pure.pure (.getfield v)) ∧ f 148 = Pure.pure (.lcmp) ∧ f 9 = Pure.pure (.lconst 0) ∧ f 10 = Pure.pure (.lconst 1) ∧ f 159 = (Reader.s2 >>= fun v => Pure.pure (.if_icmp .eq v)) ∧ f 160 = (Reader.s2 >>= fun v => Pure.pure (.if_icmp .ne v)) ∧ f 161 = (Reader.s2 >>= fun v => Pure.pure (.if_icmp .lt v)) ∧ f 162 = (Reader.s2 >>= fun v => Pure.pure (.if_icmp .ge v)) ∧ f 163 = (Reader.s2 >>= fun v => Pure.pure (.if_icmp .gt v)) ∧ f 164 = (Reader.s2 >>= fun v => Pure.pure (.if_icmp .le v)) ∧ f 181 = (Reader.u2 >>= fun v => Pure.pure (.putfield v)) ∧ f 105 = Pure.pure (.lmul) ∧ f 58 = (Reader.u1 >>= fun v => Pure.pure (.astore v)) ∧ f 16 = (Reader.s1 >>= fun v => Pure.pure (.bipush v)) ∧ f 59 = Pure.pure (.istore_n 0) ∧ f 60 = Pure.pure (.istore_n 1) ∧ f 61 = Pure.pure (.istore_n 2) ∧ f 62 = Pure.pure (.istore_n 3) ∧ f 132 = (Reader.u1 >>= fun a => Reader.s1 >>= fun v => Pure.pure (.iinc a v)) ∧ f 20 = (Reader.u2 >>= fun v => Pure.pure (.ldc2_w v)) ∧ f 97 = Pure.pure (.ladd) ∧ f 176 = Pure.pure (.areturn) ∧ f 89 = Pure.pure (.dup) ∧ f 183 = (Reader.u2 >>= fun v => Pure.pure (.invokespecial v)) ∧ f 173 = Pure.pure (.lreturn) ∧ f 25 = (Reader.u1 >>= fun v => Pure.pure (.aload v)) ∧ f 47 = Pure.pure (.laload) ∧ f 63 = Pure.pure (.lstore_n 0) ∧ f 64 = Pure.pure (.lstore_n 1) ∧ f 65 = Pure.pure (.lstore_n 2) ∧ f 66 = Pure.pure (.lstore_n 3) ∧ f 87 = Pure.pure (.pop) ∧ f 18 = (Reader.u1 >>= fun v => Pure.pure (.ldc v)) ∧ f 187 = (Reader.u2 >>= fun v => Pure.pure (.new v)) ∧ f 101 = Pure.pure (.lsub) ∧ f 177 = Pure.pure (.return_) ∧ f 109 = Pure.pure (.ldiv) ∧ f 136 = Pure.pure (.l2i) ∧ f 123 = Pure.pure (.lshr) ∧ f 50 = Pure.pure (.aaload) ∧ f 178 = (Reader.u2 >>= fun v => Pure.pure (.getstatic v)) ∧ f 84 = Pure.pure (.bastore) ∧ f 127 = Pure.pure (.land) ∧ f 75 = Pure.pure (.astore_n 0) ∧ f 76 = Pure.pure (.astore_n 1) ∧ f 77 = Pure.pure (.astore_n 2) ∧ f 78 = Pure.pure (.astore_n 3) ∧ f 51 = Pure.pure (.baload) ∧ f 190 = Pure.pure (.arraylength) ∧ f 79 = Pure.pure (.iastore) ∧ f 100 = Pure.pure (.isub) ∧ f 117 = Pure.pure (.lneg) ∧ f 131 = Pure.pure (.lxor) ∧ f 113 = Pure.pure (.lrem) ∧ f 191 = Pure.pure (.athrow) ∧ f 116 = Pure.pure (.ineg) ∧ f 122 = Pure.pure (.ishr) ∧ f 104 = Pure.pure (.imul) ∧ f 120 = Pure.pure (.ishl) ∧ f 125 = Pure.pure (.lushr) ∧ f 80 = Pure.pure (.lastore) ∧ f 17 = (Reader.s2 >>= fun v => Pure.pure (.sipush v)) ∧ f 112 = Pure.pure (.irem) ∧ f 108 = Pure.pure (.idiv) ∧ f 90 = Pure.pure (.dup_x1) ∧ f 126 = Pure.pure (.iand) ∧ f 129 = Pure.pure (.lor) ∧ f 192 = (Reader.u2 >>= fun v => Pure.pure (.checkcast v)) ∧ f 88 = Pure.pure (.pop2) ∧ f 146 = Pure.pure (.i2c) ∧ f 121 = Pure.pure (.lshl) ∧ f 199 = (Reader.s2 >>= fun v => Pure.pure (.ifnonnull v)) ∧ f 198 = (Reader.s2 >>= fun v => Pure.pure (.ifnull v)) ∧ f 145 = Pure.pure (.i2b) ∧ f 1 = Pure.pure (.aconst_null) ∧ f 19 = (Reader.u2 >>= fun v => Pure.pure (.ldc_w v)) ∧ f 130 = Pure.pure (.ixor) ∧ f 128 = Pure.pure (.ior) ∧ f 147 = Pure.pure (.i2s) ∧ f 124 = Pure.pure (.iushr) ∧ f 92 = Pure.pure (.dup2) ∧ f 91 = Pure.pure (.dup_x2) ∧ f 95 = Pure.pure (.swap) ∧ f 85 = Pure.pure (.castore) ∧ f 52 = Pure.pure (.caload) ∧ f 193 = (Reader.u2 >>= fun v => Pure.pure (.instanceof v)) := ⟨_, rfl, rfl, rfl, rfl, rfl, rfl, rfl, rfl, rfl, rfl, rfl, rfl, rfl, rfl, rfl, rfl, rfl, rfl, rfl, rfl, rfl, rfl, rfl, rfl, rfl, rfl, rfl, rfl, rfl, rfl, rfl, rfl, rfl, rfl, rfl, rfl, rfl, rfl, rfl, rfl, rfl, rfl, rfl, rfl, rfl, rfl, rfl, rfl, rfl, rfl, rfl, rfl, rfl, rfl, rfl, rfl, rfl, rfl, rfl, rfl, rfl, rfl, rfl, rfl, rfl, rfl, rfl, rfl, rfl, rfl, rfl, rfl, rfl, rfl, rfl, rfl, rfl, rfl, rfl, rfl, rfl, rfl, rfl, rfl, rfl, rfl, rfl, rfl, rfl, rfl, rfl, rfl, rfl, rfl, rfl, rfl, rfl, rfl, rfl, rfl, rfl, rfl, rfl, rfl, rfl, rfl, rfl, rfl, rfl, rfl, rfl, rfl, rfl, rfl, rfl, rfl, rfl, rfl, rfl, rfl, rfl, rfl, rfl⟩
theorem ckI_ok {code : ByteArray} {pc n : Nat} {l : List UInt8} (hl : ∀ j, l[j]? = code.data.toList[pc + j]?) (i : Instr) (h : ckI i n l = true) : decode code pc = .ok (i, n) := by
  obtain ⟨f, hf, q2, q3, q4, q5, q6, q7, q8, q42, q43, q44, q45, q26, q27, q28, q29, q21, q182, q153, q154, q155, q156, q157, q158, q167, q184, q172, q46, q96, q22, q30, q31, q32, q33, q55, q133, q54, q180, q148, q9, q10, q159, q160, q161, q162, q163, q164, q181, q105, q58, q16, q59, q60, q61, q62, q132, q20, q97, q176, q89, q183, q173, q25, q47, q63, q64, q65, q66, q87, q18, q187, q101, q177, q109, q136, q123, q50, q178, q84, q127, q75, q76, q77, q78, q51, q190, q79, q100, q117, q131, q113, q191, q116, q122, q104, q120, q125, q80, q17, q112, q108, q90, q126, q129, q192, q88, q146, q121, q199, q198, q145, q1, q19, q130, q128, q147, q124, q92, q91, q95, q85, q52, q193⟩ := fd_ex pc
  cases i
  case iconst =>
    rename_i v
    match v, h with
    | .negSucc 0, h => exact fd_0 hf hl q2 h
    | .ofNat 0, h => exact fd_0 hf hl q3 h
    | .ofNat 1, h => exact fd_0 hf hl q4 h
    | .ofNat 2, h => exact fd_0 hf hl q5 h
    | .ofNat 3, h => exact fd_0 hf hl q6 h
    | .ofNat 4, h => exact fd_0 hf hl q7 h
    | .ofNat 5, h => exact fd_0 hf hl q8 h
    | .ofNat (_ + 6), h => exact Bool.noConfusion (show false = true from h)
    | .negSucc (_ + 1), h => exact Bool.noConfusion (show false = true from h)
  case aload_n =>
    rename_i j
    match j, h with
    | ⟨0, _⟩, h => exact fd_0 hf hl q42 h
    | ⟨1, _⟩, h => exact fd_0 hf hl q43 h
    | ⟨2, _⟩, h => exact fd_0 hf hl q44 h
    | ⟨3, _⟩, h => exact fd_0 hf hl q45 h
  case iload_n =>
    rename_i j
    match j, h with
    | ⟨0, _⟩, h => exact fd_0 hf hl q26 h
    | ⟨1, _⟩, h => exact fd_0 hf hl q27 h
    | ⟨2, _⟩, h => exact fd_0 hf hl q28 h
    | ⟨3, _⟩, h => exact fd_0 hf hl q29 h
  case iload => exact fd_U (g := fun v => .iload v) hf hl q21 h
  case invokevirtual => exact fd_W (g := fun v => .invokevirtual v) hf hl q182 h
  case ifCond =>
    rename_i c v
    match c, h with
    | .eq, h => exact fd_S (g := fun v => .ifCond .eq v) hf hl q153 h
    | .ne, h => exact fd_S (g := fun v => .ifCond .ne v) hf hl q154 h
    | .lt, h => exact fd_S (g := fun v => .ifCond .lt v) hf hl q155 h
    | .ge, h => exact fd_S (g := fun v => .ifCond .ge v) hf hl q156 h
    | .gt, h => exact fd_S (g := fun v => .ifCond .gt v) hf hl q157 h
    | .le, h => exact fd_S (g := fun v => .ifCond .le v) hf hl q158 h
  case goto => exact fd_S (g := fun v => .goto v) hf hl q167 h
  case invokestatic => exact fd_W (g := fun v => .invokestatic v) hf hl q184 h
  case ireturn => exact fd_0 hf hl q172 h
  case iaload => exact fd_0 hf hl q46 h
  case iadd => exact fd_0 hf hl q96 h
  case lload => exact fd_U (g := fun v => .lload v) hf hl q22 h
  case lload_n =>
    rename_i j
    match j, h with
    | ⟨0, _⟩, h => exact fd_0 hf hl q30 h
    | ⟨1, _⟩, h => exact fd_0 hf hl q31 h
    | ⟨2, _⟩, h => exact fd_0 hf hl q32 h
    | ⟨3, _⟩, h => exact fd_0 hf hl q33 h
  case lstore => exact fd_U (g := fun v => .lstore v) hf hl q55 h
  case i2l => exact fd_0 hf hl q133 h
  case istore => exact fd_U (g := fun v => .istore v) hf hl q54 h
  case getfield => exact fd_W (g := fun v => .getfield v) hf hl q180 h
  case lcmp => exact fd_0 hf hl q148 h
  case lconst =>
    rename_i j
    match j, h with
    | ⟨0, _⟩, h => exact fd_0 hf hl q9 h
    | ⟨1, _⟩, h => exact fd_0 hf hl q10 h
  case if_icmp =>
    rename_i c v
    match c, h with
    | .eq, h => exact fd_S (g := fun v => .if_icmp .eq v) hf hl q159 h
    | .ne, h => exact fd_S (g := fun v => .if_icmp .ne v) hf hl q160 h
    | .lt, h => exact fd_S (g := fun v => .if_icmp .lt v) hf hl q161 h
    | .ge, h => exact fd_S (g := fun v => .if_icmp .ge v) hf hl q162 h
    | .gt, h => exact fd_S (g := fun v => .if_icmp .gt v) hf hl q163 h
    | .le, h => exact fd_S (g := fun v => .if_icmp .le v) hf hl q164 h
  case putfield => exact fd_W (g := fun v => .putfield v) hf hl q181 h
  case lmul => exact fd_0 hf hl q105 h
  case astore => exact fd_U (g := fun v => .astore v) hf hl q58 h
  case bipush => exact fd_B (g := fun v => .bipush v) hf hl q16 h
  case istore_n =>
    rename_i j
    match j, h with
    | ⟨0, _⟩, h => exact fd_0 hf hl q59 h
    | ⟨1, _⟩, h => exact fd_0 hf hl q60 h
    | ⟨2, _⟩, h => exact fd_0 hf hl q61 h
    | ⟨3, _⟩, h => exact fd_0 hf hl q62 h
  case iinc => exact fd_N (g := fun a v => .iinc a v) hf hl q132 h
  case ldc2_w => exact fd_W (g := fun v => .ldc2_w v) hf hl q20 h
  case ladd => exact fd_0 hf hl q97 h
  case areturn => exact fd_0 hf hl q176 h
  case dup => exact fd_0 hf hl q89 h
  case invokespecial => exact fd_W (g := fun v => .invokespecial v) hf hl q183 h
  case lreturn => exact fd_0 hf hl q173 h
  case aload => exact fd_U (g := fun v => .aload v) hf hl q25 h
  case laload => exact fd_0 hf hl q47 h
  case lstore_n =>
    rename_i j
    match j, h with
    | ⟨0, _⟩, h => exact fd_0 hf hl q63 h
    | ⟨1, _⟩, h => exact fd_0 hf hl q64 h
    | ⟨2, _⟩, h => exact fd_0 hf hl q65 h
    | ⟨3, _⟩, h => exact fd_0 hf hl q66 h
  case pop => exact fd_0 hf hl q87 h
  case ldc => exact fd_U (g := fun v => .ldc v) hf hl q18 h
  case new => exact fd_W (g := fun v => .new v) hf hl q187 h
  case lsub => exact fd_0 hf hl q101 h
  case return_ => exact fd_0 hf hl q177 h
  case ldiv => exact fd_0 hf hl q109 h
  case l2i => exact fd_0 hf hl q136 h
  case lshr => exact fd_0 hf hl q123 h
  case aaload => exact fd_0 hf hl q50 h
  case getstatic => exact fd_W (g := fun v => .getstatic v) hf hl q178 h
  case bastore => exact fd_0 hf hl q84 h
  case land => exact fd_0 hf hl q127 h
  case astore_n =>
    rename_i j
    match j, h with
    | ⟨0, _⟩, h => exact fd_0 hf hl q75 h
    | ⟨1, _⟩, h => exact fd_0 hf hl q76 h
    | ⟨2, _⟩, h => exact fd_0 hf hl q77 h
    | ⟨3, _⟩, h => exact fd_0 hf hl q78 h
  case baload => exact fd_0 hf hl q51 h
  case arraylength => exact fd_0 hf hl q190 h
  case iastore => exact fd_0 hf hl q79 h
  case isub => exact fd_0 hf hl q100 h
  case lneg => exact fd_0 hf hl q117 h
  case lxor => exact fd_0 hf hl q131 h
  case lrem => exact fd_0 hf hl q113 h
  case athrow => exact fd_0 hf hl q191 h
  case ineg => exact fd_0 hf hl q116 h
  case ishr => exact fd_0 hf hl q122 h
  case imul => exact fd_0 hf hl q104 h
  case ishl => exact fd_0 hf hl q120 h
  case lushr => exact fd_0 hf hl q125 h
  case lastore => exact fd_0 hf hl q80 h
  case sipush => exact fd_S (g := fun v => .sipush v) hf hl q17 h
  case irem => exact fd_0 hf hl q112 h
  case idiv => exact fd_0 hf hl q108 h
  case dup_x1 => exact fd_0 hf hl q90 h
  case iand => exact fd_0 hf hl q126 h
  case lor => exact fd_0 hf hl q129 h
  case checkcast => exact fd_W (g := fun v => .checkcast v) hf hl q192 h
  case pop2 => exact fd_0 hf hl q88 h
  case i2c => exact fd_0 hf hl q146 h
  case lshl => exact fd_0 hf hl q121 h
  case ifnonnull => exact fd_S (g := fun v => .ifnonnull v) hf hl q199 h
  case ifnull => exact fd_S (g := fun v => .ifnull v) hf hl q198 h
  case i2b => exact fd_0 hf hl q145 h
  case aconst_null => exact fd_0 hf hl q1 h
  case ldc_w => exact fd_W (g := fun v => .ldc_w v) hf hl q19 h
  case ixor => exact fd_0 hf hl q130 h
  case ior => exact fd_0 hf hl q128 h
  case i2s => exact fd_0 hf hl q147 h
  case iushr => exact fd_0 hf hl q124 h
  case dup2 => exact fd_0 hf hl q92 h
  case dup_x2 => exact fd_0 hf hl q91 h
  case swap => exact fd_0 hf hl q95 h
  case castore => exact fd_0 hf hl q85 h
  case caload => exact fd_0 hf hl q52 h
  case instanceof => exact fd_W (g := fun v => .instanceof v) hf hl q193 h
  all_goals exact Bool.noConfusion (show false = true from h)
def ckL : List UInt8 → Nat → List (Instr × Nat) → Bool
  | _, _, [] => true
  | l, pc, (i, n) :: t => (ckI i n l || Jvm.Free.DS.chk l pc [(i, n)]) && ckL (l.drop n) (pc + n) t
theorem ckL_sound {code : ByteArray} : ∀ (t : List (Instr × Nat)) (l : List UInt8) (pc : Nat), ckL l pc t = true → (∀ j, l[j]? = code.data.toList[pc + j]?) → (∀ k, k < t.length → ((t.take k).map (·.2)).sum + pc ≤ code.size) → Jvm.Free.DS.Facts code pc t
  | [], _, _, _, _, _ => trivial
  | (i, n) :: t, l, pc, h, hl, hs => by
    have h' : ((ckI i n l || Jvm.Free.DS.chk l pc [(i, n)]) && ckL (l.drop n) (pc + n) t) = true := h
    rw [Bool.and_eq_true, Bool.or_eq_true] at h'
    obtain ⟨h1, h2⟩ := h'
    refine ⟨?_, ckL_sound t _ _ h2 (fun j => ?_) (fun k hk => ?_)⟩
    · rcases h1 with h1 | h1
      · exact ckI_ok hl i h1
      · exact (Jvm.Free.DS.chk_sound [(i, n)] l pc h1 hl (fun k hk => by
          have hk : k < 1 := hk
          have : k = 0 := by omega
          subst this
          have := hs 0 (by simp)
          simpa using this)).1
    · rw [List.getElem?_drop, hl, Nat.add_assoc]
    · have := hs (k + 1) (by simpa using hk)
      simp only [List.take_succ_cons, List.map_cons, List.sum_cons] at this
      omega
theorem ckL_facts {code : ByteArray} (a : Nat) (t : List (Instr × Nat)) (h : ckL (code.data.toList.drop a) a t = true) (hs : a + (t.map (·.2)).sum ≤ code.size) : Jvm.Free.DS.Facts code a t := by
  refine ckL_sound t _ a h (fun j => by rw [List.getElem?_drop]) (fun k hk => ?_)
  have e : ((t.take k).map (·.2)).sum + ((t.drop k).map (·.2)).sum = (t.map (·.2)).sum := by
    rw [← List.sum_append, ← List.map_append, List.take_append_drop]
  omega
