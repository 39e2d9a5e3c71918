section
/-! a name of the whole library, ahead of all: the round is read over the whole of it from the start (the steps of rows of rows need it) -/
theorem wide_on : True := (fun _ => trivial) (@Jvm.Stand.multianewarray2F)
end
section
-- ===== PART A: goes FIRST, ahead of the names: the tables' words, and 'selects' of the private methods out of them =====
/-- a private method of a class that the tables say can be made, by its rows of tables_1 -/
def lw_okq (q : MethodName × Nat) : Prop := (q.1.cls ≠ "java/lang/invoke/MethodHandle" ∧ q.1.cls ≠ "java/lang/invoke/VarHandle") ∧ Cond.instantiable q.1.cls q.2 ∈ tables_1 ∧ Cond.privateMethod q.1 ∈ tables_1 ∧ Cond.instanceMethod q.1 ∈ tables_1
theorem lw_p0 : lw_okq (⟨"Modrings", "areNumbersSound", "(Z)Z"⟩, 6) := ⟨⟨by decide +kernel, by decide +kernel⟩, List.mem_of_getElem? (i := 27) (by decide +kernel), List.mem_of_getElem? (i := 64) (by decide +kernel), List.mem_of_getElem? (i := 65) (by decide +kernel)⟩
theorem lw_p1 : lw_okq (⟨"Modrings", "numberAt", "(ZI)J"⟩, 6) := ⟨⟨by decide +kernel, by decide +kernel⟩, List.mem_of_getElem? (i := 27) (by decide +kernel), List.mem_of_getElem? (i := 68) (by decide +kernel), List.mem_of_getElem? (i := 69) (by decide +kernel)⟩
theorem lw_p2 : lw_okq (⟨"java/lang/Throwable", "fillInStackTrace", "(I)Ljava/lang/Throwable;"⟩, 6) := ⟨⟨by decide +kernel, by decide +kernel⟩, List.mem_of_getElem? (i := 112) (by decide +kernel), List.mem_of_getElem? (i := 110) (by decide +kernel), List.mem_of_getElem? (i := 111) (by decide +kernel)⟩
theorem lw_p3 : lw_okq (⟨"Modrings", "areRingsSound", "()Z"⟩, 6) := ⟨⟨by decide +kernel, by decide +kernel⟩, List.mem_of_getElem? (i := 27) (by decide +kernel), List.mem_of_getElem? (i := 208) (by decide +kernel), List.mem_of_getElem? (i := 209) (by decide +kernel)⟩
theorem lw_p4 : lw_okq (⟨"Modrings", "modulusAt", "(I)I"⟩, 6) := ⟨⟨by decide +kernel, by decide +kernel⟩, List.mem_of_getElem? (i := 27) (by decide +kernel), List.mem_of_getElem? (i := 212) (by decide +kernel), List.mem_of_getElem? (i := 213) (by decide +kernel)⟩
theorem lw_p5 : lw_okq (⟨"Modrings", "residueAt", "(II)I"⟩, 6) := ⟨⟨by decide +kernel, by decide +kernel⟩, List.mem_of_getElem? (i := 27) (by decide +kernel), List.mem_of_getElem? (i := 216) (by decide +kernel), List.mem_of_getElem? (i := 217) (by decide +kernel)⟩
theorem lw_p6 : lw_okq (⟨"Modrings", "areMeetingsSound", "()Z"⟩, 6) := ⟨⟨by decide +kernel, by decide +kernel⟩, List.mem_of_getElem? (i := 27) (by decide +kernel), List.mem_of_getElem? (i := 247) (by decide +kernel), List.mem_of_getElem? (i := 248) (by decide +kernel)⟩
theorem lw_p7 : lw_okq (⟨"Modrings", "countUnits", "()I"⟩, 6) := ⟨⟨by decide +kernel, by decide +kernel⟩, List.mem_of_getElem? (i := 27) (by decide +kernel), List.mem_of_getElem? (i := 293) (by decide +kernel), List.mem_of_getElem? (i := 294) (by decide +kernel)⟩
theorem lw_p8 : lw_okq (⟨"Modrings", "digestNumbers", "(JZ)J"⟩, 6) := ⟨⟨by decide +kernel, by decide +kernel⟩, List.mem_of_getElem? (i := 27) (by decide +kernel), List.mem_of_getElem? (i := 302) (by decide +kernel), List.mem_of_getElem? (i := 303) (by decide +kernel)⟩
theorem lw_p9 : lw_okq (⟨"Modrings", "keep", "(ZIJ)I"⟩, 6) := ⟨⟨by decide +kernel, by decide +kernel⟩, List.mem_of_getElem? (i := 27) (by decide +kernel), List.mem_of_getElem? (i := 346) (by decide +kernel), List.mem_of_getElem? (i := 347) (by decide +kernel)⟩
theorem lw_p10 : lw_okq (⟨"Modrings", "refuse", "()I"⟩, 6) := ⟨⟨by decide +kernel, by decide +kernel⟩, List.mem_of_getElem? (i := 27) (by decide +kernel), List.mem_of_getElem? (i := 372) (by decide +kernel), List.mem_of_getElem? (i := 373) (by decide +kernel)⟩
theorem lw_p11 : lw_okq (⟨"Modrings", "keepExact", "(ZIJJI)I"⟩, 6) := ⟨⟨by decide +kernel, by decide +kernel⟩, List.mem_of_getElem? (i := 27) (by decide +kernel), List.mem_of_getElem? (i := 384) (by decide +kernel), List.mem_of_getElem? (i := 385) (by decide +kernel)⟩
theorem lw_p12 : lw_okq (⟨"Modrings", "keepRound", "(ZIJ)I"⟩, 6) := ⟨⟨by decide +kernel, by decide +kernel⟩, List.mem_of_getElem? (i := 27) (by decide +kernel), List.mem_of_getElem? (i := 433) (by decide +kernel), List.mem_of_getElem? (i := 434) (by decide +kernel)⟩
theorem lw_p13 : lw_okq (⟨"Modrings", "keepFloor", "(ZIJZ)I"⟩, 6) := ⟨⟨by decide +kernel, by decide +kernel⟩, List.mem_of_getElem? (i := 27) (by decide +kernel), List.mem_of_getElem? (i := 461) (by decide +kernel), List.mem_of_getElem? (i := 462) (by decide +kernel)⟩
theorem lw_p14 : lw_okq (⟨"Modrings", "keepResidue", "(IIJ)I"⟩, 6) := ⟨⟨by decide +kernel, by decide +kernel⟩, List.mem_of_getElem? (i := 27) (by decide +kernel), List.mem_of_getElem? (i := 865) (by decide +kernel), List.mem_of_getElem? (i := 866) (by decide +kernel)⟩
theorem lw_p15 : lw_okq (⟨"ModringsModel", "start", "(ZI)Z"⟩, 7) := ⟨⟨by decide +kernel, by decide +kernel⟩, List.mem_of_getElem? (i := 969) (by decide +kernel), List.mem_of_getElem? (i := 1010) (by decide +kernel), List.mem_of_getElem? (i := 1011) (by decide +kernel)⟩
def lw_privs_1 : List (MethodName × Nat) := [(⟨"Modrings", "areNumbersSound", "(Z)Z"⟩, 6), (⟨"Modrings", "numberAt", "(ZI)J"⟩, 6), (⟨"java/lang/Throwable", "fillInStackTrace", "(I)Ljava/lang/Throwable;"⟩, 6), (⟨"Modrings", "areRingsSound", "()Z"⟩, 6), (⟨"Modrings", "modulusAt", "(I)I"⟩, 6), (⟨"Modrings", "residueAt", "(II)I"⟩, 6), (⟨"Modrings", "areMeetingsSound", "()Z"⟩, 6), (⟨"Modrings", "countUnits", "()I"⟩, 6), (⟨"Modrings", "digestNumbers", "(JZ)J"⟩, 6), (⟨"Modrings", "keep", "(ZIJ)I"⟩, 6), (⟨"Modrings", "refuse", "()I"⟩, 6), (⟨"Modrings", "keepExact", "(ZIJJI)I"⟩, 6), (⟨"Modrings", "keepRound", "(ZIJ)I"⟩, 6), (⟨"Modrings", "keepFloor", "(ZIJZ)I"⟩, 6), (⟨"Modrings", "keepResidue", "(IIJ)I"⟩, 6), (⟨"ModringsModel", "start", "(ZI)Z"⟩, 7)]
theorem lw_r1 : ∀ q ∈ lw_privs_1, lw_okq q := List.forall_mem_cons.mpr ⟨lw_p0, List.forall_mem_cons.mpr ⟨lw_p1, List.forall_mem_cons.mpr ⟨lw_p2, List.forall_mem_cons.mpr ⟨lw_p3, List.forall_mem_cons.mpr ⟨lw_p4, List.forall_mem_cons.mpr ⟨lw_p5, List.forall_mem_cons.mpr ⟨lw_p6, List.forall_mem_cons.mpr ⟨lw_p7, List.forall_mem_cons.mpr ⟨lw_p8, List.forall_mem_cons.mpr ⟨lw_p9, List.forall_mem_cons.mpr ⟨lw_p10, List.forall_mem_cons.mpr ⟨lw_p11, List.forall_mem_cons.mpr ⟨lw_p12, List.forall_mem_cons.mpr ⟨lw_p13, List.forall_mem_cons.mpr ⟨lw_p14, List.forall_mem_cons.mpr ⟨lw_p15, fun _ h => absurd h List.not_mem_nil⟩⟩⟩⟩⟩⟩⟩⟩⟩⟩⟩⟩⟩⟩⟩⟩
theorem lw_p16 : lw_okq (⟨"ModringsModel", "refuse", "(ZI)Z"⟩, 7) := ⟨⟨by decide +kernel, by decide +kernel⟩, List.mem_of_getElem? (i := 969) (by decide +kernel), List.mem_of_getElem? (i := 1014) (by decide +kernel), List.mem_of_getElem? (i := 1015) (by decide +kernel)⟩
theorem lw_p17 : lw_okq (⟨"ModringsModel", "become", "(ZIJ)I"⟩, 7) := ⟨⟨by decide +kernel, by decide +kernel⟩, List.mem_of_getElem? (i := 969) (by decide +kernel), List.mem_of_getElem? (i := 1019) (by decide +kernel), List.mem_of_getElem? (i := 1020) (by decide +kernel)⟩
theorem lw_p18 : lw_okq (⟨"ModringsModel", "now", "(ZI)J"⟩, 7) := ⟨⟨by decide +kernel, by decide +kernel⟩, List.mem_of_getElem? (i := 969) (by decide +kernel), List.mem_of_getElem? (i := 1023) (by decide +kernel), List.mem_of_getElem? (i := 1024) (by decide +kernel)⟩
theorem lw_p19 : lw_okq (⟨"ModringsModel", "no", "()I"⟩, 7) := ⟨⟨by decide +kernel, by decide +kernel⟩, List.mem_of_getElem? (i := 969) (by decide +kernel), List.mem_of_getElem? (i := 1042) (by decide +kernel), List.mem_of_getElem? (i := 1043) (by decide +kernel)⟩
theorem lw_p20 : lw_okq (⟨"ModringsModel", "ofNow", "(ZII)I"⟩, 7) := ⟨⟨by decide +kernel, by decide +kernel⟩, List.mem_of_getElem? (i := 969) (by decide +kernel), List.mem_of_getElem? (i := 1179) (by decide +kernel), List.mem_of_getElem? (i := 1180) (by decide +kernel)⟩
theorem lw_p21 : lw_okq (⟨"ModringsModel", "come", "(IIJ)I"⟩, 7) := ⟨⟨by decide +kernel, by decide +kernel⟩, List.mem_of_getElem? (i := 969) (by decide +kernel), List.mem_of_getElem? (i := 1202) (by decide +kernel), List.mem_of_getElem? (i := 1203) (by decide +kernel)⟩
theorem lw_p22 : lw_okq (⟨"ModringsModel", "isUnitNow", "(II)Z"⟩, 7) := ⟨⟨by decide +kernel, by decide +kernel⟩, List.mem_of_getElem? (i := 969) (by decide +kernel), List.mem_of_getElem? (i := 1230) (by decide +kernel), List.mem_of_getElem? (i := 1231) (by decide +kernel)⟩
theorem lw_p23 : lw_okq (⟨"ModringsModel", "houseNow", "(I)I"⟩, 7) := ⟨⟨by decide +kernel, by decide +kernel⟩, List.mem_of_getElem? (i := 969) (by decide +kernel), List.mem_of_getElem? (i := 1272) (by decide +kernel), List.mem_of_getElem? (i := 1273) (by decide +kernel)⟩
def lw_privs_2 : List (MethodName × Nat) := [(⟨"ModringsModel", "refuse", "(ZI)Z"⟩, 7), (⟨"ModringsModel", "become", "(ZIJ)I"⟩, 7), (⟨"ModringsModel", "now", "(ZI)J"⟩, 7), (⟨"ModringsModel", "no", "()I"⟩, 7), (⟨"ModringsModel", "ofNow", "(ZII)I"⟩, 7), (⟨"ModringsModel", "come", "(IIJ)I"⟩, 7), (⟨"ModringsModel", "isUnitNow", "(II)Z"⟩, 7), (⟨"ModringsModel", "houseNow", "(I)I"⟩, 7)]
theorem lw_r2 : ∀ q ∈ lw_privs_2, lw_okq q := List.forall_mem_cons.mpr ⟨lw_p16, List.forall_mem_cons.mpr ⟨lw_p17, List.forall_mem_cons.mpr ⟨lw_p18, List.forall_mem_cons.mpr ⟨lw_p19, List.forall_mem_cons.mpr ⟨lw_p20, List.forall_mem_cons.mpr ⟨lw_p21, List.forall_mem_cons.mpr ⟨lw_p22, List.forall_mem_cons.mpr ⟨lw_p23, fun _ h => absurd h List.not_mem_nil⟩⟩⟩⟩⟩⟩⟩⟩
def lw_privs : List (MethodName × Nat) := lw_privs_1 ++ (lw_privs_2)
def lw_tbl : List Cond := k2_sels lw_privs ++ tables_1
theorem lw_privs_ok : ∀ q ∈ lw_privs, lw_okq q := by
  show ∀ q ∈ lw_privs_1 ++ (lw_privs_2), lw_okq q
  exact List.forall_mem_append.mpr ⟨lw_r1, lw_r2⟩
end
section
/-! ===== BEGIN words of one list among another's, by their places ===== -/
theorem goodIn_r {big : List Cond} (ws : List Cond) (ps : List Nat) (hp : ws = ps.filterMap (fun i => big[i]?)) (h : ws.all goodWord = true) : GoodIn big ws := by
  intro w hw
  have h1 := List.all_eq_true.mp h w hw
  rw [hp] at hw
  obtain ⟨i, -, hi⟩ := List.mem_filterMap.mp hw
  have hm : w ∈ big := by first | exact List.mem_of_getElem? hi | exact List.getElem?_mem hi
  exact ⟨hm, good_of_word h1⟩
theorem goodIn_app {big a b : List Cond} (ha : GoodIn big a) (hb : GoodIn big b) : GoodIn big (a ++ b) := fun w h => (List.mem_append.mp h).elim (ha w) (hb w)
theorem goodIn_ca {big a b : List Cond} {c : Cond} (ha : GoodIn big (c :: a)) (hb : GoodIn big b) : GoodIn big (c :: (a ++ b)) := fun w h => (List.mem_cons.mp h).elim (fun e => ha w (List.mem_cons.mpr (Or.inl e))) (fun h => (List.mem_append.mp h).elim (fun h => ha w (List.mem_cons.mpr (Or.inr h))) (hb w))
theorem goodIn_sub {big ws : List Cond} (hm : ∀ w ∈ ws, w ∈ big) (h : ws.all goodWord = true) : GoodIn big ws := fun w hw => ⟨hm w hw, good_of_word (List.all_eq_true.mp h w hw)⟩
/-! ===== END ===== -/
/-! ===== BEGIN exceptions that leave a method, and their catching by the caller (launches without stack traces) ===== -/
section VXA
/-! The laws vx_back, vx_callV, vx_callS, vx_callSW, vx_throw0, vx_throwS follow proofs of the library, with one case more: JvmDerived/Free/Laws.lean (Back.of_free), Shelf42/LK1.lean (callV, callS), Shelf/KitTraced.lean (throwNew0V, throwNewS). -/
/-- where a method has thrown q: the class by its name, the cell, what was written, the world -/
def vx_T (XC : String → State → State → Prop) (st : State) (q : Addr) (t : State) (mc ms : Nat) (free : Addr → Prop) : Prop :=
  ∃ (E : String) (ce : Cell) (L : List Loc), XC E st t ∧ t.heap[q]? = some ce ∧ ce.vm = .none ∧ st.vm.findClass E = some ce.cls ∧ st.WarmedH t.vm ∧ st.sameButNew ({ t with vm := st.vm } : State) L mc ms ∧ ∀ z ∈ L, free z.base
def vx_Q (Qc : Array Value → State → Outcome → State → Prop) (XC : String → State → State → Prop) (mc ms : Nat) (free : Addr → Prop) : Array Value → State → Outcome → State → Prop := fun a st o t =>
  (Qc a st o t ∧ ∃ L, FrameEnd st o t L mc ms ∧ ∀ q ∈ L, free q.base) ∨ ∃ q, o = .threw q ∧ vx_T XC st q t mc ms free
/-- a callee that returns or throws -/
def vx_Met (l : Launch) (y : MethodName) (ws : List Cond) (rm : Room) (Pc : Array Value → State → Prop) (Qc : Array Value → State → Outcome → State → Prop) (XC : String → State → State → Prop) (mc ms : Nat) (free : Addr → Prop) : Prop :=
  MetFree l y (headSpec ws rm) Pc (fun _ _ _ _ _ => True) (vx_Q Qc XC mc ms free)
def vx_Post (XC : String → State → State → Prop) (mc ms : Nat) (free : Addr → Prop) : Pt → Array Value → Addr → Pt → Prop := fun A a q B =>
  ∃ (g : JFrame) (mk : MethodId) (t : State) (L : List Loc) (E : String) (ce : Cell), B.U.heap = t.heap ∧ B.U.vm = t.vm ∧ XC E (A.U.calling g mk a) t ∧ t.heap[q]? = some ce ∧ ce.vm = .none ∧ A.U.vm.findClass E = some ce.cls ∧ B.locs = A.locs ++ L ∧ (∀ z ∈ L, free z.base) ∧ B.cells = A.cells + mc ∧ B.slots = A.slots + ms
def vx_Back (l : Launch) (R : Room) (p : Program) (e : Env) (below : List Frame) (s : State) (sargs : Array Value) (y : MethodName) (len W9 : Nat)
    (Pre : Pt → Array Value → Prop) (Post : Pt → Array Value → Option Value → Pt → Prop) (PostX : Pt → Array Value → Addr → Pt → Prop) : Prop :=
  ∀ (m : MethodId) (meth : Method) (c : Code) (A : Pt) (g : JFrame) (ig : Instr) (mk : MethodId) (a : Array Value),
    Stand p l e R s m sargs below meth c A.U A.locs A.cells A.slots → g.method = m → g.locals.size = c.maxLocals → decode c.code g.pc = .ok (ig, len) →
    2 * g.monitorRoom + (g.stack.map fun v => v.category).sum ≤ W9 → A.U.methodNamed? y = some mk → Pre A a →
    (∃ (v : Option Value) (B : Pt), Stand p l e R s m sargs below meth c B.U B.locs B.cells B.slots ∧ Post A a v B ∧
      Steps p.tables e below (doInvoke e (A.U.setTop g) [] mk a).1 (B.U.setTop { g with pc := g.pc + len, stack := v.toList ++ g.stack })) ∨
    (∃ (q : Addr) (B : Pt), Stand p l e R s m sargs below meth c B.U B.locs B.cells B.slots ∧ PostX A a q B ∧
      Steps p.tables e below (doInvoke e (A.U.setTop g) [] mk a).1 ((B.U.setTop g).pushFrame (.throwing q)))
section Payer
variable {l : Launch} {R : Room} {p : Program} {e : Env} {below : List Frame} {s : State} {sargs : Array Value} {y : MethodName} {len W9 : Nat}
theorem vx_back {ws : List Cond} {rm : Room} {Pc : Array Value → State → Prop} {Qc : Array Value → State → Outcome → State → Prop} {XC : String → State → State → Prop} {mc ms : Nat} {free : Addr → Prop} {bytes : ByteArray} {maxL : Nat} {ret : Option FieldType}
    (hM : vx_Met l y ws rm Pc Qc XC mc ms free) (hblind : FrameBlind Pc) (hrc : rm.cells = mc) (hrs : rm.slots = ms)
    (hframes : rm.frames + 1 ≤ R.frames) (hlocals : W9 + (maxL + 11) + rm.locals ≤ R.locals)
    (hws : ∀ w ∈ ws, ∀ a' U, s.WarmedH U.vm → w.before a' U = true) (hcode : Cond.code y bytes maxL ret ∈ ws) (hinit : ∀ a' U, s.WarmedH U.vm → (Cond.initialized y.cls).before a' U = true) :
    vx_Back l R p e below s sargs y len W9 (PreOf R mc ms Pc) (PostOf Qc mc ms free) (vx_Post XC mc ms free) := by
  intro m meth c A g ig mk a X hg hsize hdg hW hn hp
  have h1 : (headSpec ws rm).pre.before a A.U = true := atoms_intro fun w hw => hws w hw _ _ X.warmed
  have h2 : (Cond.code y bytes maxL ret).before a A.U = true := hws _ hcode _ _ X.warmed
  have h3 : (Cond.initialized y.cls).before a A.U = true := hinit _ _ X.warmed
  have h4 : A.cells + (headSpec ws rm).room.cells ≤ R.cells := by rw [show (headSpec ws rm).room.cells = mc from hrc]; exact hp.1
  have h5 : A.slots + (headSpec ws rm).room.slots ≤ R.slots := by rw [show (headSpec ws rm).room.slots = ms from hrs]; exact hp.2.1
  have hPc : Pc a (A.U.calling g mk a) := hblind _ _ _ _ hp.2.2
  obtain ⟨U, Ls, c0, s0⟩ := A
  dsimp only [Pt.U, Pt.locs, Pt.cells, Pt.slots] at h1 h2 h3 h4 h5 X hn hPc ⊢
  obtain ⟨methY, cY, hmY, hcY, -, hlY, -, -, -, -⟩ := Cond.code_spec hn h2
  obtain ⟨kY, hkY, -⟩ := className_of_methodNamed hn
  have hinitY : kY.init = .initialized := Cond.initialized_spec (findClass_of_methodNamed hn) hkY h3
  have h : At U g.method c below := by rw [hg]; exact X.here
  have hlocals9 : W9 + (maxL + 11) + (headSpec ws rm).room.locals ≤ R.locals := hlocals
  have happ : (headSpec ws rm).appliesLoose y e.platform (U.calling g mk a) = true :=
    Spec.appliesLoose_calling (g := g) h hdg hn hkY hinitY
      (X.room_calling (g := g) (R' := (headSpec ws rm).room) hsize hmY hcY hframes (by rw [hlY]; omega) h4 h5) h1
  obtain ⟨mid, hmid⟩ := h.above
  have hfr : (U.setTop g).frames = (.java g :: mid) ++ below := by rw [State.frames_setTop' g h.top, hmid]; rfl
  obtain ⟨o, s₂, hsteps, -, hend, hq⟩ := Steps.callFree hM p X.admits X.cas X.clock (acts := []) hfr happ hPc trivial
  have hq' : vx_Q Qc XC mc ms free a (U.calling g mk a) o s₂ := hq
  rw [State.frames_setTop' g h.top] at hend
  obtain ⟨g₀, hg0⟩ := Option.isSome_iff_exists.mp h.top
  obtain ⟨r, hr⟩ := State.topJava?_eq_some.mp hg0
  have hr' : (({ U with heap := s₂.heap, slotsUsed := s₂.slotsUsed } : State).setVm s₂.vm).frames = .java g₀ :: r := hr
  rcases hq' with ⟨hqc, L, hfe, hL⟩ | ⟨q, rfl, E, ce, L, hx, hce, hcv, hcl, hW₂, hsm, hL⟩
  · obtain ⟨⟨v, rfl⟩, hW₂, e2, q2, q3, q4, q5, q6⟩ := id hfe
    have e3 : s₂ = ({ (U.calling g mk a).setFrames s₂.frames with heap := s₂.heap, slotsUsed := s₂.slotsUsed } : State).setVm s₂.vm := by
      have : s₂ = ({ s₂ with vm := (U.calling g mk a).vm } : State).setVm s₂.vm := rfl
      rw [e2] at this
      exact this
    obtain ⟨c₂, i₂, len₂, hc₂, hd₂, hf₂⟩ := hend
    have hW' : U.WarmedH s₂.vm := hW₂
    have hcc : c₂ = c := by
      have h1 : s₂.code? g.method = U.code? g.method := by
        rw [State.code?_eq, State.code?_eq, hW'.alike.method?]
      exact Option.some.inj (hc₂.symm.trans (h1.trans h.code))
    subst hcc
    have hlen : len₂ = len := by rw [hdg] at hd₂; cases hd₂; rfl
    subst hlen
    have hs₂ : s₂ = (({ U with heap := s₂.heap, slotsUsed := s₂.slotsUsed } : State).setVm s₂.vm).setTop { g with pc := g.pc + len₂, stack := v.toList ++ g.stack } := by
      refine e3.trans ?_
      rw [hf₂, State.calling_eq h.top, State.setFrames_setFrames, State.setTop_of_frames _ hr', hr]
      rfl
    have hsame : U.sameButNew ({ U with heap := s₂.heap, slotsUsed := s₂.slotsUsed } : State) L mc ms := by
      refine ⟨?_, q2, q3, q4, q5, q6⟩
      obtain ⟨t, ht, -⟩ := State.frames_cons hr
      show ({ U with heap := s₂.heap, slotsUsed := s₂.slotsUsed } : State) = { U.setFrames U.frames with heap := s₂.heap, slotsUsed := s₂.slotsUsed }
      rw [State.setFrames_self ht]
    subst hg
    refine Or.inl ⟨v, ⟨(({ U with heap := s₂.heap, slotsUsed := s₂.slotsUsed } : State).setVm s₂.vm), Ls ++ L, c0 + mc, s0 + ms⟩,
      ⟨X.admits, X.cas, X.clock, X.frames, X.room, X.hears, X.method, X.code, (X.here.setHeapUsed s₂.heap s₂.slotsUsed).setVm hW'.alike, X.tail, State.WarmedH.trans X.warmed hW', X.limits, X.bytes, X.same.trans (hsame.setVm s.vm)⟩,
      ⟨g, mk, s₂, L, rfl, rfl, hqc, rfl, hL, rfl, rfl⟩, ?_⟩
    show Steps p.tables e below _ ((({ U with heap := s₂.heap, slotsUsed := s₂.slotsUsed } : State).setVm s₂.vm).setTop { g with pc := g.pc + len₂, stack := v.toList ++ g.stack })
    rw [← hs₂]
    exact hsteps
  · obtain ⟨e2, q2, q3, q4, q5, q6⟩ := id hsm
    have e3 : s₂ = ({ (U.calling g mk a).setFrames s₂.frames with heap := s₂.heap, slotsUsed := s₂.slotsUsed } : State).setVm s₂.vm := by
      have : s₂ = ({ s₂ with vm := (U.calling g mk a).vm } : State).setVm s₂.vm := rfl
      rw [e2] at this
      exact this
    have hf₂ : s₂.frames = .throwing q :: .java g :: U.frames.tail := hend
    have hW' : U.WarmedH s₂.vm := hW₂
    have hs₂ : s₂ = ((({ U with heap := s₂.heap, slotsUsed := s₂.slotsUsed } : State).setVm s₂.vm).setTop g).pushFrame (.throwing q) := by
      refine e3.trans ?_
      rw [hf₂, State.calling_eq h.top, State.setFrames_setFrames, State.pushFrame, State.frames_setTop _ hr', State.setTop_of_frames _ hr', State.setFrames_setFrames, hr]
      rfl
    have hsame : U.sameButNew ({ U with heap := s₂.heap, slotsUsed := s₂.slotsUsed } : State) L mc ms := by
      refine ⟨?_, q2, q3, q4, q5, q6⟩
      obtain ⟨t, ht, -⟩ := State.frames_cons hr
      show ({ U with heap := s₂.heap, slotsUsed := s₂.slotsUsed } : State) = { U.setFrames U.frames with heap := s₂.heap, slotsUsed := s₂.slotsUsed }
      rw [State.setFrames_self ht]
    subst hg
    refine Or.inr ⟨q, ⟨(({ U with heap := s₂.heap, slotsUsed := s₂.slotsUsed } : State).setVm s₂.vm), Ls ++ L, c0 + mc, s0 + ms⟩,
      ⟨X.admits, X.cas, X.clock, X.frames, X.room, X.hears, X.method, X.code, (X.here.setHeapUsed s₂.heap s₂.slotsUsed).setVm hW'.alike, X.tail, State.WarmedH.trans X.warmed hW', X.limits, X.bytes, X.same.trans (hsame.setVm s.vm)⟩,
      ⟨g, mk, s₂, L, E, ce, rfl, rfl, hx, hce, hcv, hcl, rfl, hL, rfl, rfl⟩, ?_⟩
    show Steps p.tables e below _ (((({ U with heap := s₂.heap, slotsUsed := s₂.slotsUsed } : State).setVm s₂.vm).setTop g).pushFrame (.throwing q))
    rw [← hs₂]
    exact hsteps
end Payer
section Calls
variable {p : Program} {l : Launch} {e : Env} {R : Room} {s : State} {m : MethodId} {args : Array Value} {below : List Frame} {meth : Method} {c : Code} {T : State} {locs : List Loc} {cells slots : Nat}
theorem vx_callV (X : Stand p l e R s m args below meth c T locs cells slots) (hexec : p.tables.exec = Jvm.exec) {own C : String} {index : Nat} {y : MethodName} {bytes : ByteArray} {maxL : Nat} {ret : Option FieldType}
    (hown : s.vm.findClass own = some m.cls) (hlink : (Cond.methodLink own index y).before args s = true) (hinst : (Cond.instanceMethod y).before args s = true) (hsel : (Cond.selects C y y).before args s = true)
    (hcode : (Cond.code y bytes maxL ret).before args s = true) (hy : y.cls ≠ "java/lang/invoke/MethodHandle" ∧ y.cls ≠ "java/lang/invoke/VarHandle")
    {W9 : Nat} {Pre : Pt → Array Value → Prop} {Post : Pt → Array Value → Option Value → Pt → Prop} {PostX : Pt → Array Value → Addr → Pt → Prop} (hK : vx_Back l R p e below s args y 3 W9 Pre Post PostX)
    {b : Addr} {cellB : Cell} (hcell : T.heap[b]? = some cellB) (hobj : cellB.vm.isStatics = false) (hcls : s.vm.findClass C = some cellB.cls)
    {g : JFrame} (hg : g.method = m) (hsize : g.locals.size = c.maxLocals) {argsL rest : List Value} (hlen : ∀ sig, parseMethodDescriptor y.desc = some sig → argsL.length = sig.parameters.length)
    (hstack : g.stack = argsL.reverse ++ .ref b :: rest) (hW : 2 * g.monitorRoom + (rest.map fun v => v.category).sum ≤ W9) (hdg : decode c.code g.pc = .ok (.invokevirtual index, 3))
    (hpre : ∀ vm₁, s.WarmedH vm₁ → Pre ⟨T.setVm vm₁, locs, cells, slots⟩ (Value.ref b :: argsL).toArray) :
    (∃ (v : Option Value) (vm₁ : Vm) (B : Pt), s.WarmedH vm₁ ∧ Stand p l e R s m args below meth c B.U B.locs B.cells B.slots ∧ Post ⟨T.setVm vm₁, locs, cells, slots⟩ (Value.ref b :: argsL).toArray v B ∧
      ∀ target, Steps p.tables e below (B.U.setTop { g with pc := g.pc + 3, stack := v.toList ++ rest }) target → Steps p.tables e below (T.setTop g) target) ∨
    (∃ (q : Addr) (vm₁ : Vm) (B : Pt), s.WarmedH vm₁ ∧ Stand p l e R s m args below meth c B.U B.locs B.cells B.slots ∧ PostX ⟨T.setVm vm₁, locs, cells, slots⟩ (Value.ref b :: argsL).toArray q B ∧
      Steps p.tables e below (T.setTop g) ((B.U.setTop { g with stack := rest }).pushFrame (.throwing q))) := by
  obtain ⟨mk, methM, hnamed, hmethM, hstM, habM⟩ := Cond.instanceMethod_spec hinst
  obtain ⟨methM', cM, hmethM', -, -, -, -, -, -, hsigM⟩ := Cond.code_spec hnamed hcode
  cases hmethM.symm.trans hmethM'
  obtain ⟨c2, r2, m2, q1, q2, q3, q4, kP, hkP, hkPi⟩ := Cond.selects_spec hsel
  cases hcls.symm.trans q1
  cases (State.methodFound?_of_named hnamed hy).symm.trans q2
  cases hnamed.symm.trans q3
  have hselP : selectMethod e.platform s.vm cellB.cls mk = .method mk := by rw [Launch.admits_selectMethod X.admits]; exact q4
  obtain ⟨vm₁, X₁, hstep₁⟩ := X.invokevirtual hexec hown hlink hnamed hmethM hstM hkP hkPi hy (a := b) (cell := cellB) hcell
    (fun z h => by rw [h] at hobj; cases hobj) hselP hmethM habM hkP hkPi (g := g) hg (argsL := argsL) (rest := rest) (hlen _ hsigM) hstack hdg
  rcases hK m meth c ⟨T.setVm vm₁, locs, cells, slots⟩ { g with stack := rest } (.invokevirtual index) mk (Value.ref b :: argsL).toArray X₁ hg hsize hdg hW (X₁.named hnamed) (hpre vm₁ X₁.warmed) with ⟨v, B, X', hpost, hsteps⟩ | ⟨q, B, X', hpost, hsteps⟩
  · exact Or.inl ⟨v, vm₁, B, X₁.warmed, X', hpost, fun target h => hstep₁ _ fun acts => by rw [doInvoke_state]; exact hsteps.trans h⟩
  · exact Or.inr ⟨q, vm₁, B, X₁.warmed, X', hpost, hstep₁ _ fun acts => by rw [doInvoke_state]; exact hsteps⟩
theorem vx_callS (X : Stand p l e R s m args below meth c T locs cells slots) (hexec : p.tables.exec = Jvm.exec) {own : String} {index : Nat} {y : MethodName} {bytes : ByteArray} {maxL : Nat} {ret : Option FieldType}
    (hown : s.vm.findClass own = some m.cls) (hlink : (Cond.methodLink own index y).before args s = true) (hstat : (Cond.static y).before args s = true) (hinit : (Cond.initialized y.cls).before args s = true)
    (hcode : (Cond.code y bytes maxL ret).before args s = true) (hy : y.cls ≠ "java/lang/invoke/MethodHandle" ∧ y.cls ≠ "java/lang/invoke/VarHandle")
    {W9 : Nat} {Pre : Pt → Array Value → Prop} {Post : Pt → Array Value → Option Value → Pt → Prop} {PostX : Pt → Array Value → Addr → Pt → Prop} (hK : vx_Back l R p e below s args y 3 W9 Pre Post PostX)
    {g : JFrame} (hg : g.method = m) (hsize : g.locals.size = c.maxLocals) {argsL rest : List Value} (hlen : ∀ sig, parseMethodDescriptor y.desc = some sig → argsL.length = sig.parameters.length)
    (hstack : g.stack = argsL.reverse ++ rest) (hW : 2 * g.monitorRoom + (rest.map fun v => v.category).sum ≤ W9) (hdg : decode c.code g.pc = .ok (.invokestatic index, 3))
    (hpre : ∀ vm₁, s.WarmedH vm₁ → Pre ⟨T.setVm vm₁, locs, cells, slots⟩ argsL.toArray) :
    (∃ (v : Option Value) (vm₁ : Vm) (B : Pt), s.WarmedH vm₁ ∧ Stand p l e R s m args below meth c B.U B.locs B.cells B.slots ∧ Post ⟨T.setVm vm₁, locs, cells, slots⟩ argsL.toArray v B ∧
      ∀ target, Steps p.tables e below (B.U.setTop { g with pc := g.pc + 3, stack := v.toList ++ rest }) target → Steps p.tables e below (T.setTop g) target) ∨
    (∃ (q : Addr) (vm₁ : Vm) (B : Pt), s.WarmedH vm₁ ∧ Stand p l e R s m args below meth c B.U B.locs B.cells B.slots ∧ PostX ⟨T.setVm vm₁, locs, cells, slots⟩ argsL.toArray q B ∧
      Steps p.tables e below (T.setTop g) ((B.U.setTop { g with stack := rest }).pushFrame (.throwing q))) := by
  obtain ⟨mk, hnamed⟩ := Cond.code_named hcode
  obtain ⟨methM, cM, hmethM, -, -, -, -, -, -, hsigM⟩ := Cond.code_spec hnamed hcode
  have hstatic : methM.isStatic = true := Cond.static_spec hnamed hmethM hstat
  obtain ⟨kP, hkP, -⟩ := className_of_methodNamed hnamed
  have hinitP : kP.init = .initialized := Cond.initialized_spec (findClass_of_methodNamed hnamed) hkP hinit
  obtain ⟨vm₁, X₁, hstep₁⟩ := X.invokestatic hexec hown hlink hnamed hmethM hstatic hkP hinitP hy (g := g) hg (argsL := argsL) (rest := rest) (hlen _ hsigM) hstack hdg
  rcases hK m meth c ⟨T.setVm vm₁, locs, cells, slots⟩ { g with stack := rest } (.invokestatic index) mk argsL.toArray X₁ hg hsize hdg hW (X₁.named hnamed) (hpre vm₁ X₁.warmed) with ⟨v, B, X', hpost, hsteps⟩ | ⟨q, B, X', hpost, hsteps⟩
  · exact Or.inl ⟨v, vm₁, B, X₁.warmed, X', hpost, fun target h => hstep₁ _ fun acts => by rw [doInvoke_state]; exact hsteps.trans h⟩
  · exact Or.inr ⟨q, vm₁, B, X₁.warmed, X', hpost, hstep₁ _ fun acts => by rw [doInvoke_state]; exact hsteps⟩
end Calls
theorem vx_cls {s : State} {T : State} {vm₁ : Vm} {E : String} {k : ClassId} (hW : s.WarmedH vm₁) (h : (T.setVm vm₁).vm.findClass E = some k) : s.vm.findClass E = some k := by
  have h1 : vm₁.findClass E = some k := h
  rw [hW.alike.findClass] at h1
  exact h1
/-- the method's frame g, with q thrown over it -/
def vx_W (p : Program) (l : Launch) (e : Env) (R : Room) (s : State) (m : MethodId) (args : Array Value) (below : List Frame) (meth : Method) (c : Code) (H : Heap) (locs : List Loc) (cells slots : Nat) (Q : State → Prop) (g : JFrame) (q : Addr) : Prop :=
  ∀ T : State, T.heap = H → Stand p l e R s m args below meth c T locs cells slots → ∃ t, Steps p.tables e below ((T.setTop g).pushFrame (.throwing q)) t ∧ Q t
def vx_Run (p : Program) (l : Launch) (e : Env) (R : Room) (s : State) (m : MethodId) (args : Array Value) (below : List Frame) (meth : Method) (c : Code) (H : Heap) (locs : List Loc) (cells slots mc ms : Nat) (g : JFrame) (rest : List Value) (Qa : State → Outcome → State → Prop) (XC : String → State → State → Prop) (free : Addr → Prop) : Prop :=
  ∀ T : State, T.heap = H → Stand p l e R s m args below meth c T locs cells slots →
    (∃ (v : Option Value) (st₀ t T' : State) (L : List Loc), st₀.heap = H ∧ Stand p l e R s m args below meth c T' (locs ++ L) (cells + mc) (slots + ms) ∧ (∀ q ∈ L, free q.base) ∧ T'.heap = t.heap ∧ T'.vm = t.vm ∧ Qa st₀ (.returned v) t ∧
      Goes p e below T g T' { g with pc := g.pc + 3, stack := v.toList ++ rest }) ∨
    (∃ (q : Addr) (st₀ t T' : State) (L : List Loc) (E : String) (ce : Cell), st₀.heap = H ∧ Stand p l e R s m args below meth c T' (locs ++ L) (cells + mc) (slots + ms) ∧ (∀ z ∈ L, free z.base) ∧ T'.heap = t.heap ∧ T'.vm = t.vm ∧ XC E st₀ t ∧ t.heap[q]? = some ce ∧ ce.vm = .none ∧ s.vm.findClass E = some ce.cls ∧
      Steps p.tables e below (T.setTop g) ((T'.setTop { g with stack := rest }).pushFrame (.throwing q)))
def vx_X {S : Type} (px : S → Prop) (B : String → S → State → Prop) (A : Nat → Prop) : String → State → State → Prop := fun E st t => ∃ u : S, px u ∧ B E u t ∧ va_F A st t
section Runs
variable {p : Program} {l : Launch} {e : Env} {R : Room} {s : State} {m : MethodId} {args : Array Value} {below : List Frame} {meth : Method} {c : Code} {H : Heap} {locs : List Loc} {cells slots : Nat}
variable {y : MethodName} {bytes cc : ByteArray} {maxL nL mc ms n index : Nat} {ret : Option FieldType} {ws : List Cond} {rm : Room} {Pc : Array Value → State → Prop} {Qc : Array Value → State → Outcome → State → Prop} {XC : String → State → State → Prop} {free : Addr → Prop} {Ts : List Cond} {own C : String} {b : Addr} {As rest : List Value} {g : JFrame}
theorem vx_callBack (cb : CallB R s args own index y bytes maxL ret ws rm mc ms n) (hM : vx_Met l y ws rm Pc Qc XC mc ms free) (hbl : FrameBlind Pc) : vx_Back l R p e below s args y 3 8 (PreOf R mc ms Pc) (PostOf Qc mc ms free) (vx_Post XC mc ms free) := by
  obtain ⟨hrc, hrs, hfr, hlo, hws, hcw, -, hini, -⟩ := cb
  exact vx_back (bytes := bytes) (maxL := maxL) (ret := ret) hM hbl hrc hrs hfr hlo hws hcw (fun a' U hW => word_at hW (Or.inl (by first | rfl | simp [Cond.onTables, Cond.keeps, Cond.steady])) hini)
theorem vx_runV (S : CallFix p m c cc nL s args Ts own) (hM : vx_Met l y ws rm Pc Qc XC mc ms free) (cw : CallW R s args own C index y bytes maxL ret ws rm mc ms n) (hp : PreV s H C b Pc As)
    (hg : g.method = m) (hn : As.length = n) (hsize : g.locals.size = nL) (hstack : g.stack = As.reverse ++ .ref b :: rest) (hW : 2 * g.monitorRoom + (rest.map fun v => v.category).sum ≤ 8) (hdg : decode cc g.pc = .ok (.invokevirtual index, 3)) (hf : cells + mc ≤ R.cells ∧ slots + ms ≤ R.slots) :
    vx_Run p l e R s m args below meth c H locs cells slots mc ms g rest (Qc (Value.ref b :: As).toArray) XC free := by
  have hK : vx_Back l R p e below s args y 3 8 (PreOf R mc ms Pc) (PostOf Qc mc ms free) (vx_Post XC mc ms free) := vx_callBack cw.1 hM hp.1
  obtain ⟨⟨-, -, -, -, -, -, hcode, -, hy, hlen, hl⟩, hin, hse⟩ := cw
  obtain ⟨hx, hb, hml, ho, -⟩ := S
  obtain ⟨-, ⟨cellB, hcB, hoB, hclB⟩, hPc⟩ := hp
  intro T hT X
  rcases vx_callV X hx (C := C) (bytes := bytes) (maxL := maxL) (ret := ret) ho hl hin hse hcode hy hK (by rw [hT]; exact hcB) hoB hclB hg (hsize.trans hml.symm) (argsL := As) (rest := rest) (fun sig h => hn.trans (hlen sig h)) hstack hW (by rw [hb]; exact hdg)
    (fun vm₁ hW₁ => ⟨hf.1, hf.2, hPc (T.setVm vm₁) hT hW₁⟩) with ⟨v, vm₁, ⟨U', l2, c2, s2⟩, hW₁, X', ⟨g', mk, t, L, e1, e2, hq, h1, hL, h2, h3⟩, st⟩ | ⟨q, vm₁, ⟨U', l2, c2, s2⟩, hW₁, X', ⟨g', mk, t, L, E, ce, e1, e2, hq, hce, hcv, hcl, h1, hL, h2, h3⟩, st⟩
  · dsimp only [Pt.U, Pt.locs, Pt.cells, Pt.slots] at X' e1 e2 h1 h2 h3 st
    subst h1; subst h2; subst h3
    exact Or.inl ⟨v, (T.setVm vm₁).calling g' mk (Value.ref b :: As).toArray, t, U', L, hT, X', hL, e1, e2, hq, st⟩
  · dsimp only [Pt.U, Pt.locs, Pt.cells, Pt.slots] at X' e1 e2 h1 h2 h3 st hcl
    subst h1; subst h2; subst h3
    exact Or.inr ⟨q, (T.setVm vm₁).calling g' mk (Value.ref b :: As).toArray, t, U', L, E, ce, hT, X', hL, e1, e2, hq, hce, hcv, vx_cls hW₁ hcl, st⟩
theorem vx_runS (S : CallFix p m c cc nL s args Ts own) (hM : vx_Met l y ws rm Pc Qc XC mc ms free) (cw : CallB R s args own index y bytes maxL ret ws rm mc ms n ∧ (Cond.static y).before args s = true) (hp : PreS s H Pc As)
    (hg : g.method = m) (hn : As.length = n) (hsize : g.locals.size = nL) (hstack : g.stack = As.reverse ++ rest) (hW : 2 * g.monitorRoom + (rest.map fun v => v.category).sum ≤ 8) (hdg : decode cc g.pc = .ok (.invokestatic index, 3)) (hf : cells + mc ≤ R.cells ∧ slots + ms ≤ R.slots) :
    vx_Run p l e R s m args below meth c H locs cells slots mc ms g rest (Qc As.toArray) XC free := by
  have hK : vx_Back l R p e below s args y 3 8 (PreOf R mc ms Pc) (PostOf Qc mc ms free) (vx_Post XC mc ms free) := vx_callBack cw.1 hM hp.1
  obtain ⟨⟨-, -, -, -, -, -, hcode, hini, hy, hlen, hl⟩, hstt⟩ := cw
  obtain ⟨hx, hb, hml, ho, -⟩ := S
  intro T hT X
  rcases vx_callS X hx (bytes := bytes) (maxL := maxL) (ret := ret) ho hl hstt hini hcode hy hK hg (hsize.trans hml.symm) (argsL := As) (rest := rest) (fun sig h => hn.trans (hlen sig h)) hstack hW (by rw [hb]; exact hdg)
    (fun vm₁ hW₁ => ⟨hf.1, hf.2, hp.2 (T.setVm vm₁) hT hW₁⟩) with ⟨v, vm₁, ⟨U', l2, c2, s2⟩, hW₁, X', ⟨g', mk, t, L, e1, e2, hq, h1, hL, h2, h3⟩, st⟩ | ⟨q, vm₁, ⟨U', l2, c2, s2⟩, hW₁, X', ⟨g', mk, t, L, E, ce, e1, e2, hq, hce, hcv, hcl, h1, hL, h2, h3⟩, st⟩
  · dsimp only [Pt.U, Pt.locs, Pt.cells, Pt.slots] at X' e1 e2 h1 h2 h3 st
    subst h1; subst h2; subst h3
    exact Or.inl ⟨v, (T.setVm vm₁).calling g' mk As.toArray, t, U', L, hT, X', hL, e1, e2, hq, st⟩
  · dsimp only [Pt.U, Pt.locs, Pt.cells, Pt.slots] at X' e1 e2 h1 h2 h3 st hcl
    subst h1; subst h2; subst h3
    exact Or.inr ⟨q, (T.setVm vm₁).calling g' mk As.toArray, t, U', L, E, ce, hT, X', hL, e1, e2, hq, hce, hcv, vx_cls hW₁ hcl, st⟩
end Runs
section Rows
variable {p : Program} {l : Launch} {e : Env} {R : Room} {s : State} {m : MethodId} {args : Array Value} {below : List Frame} {meth : Method} {c : Code} {H : Heap} {locs : List Loc} {cells slots : Nat} {Q : State → Prop}
variable {mc ms : Nat} {free : Addr → Prop} {A0 A1 : Nat → Prop} {H0 : Heap} {a : Array Value} {pc : Nat} {ls : Array Slot} {st0 rest : List Value}
theorem vx_keep {st₀ t T' : State} {L : List Loc} (h0 : st₀.heap = H) (e1 : T'.heap = t.heap) (hS : va_S A0 H0 H locs) (hA : ∀ q, q < H.size → A1 q → A0 q) (hf : ∀ q, free q → A0 q) (hL : ∀ q ∈ L, free q.base) (hF : va_F A1 st₀ t) :
    H.size ≤ T'.heap.size ∧ (∀ q : Nat, q < H.size → ¬ A1 q → T'.heap[q]? = H[q]?) ∧ va_S A0 H0 T'.heap (locs ++ L) := by
  obtain ⟨hz, hk⟩ := hF
  rw [h0] at hz hk
  exact ⟨by rw [e1]; exact hz, fun q h1 h2 => by rw [e1]; exact hk q h1 h2,
    ⟨Nat.le_trans hS.1 (by rw [e1]; exact hz), fun q h1 h2 => by rw [e1, hk q (Nat.lt_of_lt_of_le h1 hS.1) (fun z => h2 (hA q (Nat.lt_of_lt_of_le h1 hS.1) z))]; exact hS.2.1 q h1 h2, fun q hq => by
      rcases List.mem_append.mp hq with h | h
      · exact hS.2.2 q h
      · exact hf _ (hL q h)⟩⟩
theorem vx_calli {S SX : Type} {post : Int32 → S → Prop} {px : SX → Prop} {B : S → State → Prop} {BX : String → SX → State → Prop} {AX : Nat → Prop} (hr : vx_Run p l e R s m args below meth c H locs cells slots mc ms (F0 m pc ls st0) rest (va_Qi post B A1 a) (vx_X px BX AX) free) (hS : va_S A0 H0 H locs) (hA : ∀ q, q < H.size → A1 q → A0 q) (hf : ∀ q, free q → A0 q) (hAX : ∀ q, q < H.size → AX q → A0 q)
    (kx : ∀ (E : String) (ce : Cell) (q9 : Addr) (u : SX) (t : State) (H1 : Heap) (locs1 : List Loc), t.heap = H1 → s.vm.Alike t.vm → px u → BX E u t → H.size ≤ H1.size → (∀ q : Nat, q < H.size → ¬ AX q → H1[q]? = H[q]?) → va_S A0 H0 H1 locs1 → H1[q9]? = some ce → ce.vm = .none → s.vm.findClass E = some ce.cls → vx_W p l e R s m args below meth c H1 locs1 (cells + mc) (slots + ms) Q (F0 m pc ls rest) q9)
    (kk : ∀ (r : Int32) (u : S) (t : State) (H1 : Heap) (locs1 : List Loc), t.heap = H1 → s.vm.Alike t.vm → post r u → B u t → H.size ≤ H1.size → (∀ q : Nat, q < H.size → ¬ A1 q → H1[q]? = H[q]?) → va_S A0 H0 H1 locs1 → W p l e R s m args below meth c H1 locs1 (cells + mc) (slots + ms) Q (F0 m (pc + 3) ls (.int r :: rest))) : W p l e R s m args below meth c H locs cells slots Q (F0 m pc ls st0) := by
  intro T hT X
  rcases hr T hT X with ⟨v, st₀, t, T', L, h0, X', hL, e1, e2, ⟨⟨r, u, hv, hp, hb⟩, hF⟩, st⟩ | ⟨q, st₀, t, T', L, E, ce, h0, X', hL, e1, e2, ⟨u, hp, hb, hF⟩, hce, hcv, hcl, st⟩
  · cases hv
    obtain ⟨k1, k2, k3⟩ := vx_keep h0 e1 hS hA hf hL hF
    obtain ⟨t2, a1, b1⟩ := kk r u t T'.heap (locs ++ L) e1.symm (by rw [← e2]; exact X'.warmed.alike) hp hb k1 k2 k3 T' rfl X'
    exact ⟨t2, st t2 a1, b1⟩
  · obtain ⟨k1, k2, k3⟩ := vx_keep h0 e1 hS hAX hf hL hF
    obtain ⟨t2, a1, b1⟩ := kx E ce q u t T'.heap (locs ++ L) e1.symm (by rw [← e2]; exact X'.warmed.alike) hp hb k1 k2 k3 (by rw [e1]; exact hce) hcv hcl T' rfl X'
    exact ⟨t2, st.trans a1, b1⟩
theorem vx_calll {S SX : Type} {post : Int64 → S → Prop} {px : SX → Prop} {B : S → State → Prop} {BX : String → SX → State → Prop} {AX : Nat → Prop} (hr : vx_Run p l e R s m args below meth c H locs cells slots mc ms (F0 m pc ls st0) rest (va_Ql post B A1 a) (vx_X px BX AX) free) (hS : va_S A0 H0 H locs) (hA : ∀ q, q < H.size → A1 q → A0 q) (hf : ∀ q, free q → A0 q) (hAX : ∀ q, q < H.size → AX q → A0 q)
    (kx : ∀ (E : String) (ce : Cell) (q9 : Addr) (u : SX) (t : State) (H1 : Heap) (locs1 : List Loc), t.heap = H1 → s.vm.Alike t.vm → px u → BX E u t → H.size ≤ H1.size → (∀ q : Nat, q < H.size → ¬ AX q → H1[q]? = H[q]?) → va_S A0 H0 H1 locs1 → H1[q9]? = some ce → ce.vm = .none → s.vm.findClass E = some ce.cls → vx_W p l e R s m args below meth c H1 locs1 (cells + mc) (slots + ms) Q (F0 m pc ls rest) q9)
    (kk : ∀ (r : Int64) (u : S) (t : State) (H1 : Heap) (locs1 : List Loc), t.heap = H1 → s.vm.Alike t.vm → post r u → B u t → H.size ≤ H1.size → (∀ q : Nat, q < H.size → ¬ A1 q → H1[q]? = H[q]?) → va_S A0 H0 H1 locs1 → W p l e R s m args below meth c H1 locs1 (cells + mc) (slots + ms) Q (F0 m (pc + 3) ls (.long r :: rest))) : W p l e R s m args below meth c H locs cells slots Q (F0 m pc ls st0) := by
  intro T hT X
  rcases hr T hT X with ⟨v, st₀, t, T', L, h0, X', hL, e1, e2, ⟨⟨r, u, hv, hp, hb⟩, hF⟩, st⟩ | ⟨q, st₀, t, T', L, E, ce, h0, X', hL, e1, e2, ⟨u, hp, hb, hF⟩, hce, hcv, hcl, st⟩
  · cases hv
    obtain ⟨k1, k2, k3⟩ := vx_keep h0 e1 hS hA hf hL hF
    obtain ⟨t2, a1, b1⟩ := kk r u t T'.heap (locs ++ L) e1.symm (by rw [← e2]; exact X'.warmed.alike) hp hb k1 k2 k3 T' rfl X'
    exact ⟨t2, st t2 a1, b1⟩
  · obtain ⟨k1, k2, k3⟩ := vx_keep h0 e1 hS hAX hf hL hF
    obtain ⟨t2, a1, b1⟩ := kx E ce q u t T'.heap (locs ++ L) e1.symm (by rw [← e2]; exact X'.warmed.alike) hp hb k1 k2 k3 (by rw [e1]; exact hce) hcv hcl T' rfl X'
    exact ⟨t2, st.trans a1, b1⟩
theorem vx_callf {S SX : Type} {post : UInt32 → S → Prop} {px : SX → Prop} {B : S → State → Prop} {BX : String → SX → State → Prop} {AX : Nat → Prop} (hr : vx_Run p l e R s m args below meth c H locs cells slots mc ms (F0 m pc ls st0) rest (va_Qf post B A1 a) (vx_X px BX AX) free) (hS : va_S A0 H0 H locs) (hA : ∀ q, q < H.size → A1 q → A0 q) (hf : ∀ q, free q → A0 q) (hAX : ∀ q, q < H.size → AX q → A0 q)
    (kx : ∀ (E : String) (ce : Cell) (q9 : Addr) (u : SX) (t : State) (H1 : Heap) (locs1 : List Loc), t.heap = H1 → s.vm.Alike t.vm → px u → BX E u t → H.size ≤ H1.size → (∀ q : Nat, q < H.size → ¬ AX q → H1[q]? = H[q]?) → va_S A0 H0 H1 locs1 → H1[q9]? = some ce → ce.vm = .none → s.vm.findClass E = some ce.cls → vx_W p l e R s m args below meth c H1 locs1 (cells + mc) (slots + ms) Q (F0 m pc ls rest) q9)
    (kk : ∀ (r : UInt32) (u : S) (t : State) (H1 : Heap) (locs1 : List Loc), t.heap = H1 → s.vm.Alike t.vm → post r u → B u t → H.size ≤ H1.size → (∀ q : Nat, q < H.size → ¬ A1 q → H1[q]? = H[q]?) → va_S A0 H0 H1 locs1 → W p l e R s m args below meth c H1 locs1 (cells + mc) (slots + ms) Q (F0 m (pc + 3) ls (.float r :: rest))) : W p l e R s m args below meth c H locs cells slots Q (F0 m pc ls st0) := by
  intro T hT X
  rcases hr T hT X with ⟨v, st₀, t, T', L, h0, X', hL, e1, e2, ⟨⟨r, u, hv, hp, hb⟩, hF⟩, st⟩ | ⟨q, st₀, t, T', L, E, ce, h0, X', hL, e1, e2, ⟨u, hp, hb, hF⟩, hce, hcv, hcl, st⟩
  · cases hv
    obtain ⟨k1, k2, k3⟩ := vx_keep h0 e1 hS hA hf hL hF
    obtain ⟨t2, a1, b1⟩ := kk r u t T'.heap (locs ++ L) e1.symm (by rw [← e2]; exact X'.warmed.alike) hp hb k1 k2 k3 T' rfl X'
    exact ⟨t2, st t2 a1, b1⟩
  · obtain ⟨k1, k2, k3⟩ := vx_keep h0 e1 hS hAX hf hL hF
    obtain ⟨t2, a1, b1⟩ := kx E ce q u t T'.heap (locs ++ L) e1.symm (by rw [← e2]; exact X'.warmed.alike) hp hb k1 k2 k3 (by rw [e1]; exact hce) hcv hcl T' rfl X'
    exact ⟨t2, st.trans a1, b1⟩
theorem vx_calld {S SX : Type} {post : UInt64 → S → Prop} {px : SX → Prop} {B : S → State → Prop} {BX : String → SX → State → Prop} {AX : Nat → Prop} (hr : vx_Run p l e R s m args below meth c H locs cells slots mc ms (F0 m pc ls st0) rest (va_Qd post B A1 a) (vx_X px BX AX) free) (hS : va_S A0 H0 H locs) (hA : ∀ q, q < H.size → A1 q → A0 q) (hf : ∀ q, free q → A0 q) (hAX : ∀ q, q < H.size → AX q → A0 q)
    (kx : ∀ (E : String) (ce : Cell) (q9 : Addr) (u : SX) (t : State) (H1 : Heap) (locs1 : List Loc), t.heap = H1 → s.vm.Alike t.vm → px u → BX E u t → H.size ≤ H1.size → (∀ q : Nat, q < H.size → ¬ AX q → H1[q]? = H[q]?) → va_S A0 H0 H1 locs1 → H1[q9]? = some ce → ce.vm = .none → s.vm.findClass E = some ce.cls → vx_W p l e R s m args below meth c H1 locs1 (cells + mc) (slots + ms) Q (F0 m pc ls rest) q9)
    (kk : ∀ (r : UInt64) (u : S) (t : State) (H1 : Heap) (locs1 : List Loc), t.heap = H1 → s.vm.Alike t.vm → post r u → B u t → H.size ≤ H1.size → (∀ q : Nat, q < H.size → ¬ A1 q → H1[q]? = H[q]?) → va_S A0 H0 H1 locs1 → W p l e R s m args below meth c H1 locs1 (cells + mc) (slots + ms) Q (F0 m (pc + 3) ls (.double r :: rest))) : W p l e R s m args below meth c H locs cells slots Q (F0 m pc ls st0) := by
  intro T hT X
  rcases hr T hT X with ⟨v, st₀, t, T', L, h0, X', hL, e1, e2, ⟨⟨r, u, hv, hp, hb⟩, hF⟩, st⟩ | ⟨q, st₀, t, T', L, E, ce, h0, X', hL, e1, e2, ⟨u, hp, hb, hF⟩, hce, hcv, hcl, st⟩
  · cases hv
    obtain ⟨k1, k2, k3⟩ := vx_keep h0 e1 hS hA hf hL hF
    obtain ⟨t2, a1, b1⟩ := kk r u t T'.heap (locs ++ L) e1.symm (by rw [← e2]; exact X'.warmed.alike) hp hb k1 k2 k3 T' rfl X'
    exact ⟨t2, st t2 a1, b1⟩
  · obtain ⟨k1, k2, k3⟩ := vx_keep h0 e1 hS hAX hf hL hF
    obtain ⟨t2, a1, b1⟩ := kx E ce q u t T'.heap (locs ++ L) e1.symm (by rw [← e2]; exact X'.warmed.alike) hp hb k1 k2 k3 (by rw [e1]; exact hce) hcv hcl T' rfl X'
    exact ⟨t2, st.trans a1, b1⟩
theorem vx_callv {S SX : Type} {post : S → Prop} {px : SX → Prop} {B : S → State → Prop} {BX : String → SX → State → Prop} {AX : Nat → Prop} (hr : vx_Run p l e R s m args below meth c H locs cells slots mc ms (F0 m pc ls st0) rest (va_Qv post B A1 a) (vx_X px BX AX) free) (hS : va_S A0 H0 H locs) (hA : ∀ q, q < H.size → A1 q → A0 q) (hf : ∀ q, free q → A0 q) (hAX : ∀ q, q < H.size → AX q → A0 q)
    (kx : ∀ (E : String) (ce : Cell) (q9 : Addr) (u : SX) (t : State) (H1 : Heap) (locs1 : List Loc), t.heap = H1 → s.vm.Alike t.vm → px u → BX E u t → H.size ≤ H1.size → (∀ q : Nat, q < H.size → ¬ AX q → H1[q]? = H[q]?) → va_S A0 H0 H1 locs1 → H1[q9]? = some ce → ce.vm = .none → s.vm.findClass E = some ce.cls → vx_W p l e R s m args below meth c H1 locs1 (cells + mc) (slots + ms) Q (F0 m pc ls rest) q9)
    (kk : ∀ (u : S) (t : State) (H1 : Heap) (locs1 : List Loc), t.heap = H1 → s.vm.Alike t.vm → post u → B u t → H.size ≤ H1.size → (∀ q : Nat, q < H.size → ¬ A1 q → H1[q]? = H[q]?) → va_S A0 H0 H1 locs1 → W p l e R s m args below meth c H1 locs1 (cells + mc) (slots + ms) Q (F0 m (pc + 3) ls (rest))) : W p l e R s m args below meth c H locs cells slots Q (F0 m pc ls st0) := by
  intro T hT X
  rcases hr T hT X with ⟨v, st₀, t, T', L, h0, X', hL, e1, e2, ⟨⟨u, hv, hp, hb⟩, hF⟩, st⟩ | ⟨q, st₀, t, T', L, E, ce, h0, X', hL, e1, e2, ⟨u, hp, hb, hF⟩, hce, hcv, hcl, st⟩
  · cases hv
    obtain ⟨k1, k2, k3⟩ := vx_keep h0 e1 hS hA hf hL hF
    obtain ⟨t2, a1, b1⟩ := kk u t T'.heap (locs ++ L) e1.symm (by rw [← e2]; exact X'.warmed.alike) hp hb k1 k2 k3 T' rfl X'
    exact ⟨t2, st t2 a1, b1⟩
  · obtain ⟨k1, k2, k3⟩ := vx_keep h0 e1 hS hAX hf hL hF
    obtain ⟨t2, a1, b1⟩ := kx E ce q u t T'.heap (locs ++ L) e1.symm (by rw [← e2]; exact X'.warmed.alike) hp hb k1 k2 k3 (by rw [e1]; exact hce) hcv hcl T' rfl X'
    exact ⟨t2, st.trans a1, b1⟩
/-- caught by the row x of this method's table; the rows ahead don't take it -/
theorem vx_catch {own name : String} {E : String} {ce : Cell} {q : Addr} (hown : s.vm.findClass own = some m.cls) (pre : List ExceptionTableEntry) (x : ExceptionTableEntry) (suf : List ExceptionTableEntry) (hsplit : c.exceptionTable.toList = pre ++ x :: suf)
    (hpass : ∀ z ∈ pre, covers z pc = false ∨ (z.catchType ≠ 0 ∧ ∃ nm : String, (Cond.classLink own z.catchType nm).before args s = true ∧ va_Nc E nm s)) (hx : covers x pc = true) (h0 : x.catchType ≠ 0)
    (hlink : (Cond.classLink own x.catchType name).before args s = true) (hcast : (Cond.castable E name).before args s = true) (hcell : H[q]? = some ce) (hv : ce.vm = .none) (hcl : s.vm.findClass E = some ce.cls)
    (kk : W p l e R s m args below meth c H locs cells slots Q (F0 m x.handlerPc ls [.ref q])) : vx_W p l e R s m args below meth c H locs cells slots Q (F0 m pc ls rest) q := by
  intro T hT X
  have hpl : e.platform.magicAccessors = ({} : Platform).magicAccessors := by rw [X.admits.platform]
  obtain ⟨c3, c4, hc3, hc4, hasg⟩ := Cond.castable_spec hcast
  cases Option.some.inj (hc3.symm.trans hcl)
  obtain ⟨c5, hc5, hcl5⟩ := Cond.classLink_spec hown hlink e.platform hpl
  cases Option.some.inj (hc4.symm.trans hc5)
  obtain ⟨vm', X', st⟩ := X.thenCaughtThrough q (g := F0 m pc ls rest) rfl (Steps.refl _) (by rw [hT]; exact hcell) (by rw [hv]; rfl) (by obtain ⟨k9, h9, -⟩ := Vm.findClass_spec hcl; exact ⟨k9, h9⟩) pre x suf hsplit
    (fun z hz => by
      rcases hpass z hz with h | ⟨hz0, nm, hl1, hn1⟩
      · exact Or.inl h
      · obtain ⟨c6, hc6, hcl6⟩ := Cond.classLink_spec hown hl1 e.platform hpl
        obtain ⟨a8, b8, h1, h2, h3⟩ := hn1
        cases Option.some.inj (h1.symm.trans hcl)
        cases Option.some.inj (h2.symm.trans hc6)
        exact Or.inr ⟨hz0, _, hcl6, h3⟩) hx (Or.inr ⟨h0, c4, hcl5, hasg⟩)
  obtain ⟨t, a1, b1⟩ := kk (T.setVm vm') hT X'
  exact ⟨t, st.trans a1, b1⟩
end Rows
section Ends
variable {p : Program} {l : Launch} {e : Env} {R : Room} {s : State} {m : MethodId} {args : Array Value} {below : List Frame} {meth : Method} {c : Code} {H : Heap} {locs : List Loc} {cells slots : Nat} {Q : State → Prop}
variable {mc ms : Nat} {free : Addr → Prop} {A0 A1 : Nat → Prop} {H0 : Heap} {a : Array Value} {ls : Array Slot} {st0 rest : List Value}
variable {Qc : Array Value → State → Outcome → State → Prop} {XC : String → State → State → Prop}
/-- what a body that may throw owes at its end -/
def vx_MQ (below : List Frame) (Qc : Array Value → State → Outcome → State → Prop) (XC : String → State → State → Prop) (a : Array Value) (s : State) (mc ms : Nat) (free : Addr → Prop) : State → Prop := fun t =>
  ∃ o, t.status = .running ∧ Ended t below o ∧ vx_Q Qc XC mc ms free a s o t
theorem vx_ret {g : JFrame} {mc ms : Nat} (k : W p l e R s m args below meth c H locs cells slots (MQ below Qc args s mc ms free) g) : W p l e R s m args below meth c H locs cells slots (vx_MQ below Qc XC args s mc ms free) g := by
  intro T hT X
  obtain ⟨t, a1, o, b1, b2, b3, b4⟩ := k T hT X
  exact ⟨t, a1, o, b1, b2, Or.inl ⟨b3, b4⟩⟩
/-- not caught here: it goes on to the caller -/
theorem vx_widen {g : JFrame} {q : Addr} {k n : Nat} (h1 : cells ≤ k) (h2 : slots ≤ n) (kk : vx_W p l e R s m args below meth c H locs k n Q g q) : vx_W p l e R s m args below meth c H locs cells slots Q g q := fun T hT X => kk T hT (stand_widen X h1 h2)
theorem vx_out {pc : Nat} {E : String} {ce : Cell} {q : Addr} {mc ms : Nat} (hout : ∀ x ∈ c.exceptionTable.toList, covers x pc = false) (hlocks : meth.locks = false) (hcell : H[q]? = some ce) (hv : ce.vm = .none) (hcl : s.vm.findClass E = some ce.cls)
    (hx : ∀ t : State, t.heap = H → s.vm.Alike t.vm → XC E s t) (hf : ∀ z ∈ locs, free z.base) (hc : cells ≤ mc) (hs : slots ≤ ms) :
    vx_W p l e R s m args below meth c H locs cells slots (vx_MQ below Qc XC args s mc ms free) (F0 m pc ls rest) q := by
  intro T hT X
  obtain ⟨st1, hrun, hend, hW, hsm⟩ := X.leaveThrown q (g := F0 m pc ls rest) rfl rfl rfl hout hlocks
  have hcell9 : (T.setFrames (.throwing q :: below)).heap[q]? = some ce := by
    show T.heap[q]? = some ce
    rw [hT]; exact hcell
  exact ⟨_, st1, .threw q, hrun, hend, Or.inr ⟨q, rfl, E, ce, locs, hx _ hT hW.alike, hcell9, hv, hcl, hW, hsm.mono hc hs, hf⟩⟩
theorem vx_frame {U : State} {k n : Nat} (h : s.sameButNew ({ U with vm := s.vm } : State) locs k n) : s.heap.size ≤ U.heap.size ∧ ∀ q : Nat, q < s.heap.size → (∀ z ∈ locs, z.base ≠ q) → U.heap[q]? = s.heap[q]? := by
  obtain ⟨-, h2, -, -, -, h6⟩ := h
  refine ⟨h2, fun q hq hz => ?_⟩
  obtain ⟨c9, e1, e2, e3, e4⟩ := h6 q _ (Array.getElem?_eq_getElem hq)
  have hs : c9.slots = (s.heap[q]).slots := Array.ext_getElem? fun i => e4 i fun hm => hz _ hm rfl
  have h9 : c9 = s.heap[q] := by
    rw [hs] at e2
    exact e2
  have e5 : U.heap[q]? = some c9 := e1
  rw [e5, h9, Array.getElem?_eq_getElem hq]
/-- the words of a throw but the four that speak of the heap -/
def vx_no (w : Cond) : Bool := decide (w ≠ .isRef (.static Bundle.tN "UNASSIGNED_STACK" Bundle.steD)) && decide (w ≠ .isRef (.static Bundle.tN "SUPPRESSED_SENTINEL" Bundle.listD)) && decide (w ≠ .laysStatic Bundle.tN "UNASSIGNED_STACK" Bundle.steD) && decide (w ≠ .laysStatic Bundle.tN "SUPPRESSED_SENTINEL" Bundle.listD)
def vx_at0 (own : String) (ic : Nat) (X : String) (names : List String) : List Cond := (Bundle.ownAtoms0 own ic X names).filter vx_no
def vx_atS (own : String) (ic : Nat) (X : String) (names : List String) : List Cond := (Bundle.ownAtoms own ic X names).filter vx_no
/-- a word that the tables alone decide, or a good one -/
def vx_ot (w : Cond) : Bool := w.onTables || goodWord w
theorem vx_ot_at {args a' : Array Value} {s U : State} {w : Cond} (hW : s.WarmedH U.vm) (hvm : s.vm = U.vm) (hg : vx_ot w = true) (h : w.before args s = true) : w.before a' U = true := by
  simp only [vx_ot, Bool.or_eq_true] at hg
  rcases hg with hg | hg
  · exact va_tabs hg hvm h
  · exact word_at hW (good_of_word hg) h
/-- a list's words: the good ones out of the method's own list, the others by premises of their own -/
theorem vx_hat {args : Array Value} {s : State} {L B : List Cond} (h1 : ∀ w ∈ L.filter goodWord, w.before args s = true) (h2 : ∀ w ∈ L.filter (fun w => !goodWord w), w ∈ B) (h3 : ∀ w ∈ B, w.before args s = true) : ∀ w ∈ L, w.before args s = true := by
  intro w hw
  by_cases g : goodWord w = true
  · exact h1 w (List.mem_filter.mpr ⟨hw, g⟩)
  · refine h3 w (h2 w (List.mem_filter.mpr ⟨hw, ?_⟩))
    show (!goodWord w) = true
    cases hgw : goodWord w
    · rfl
    · exact absurd hgw g
theorem vx_c {args : Array Value} {s : State} {w : Cond} {B : List Cond} (h : w.before args s = true) (t : ∀ w ∈ B, w.before args s = true) : ∀ w' ∈ w :: B, w'.before args s = true := fun w' h' => (List.mem_cons.mp h').elim (fun e => by rw [e]; exact h) (t w')
theorem vx_n {args : Array Value} {s : State} : ∀ w ∈ ([] : List Cond), w.before args s = true := fun _ h => nomatch h
theorem vx_own {args : Array Value} {s : State} {L : List Cond} (h1 : ∀ w ∈ L.filter vx_no, w.before args s = true)
    (hU : (Cond.isRef (.static Bundle.tN "UNASSIGNED_STACK" Bundle.steD)).before args s = true) (hN : (Cond.isRef (.static Bundle.tN "SUPPRESSED_SENTINEL" Bundle.listD)).before args s = true)
    (lU : (Cond.laysStatic Bundle.tN "UNASSIGNED_STACK" Bundle.steD).before args s = true) (lN : (Cond.laysStatic Bundle.tN "SUPPRESSED_SENTINEL" Bundle.listD).before args s = true) : ∀ w ∈ L, w.before args s = true := by
  intro w hw
  by_cases e1 : w = .isRef (.static Bundle.tN "UNASSIGNED_STACK" Bundle.steD)
  · rw [e1]; exact hU
  · by_cases e2 : w = .isRef (.static Bundle.tN "SUPPRESSED_SENTINEL" Bundle.listD)
    · rw [e2]; exact hN
    · by_cases e3 : w = .laysStatic Bundle.tN "UNASSIGNED_STACK" Bundle.steD
      · rw [e3]; exact lU
      · by_cases e4 : w = .laysStatic Bundle.tN "SUPPRESSED_SENTINEL" Bundle.listD
        · rw [e4]; exact lN
        · exact h1 w (List.mem_filter.mpr ⟨hw, by unfold vx_no; rw [decide_eq_true e1, decide_eq_true e2, decide_eq_true e3, decide_eq_true e4]; rfl⟩)
/-- where a static field lies, its class's statics cell in H -/
def vx_L (C n d : String) (A : Nat → Prop) (U : State) (H : Heap) : Prop := ∃ (c : ClassId) (k : Class) (i : Nat) (f : Field) (a : Nat) (cell : Cell), U.vm.findClass C = some c ∧ U.fieldFound? C n d = some (c, k, i, f) ∧ f.isStatic = true ∧ k.statics = some a ∧ H[a]? = some cell ∧ cell.vm.isStatics = true ∧ cell.cls = c ∧ f.slot < cell.slots.size ∧ k.staticTypes[f.slot]? = some f.type ∧ ¬ A a
theorem vx_L.moved {C n d : String} {A : Nat → Prop} {u U : State} {H : Heap} (hvm : u.vm.Alike U.vm) (h : vx_L C n d A u H) : vx_L C n d A U H := by
  obtain ⟨c, k, i, f, a, cell, h1, h2, h3, h4, h5, h6, h7, h8, h9, h10⟩ := h
  obtain ⟨k', hi', he⟩ := State.fieldFound?_setVm hvm h2
  exact ⟨c, k', i, f, a, cell, by rw [hvm.findClass]; exact h1, hi', h3, by rw [he]; exact h4, h5, h6, h7, h8, by rw [he]; exact h9, h10⟩
theorem vx_L.kept {C n d : String} {A : Nat → Prop} {U : State} {H H1 : Heap} (h : vx_L C n d A U H) (hq : ∀ a : Nat, a < H.size → ¬ A a → H1[a]? = H[a]?) : vx_L C n d A U H1 := by
  obtain ⟨c, k, i, f, a, cell, h1, h2, h3, h4, h5, h6, h7, h8, h9, h10⟩ := h
  exact ⟨c, k, i, f, a, cell, h1, h2, h3, h4, by rw [hq a (Array.getElem?_eq_some_iff.mp h5).1 h10]; exact h5, h6, h7, h8, h9, h10⟩
theorem vx_L.narrow {C n d : String} {A B : Nat → Prop} {U : State} {H : Heap} (h : vx_L C n d A U H) (hAB : ∀ q, B q → A q) : vx_L C n d B U H := by
  obtain ⟨c, k, i, f, a, cell, h1, h2, h3, h4, h5, h6, h7, h8, h9, h10⟩ := h
  exact ⟨c, k, i, f, a, cell, h1, h2, h3, h4, h5, h6, h7, h8, h9, fun z => h10 (hAB _ z)⟩
theorem vx_L.word {C n d : String} {A : Nat → Prop} {s : State} {args : Array Value} (h : vx_L C n d A s s.heap) : (Cond.laysStatic C n d).before args s = true := by
  obtain ⟨c, k, i, f, a, cell, h1, h2, h3, h4, h5, h6, h7, h8, h9, -⟩ := h
  show (Cond.laysStatic C n d).holds args s none s [] = true
  exact Cond.laysStatic_of h1 h2 h3 h4 h5 h6 h7 h8 h9
/-- .. and what it holds: null or some reference -/
def vx_Zq (C n d : String) (A : Nat → Prop) (U : State) (H : Heap) : Prop := va_Zq C n d A U H ∧ vx_L C n d A U H
theorem vx_Zq.moved {C n d : String} {A : Nat → Prop} {u U : State} {H : Heap} (hvm : u.vm.Alike U.vm) (h : vx_Zq C n d A u H) : vx_Zq C n d A U H := ⟨va_Zq.moved hvm h.1, vx_L.moved hvm h.2⟩
theorem vx_Zq.kept {C n d : String} {A : Nat → Prop} {U : State} {H H1 : Heap} (h : vx_Zq C n d A U H) (hq : ∀ a : Nat, a < H.size → ¬ A a → H1[a]? = H[a]?) : vx_Zq C n d A U H1 := ⟨va_Zq.kept h.1 hq, vx_L.kept h.2 hq⟩
theorem vx_Zq.narrow {C n d : String} {A B : Nat → Prop} {U : State} {H : Heap} (h : vx_Zq C n d A U H) (hAB : ∀ q, B q → A q) : vx_Zq C n d B U H := ⟨va_Zq.narrow h.1 hAB, vx_L.narrow h.2 hAB⟩
theorem vx_Zqof {args : Array Value} {s : State} {C n d : String} {A : Nat → Prop} (hl : (Cond.laysStatic C n d).before args s = true) (hini : (Cond.initialized C).before args s = true) (h : (Cond.isRef (.static C n d)).before args s = true) (hA : ∀ a : Nat, a < s.heap.size → ¬ A a) : vx_Zq C n d A s s.heap := by
  refine ⟨va_Zqof hl hini h hA, ?_⟩
  obtain ⟨c, k, i, f, a, cell, h1, h2, h3, h4, h5, h6, h7, h8, h9⟩ := Cond.laysStatic_spec hl
  exact ⟨c, k, i, f, a, cell, h1, h2, h3, h4, h5, h6, h7, h8, h9, hA a (Array.getElem?_eq_some_iff.mp h5).1⟩
theorem vx_isRef {C n d : String} {v : Value} {A : Nat → Prop} {s : State} {args : Array Value} (h : va_Z C n d v A s s.heap) (hv : v.isRef = true) : (Cond.isRef (.static C n d)).before args s = true := by
  obtain ⟨cf, kf, fi, f, a, cell, h1, h2, h3, h4, h5, h6, h7, -⟩ := h
  have he : (Term.static C n d).eval args s none [] s = some v := by
    simp [Term.eval, State.fieldNamed?, h1, h2, h4, h5, h6, h7]
  simp only [Cond.before, Cond.holds, Cond.value, he]
  cases v <;> simp_all [Value.isRef]
theorem vx_isRefq {C n d : String} {A : Nat → Prop} {s : State} {args : Array Value} (h : va_Zq C n d A s s.heap) : (Cond.isRef (.static C n d)).before args s = true := by
  rcases h with h | ⟨t, h⟩
  · exact vx_isRef h rfl
  · exact vx_isRef h rfl
/-- the same frame, seen from here: as if the method were called anew in this heap -/
theorem vx_rebase {T : State} (X : Stand p l e R s m args below meth c T locs cells slots) {R' : Room} (hf : R'.frames ≤ R.frames) (hl : R'.locals ≤ R.locals) (hc : cells + R'.cells ≤ R.cells) (hs : slots + R'.slots ≤ R.slots) :
    Stand p l e R' ((T.setVm s.vm).setFrames (.invoking m args :: below)) m args below meth c T [] 0 0 := by
  have htop : (T.setVm s.vm).topJava?.isSome := X.here.top
  have hF : ((T.setVm s.vm).setFrames (.invoking m args :: below)).frames = .invoking m args :: below := State.frames_setFrames _ (State.cur_lt_of_top htop)
  obtain ⟨g₀, hg0⟩ := Option.isSome_iff_exists.mp htop
  obtain ⟨r, hr⟩ := State.topJava?_eq_some.mp hg0
  have hl9 : e.platform.stackLimits (T.setVm s.vm).me = e.platform.stackLimits s.me := X.limits
  have hb9 : (T.setVm s.vm).me.stackBytes = s.me.stackBytes := X.bytes
  refine ⟨X.admits, X.cas, X.clock, hF, ?_, X.hears, X.method, X.code, X.here, X.tail, X.warmed, ?_, ?_, ?_⟩
  · have h := X.room
    have hU : ((T.setVm s.vm).setFrames (.invoking m args :: below)).localsInUse = s.localsInUse := by
      rw [State.localsInUse_invoking hF (meth := meth) (c := c) X.method X.code, State.localsInUse_invoking X.frames X.method X.code]
    simp only [State.hasRoom, Bool.and_eq_true, decide_eq_true_eq] at h ⊢
    obtain ⟨⟨⟨⟨h1, h2, h3, h4, h5, h6⟩, h7⟩, h8⟩, h9⟩ := h
    rw [X.frames, List.length_cons] at h2 h3
    have q1 := X.heapSize
    have q2 := X.used
    simp only [hF, hU, List.length_cons, State.stackLimits_setFrames, State.stackBytes_setFrames, hl9, hb9]
    refine ⟨⟨⟨⟨by omega, by omega, by omega, by omega, by omega, h6⟩, ?_⟩, ?_⟩, X.book⟩
    · show T.heap.size + R'.cells ≤ e.platform.maxCells
      omega
    · show T.slotsUsed + R'.slots ≤ e.platform.maxSlots
      omega
  · rw [State.stackLimits_setFrames]; rfl
  · rw [State.stackBytes_setFrames]; rfl
  · refine ⟨?_, Nat.le_refl _, Nat.le_refl _, ?_, ?_, fun a c9 h9 => ⟨c9, h9, rfl, rfl, fun _ _ => rfl⟩⟩
    · obtain ⟨t, ht, -⟩ := State.frames_cons hr
      show T.setVm s.vm = { ((T.setVm s.vm).setFrames (.invoking m args :: below)).setFrames (T.setVm s.vm).frames with heap := T.heap, slotsUsed := T.slotsUsed }
      rw [State.setFrames_setFrames, State.setFrames_self ht]
      rfl
    · show T.slotsUsed = T.slotsUsed + ((T.heap.toList.drop T.heap.size).map (·.slots.size)).sum
      rw [List.drop_eq_nil_of_le (Nat.le_of_eq Array.length_toList)]
      rfl
    · show ((T.heap.toList.drop T.heap.size).map (·.slots.size)).sum ≤ 0
      rw [List.drop_eq_nil_of_le (Nat.le_of_eq Array.length_toList)]
      exact Nat.le_refl _
/-- 'throw new E()': new; dup; invokespecial; athrow -/
theorem vx_throw0 {cc : ByteArray} {pc : Nat} (hexec : p.tables.exec = Jvm.exec) (hb : c.code = cc) (hl : l.stackTraces = false) {own cls : String} {names : List String} {ik ic mc ms : Nat} {A : Nat → Prop}
    (hown : s.vm.findClass own = some m.cls) (hcls : Bundle.fit cls = true) (hnames : ∀ n ∈ names, Bundle.fit n = true)
    (hk : (Cond.classLink own ik cls).before args s = true) (hini : (Cond.initialized cls).before args s = true) (hat : ∀ w ∈ vx_at0 own ic cls names, w.before args s = true)
    (hgood : ∀ w ∈ Cond.classLink own ik cls :: Cond.initialized cls :: vx_at0 own ic cls names, vx_ot w = true)
    (hU : vx_Zq Bundle.tN "UNASSIGNED_STACK" Bundle.steD A s s.heap) (hN : vx_Zq Bundle.tN "SUPPRESSED_SENTINEL" Bundle.listD A s s.heap) (hS : va_S A s.heap H locs) (hsize : ls.size = c.maxLocals)
    (d0 : decode cc pc = .ok (.new ik, 3)) (d3 : decode cc (pc + 3) = .ok (.dup, 1)) (d4 : decode cc (pc + 4) = .ok (.invokespecial ic, 3)) (d7 : decode cc (pc + 7) = .ok (.athrow, 1))
    (hout : ∀ x ∈ c.exceptionTable.toList, covers x (pc + 7) = false)
    (hRframes : names.length + 3 < R.frames) (hRlocals : (rest.map fun v => v.category).sum + (13 * (names.length + 1) + 42) ≤ R.locals) (hRcells : cells + 1 ≤ R.cells) (hRslots : slots + 6 ≤ R.slots) (hlocks : meth.locks = false)
    (hx : ∀ t : State, s.vm.Alike t.vm → H.size ≤ t.heap.size → (∀ q : Nat, q < H.size → t.heap[q]? = H[q]?) → XC cls s t)
    (hf : ∀ z ∈ locs, free z.base) (hc : cells + 1 ≤ mc) (hs : slots + 6 ≤ ms) :
    W p l e R s m args below meth c H locs cells slots (vx_MQ below Qc XC args s mc ms free) (F0 m pc ls rest) := by
  intro T hT X
  have htr : e.platform.stackTraces = false := (show e.platform.stackTraces = l.stackTraces by rw [X.admits.platform]).trans hl
  have Y := vx_rebase X (R' := { frames := R.frames, locals := R.locals, cells := 1, slots := 6 }) (Nat.le_refl _) (Nat.le_refl _) hRcells hRslots
  obtain ⟨s', hA⟩ : ∃ z, z = (T.setVm s.vm).setFrames (.invoking m args :: below) := ⟨_, rfl⟩
  rw [← hA] at Y
  have hvm : s'.vm = s.vm := by rw [hA]; rfl
  have hhp : s'.heap = H := by rw [hA]; exact hT
  have hW0 : s.WarmedH s'.vm := by rw [hvm]; exact State.WarmedH.refl s
  have hat' : ∀ w ∈ vx_at0 own ic cls names, w.before args s' = true := fun w hw => vx_ot_at hW0 hvm.symm (hgood w (List.mem_cons_of_mem _ (List.mem_cons_of_mem _ hw))) (hat w hw)
  have hk' : (Cond.classLink own ik cls).before args s' = true := vx_ot_at hW0 hvm.symm (hgood _ List.mem_cons_self) hk
  have hini' : (Cond.initialized cls).before args s' = true := vx_ot_at hW0 hvm.symm (hgood _ (List.mem_cons_of_mem _ List.mem_cons_self)) hini
  have hU' : vx_Zq Bundle.tN "UNASSIGNED_STACK" Bundle.steD A s' s'.heap := by rw [hhp]; exact vx_Zq.moved hW0.alike (hU.kept hS.2.1)
  have hN' : vx_Zq Bundle.tN "SUPPRESSED_SENTINEL" Bundle.listD A s' s'.heap := by rw [hhp]; exact vx_Zq.moved hW0.alike (hN.kept hS.2.1)
  have h : ∀ w ∈ Bundle.ownAtoms0 own ic cls names, w.before args s' = true := vx_own hat' (vx_isRefq hU'.1) (vx_isRefq hN'.1) hU'.2.word hN'.2.word
  have hown' : s'.vm.findClass own = some m.cls := by rw [hvm]; exact hown
  have hins : (Cond.instantiable cls 6).before args s' = true := h _ (by simp [Bundle.ownAtoms0])
  obtain ⟨vm₁, cX, kX, hfX, hkX, -, -, X₁, st1⟩ := Y.newCold hexec (own := own) (C := cls) (index := ik) (n := 6) hown' hk' hins hini'
    (g := F0 m pc ls rest) rfl (by rw [hb]; exact d0) (Nat.le_refl _) (Nat.le_refl _)
  generalize hT1 : (T.setVm vm₁).pushCell { cls := cX, slots := kX.instanceTypes.map defaultValue, vm := .none } = T1 at X₁ st1
  have hcat : (Value.ref T.heap.size).category = 1 := rfl
  have hcellA : T1.heap[T.heap.size]? = some (freshCell cX kX) := by rw [← hT1]; exact State.heap_pushCell_size _ _
  have d3' : decode c.code (pc + 3) = .ok (.dup, 1) := by rw [hb]; exact d3
  obtain ⟨U, hsteps, hrun, hend, hW, hsame, ce, hce, hO⟩ := X₁.ctorThrow0 hexec htr (own := own) (cls := cls) (names := names) (ic := ic) hown' hcls hnames h (fun x hx => nomatch hx) hfX hkX hcellA (by rw [hhp, hT]; exact Nat.le_refl _)
    (g := { method := m, pc := pc + 4, locals := ls, stack := .ref T.heap.size :: .ref T.heap.size :: rest, locked := none }) rfl hsize rfl rfl (rest := rest) rfl
    (by rw [hb]; exact d4) (by rw [hb]; exact d7) hout hRframes (by simp only [List.map_cons, List.sum_cons, hcat]; omega) hlocks
  obtain ⟨f1, f2⟩ := vx_frame hsame
  rw [hhp] at f1 f2
  have hWs : s.WarmedH U.vm := State.WarmedH.trans hW0 hW
  have hcl : s.vm.findClass cls = some ce.cls := by
    have h9 := hO.cls
    rw [hvm] at h9
    exact h9
  have hall : s.sameButNew ({ U with vm := s.vm } : State) locs mc ms := by
    subst hA
    obtain ⟨e1, e2⟩ := hsame
    rw [State.setFrames_setFrames] at e1
    have h2 : (T.setVm s.vm).sameButNew ({ U with vm := s.vm } : State) [] (0 + 1) (0 + 6) := ⟨e1, e2⟩
    have h3 := X.same.trans h2
    rw [List.append_nil] at h3
    exact h3.mono hc hs
  refine ⟨U, ?_, .threw T.heap.size, hrun, hend, Or.inr ⟨T.heap.size, rfl, cls, ce, locs, hx U hWs.alike f1 (fun q hq => f2 q hq (fun z hz => nomatch hz)), hce, hO.vm, hcl, hWs, hall, hf⟩⟩
  refine st1 _ ?_
  show Steps p.tables e below (T1.setTop { method := m, pc := pc + 3, locals := ls, stack := .ref T.heap.size :: rest, locked := none }) _
  jvm_step X₁.here [X₁.here.top, hexec, d3', Value.category]
  exact hsteps
/-- 'throw new E("text")': new; dup; ldc; invokespecial; athrow -/
theorem vx_throwS {cc : ByteArray} {pc : Nat} (hexec : p.tables.exec = Jvm.exec) (hb : c.code = cc) (hl : l.stackTraces = false) {own cls text : String} {names : List String} {ik is ic mc ms sa : Nat} {A : Nat → Prop}
    (hown : s.vm.findClass own = some m.cls) (hcls : Bundle.fit cls = true) (hnames : ∀ n ∈ names, Bundle.fit n = true)
    (hk : (Cond.classLink own ik cls).before args s = true) (hini : (Cond.initialized cls).before args s = true) (hstr : vk_R own is text sa s) (hat : ∀ w ∈ vx_atS own ic cls names, w.before args s = true)
    (hgood : ∀ w ∈ Cond.classLink own ik cls :: Cond.initialized cls :: vx_atS own ic cls names, vx_ot w = true)
    (hU : vx_Zq Bundle.tN "UNASSIGNED_STACK" Bundle.steD A s s.heap) (hN : vx_Zq Bundle.tN "SUPPRESSED_SENTINEL" Bundle.listD A s s.heap) (hS : va_S A s.heap H locs) (hsize : ls.size = c.maxLocals)
    (d0 : decode cc pc = .ok (.new ik, 3)) (d3 : decode cc (pc + 3) = .ok (.dup, 1)) (d4 : decode cc (pc + 4) = .ok (.ldc is, 2)) (d6 : decode cc (pc + 6) = .ok (.invokespecial ic, 3)) (d9 : decode cc (pc + 9) = .ok (.athrow, 1))
    (hout : ∀ x ∈ c.exceptionTable.toList, covers x (pc + 9) = false)
    (hRframes : names.length + 3 < R.frames) (hRlocals : (rest.map fun v => v.category).sum + (13 * (names.length + 1) + 43) ≤ R.locals) (hRcells : cells + 1 ≤ R.cells) (hRslots : slots + 6 ≤ R.slots) (hlocks : meth.locks = false)
    (hx : ∀ t : State, s.vm.Alike t.vm → H.size ≤ t.heap.size → (∀ q : Nat, q < H.size → t.heap[q]? = H[q]?) → XC cls s t)
    (hf : ∀ z ∈ locs, free z.base) (hc : cells + 1 ≤ mc) (hs : slots + 6 ≤ ms) :
    W p l e R s m args below meth c H locs cells slots (vx_MQ below Qc XC args s mc ms free) (F0 m pc ls rest) := by
  intro T hT X
  have htr : e.platform.stackTraces = false := (show e.platform.stackTraces = l.stackTraces by rw [X.admits.platform]).trans hl
  have Y := vx_rebase X (R' := { frames := R.frames, locals := R.locals, cells := 1, slots := 6 }) (Nat.le_refl _) (Nat.le_refl _) hRcells hRslots
  obtain ⟨s', hA⟩ : ∃ z, z = (T.setVm s.vm).setFrames (.invoking m args :: below) := ⟨_, rfl⟩
  rw [← hA] at Y
  have hvm : s'.vm = s.vm := by rw [hA]; rfl
  have hhp : s'.heap = H := by rw [hA]; exact hT
  have hW0 : s.WarmedH s'.vm := by rw [hvm]; exact State.WarmedH.refl s
  have hat' : ∀ w ∈ vx_atS own ic cls names, w.before args s' = true := fun w hw => vx_ot_at hW0 hvm.symm (hgood w (List.mem_cons_of_mem _ (List.mem_cons_of_mem _ hw))) (hat w hw)
  have hk' : (Cond.classLink own ik cls).before args s' = true := vx_ot_at hW0 hvm.symm (hgood _ List.mem_cons_self) hk
  have hini' : (Cond.initialized cls).before args s' = true := vx_ot_at hW0 hvm.symm (hgood _ (List.mem_cons_of_mem _ List.mem_cons_self)) hini
  have hU' : vx_Zq Bundle.tN "UNASSIGNED_STACK" Bundle.steD A s' s'.heap := by rw [hhp]; exact vx_Zq.moved hW0.alike (hU.kept hS.2.1)
  have hN' : vx_Zq Bundle.tN "SUPPRESSED_SENTINEL" Bundle.listD A s' s'.heap := by rw [hhp]; exact vx_Zq.moved hW0.alike (hN.kept hS.2.1)
  have h : ∀ w ∈ Bundle.ownAtoms own ic cls names, w.before args s' = true := vx_own hat' (vx_isRefq hU'.1) (vx_isRefq hN'.1) hU'.2.word hN'.2.word
  have hown' : s'.vm.findClass own = some m.cls := by rw [hvm]; exact hown
  have hins : (Cond.instantiable cls 6).before args s' = true := h _ (by simp [Bundle.ownAtoms])
  obtain ⟨vm₁, cX, kX, hfX, hkX, -, -, X₁, st1⟩ := Y.newCold hexec (own := own) (C := cls) (index := ik) (n := 6) hown' hk' hins hini'
    (g := F0 m pc ls rest) rfl (by rw [hb]; exact d0) (Nat.le_refl _) (Nat.le_refl _)
  generalize hT1 : (T.setVm vm₁).pushCell { cls := cX, slots := kX.instanceTypes.map defaultValue, vm := .none } = T1 at X₁ st1
  have hcat : (Value.ref T.heap.size).category = 1 := rfl
  have hcellA : T1.heap[T.heap.size]? = some (freshCell cX kX) := by rw [← hT1]; exact State.heap_pushCell_size _ _
  have d3' : decode c.code (pc + 3) = .ok (.dup, 1) := by rw [hb]; exact d3
  have d4' : decode c.code (pc + 4) = .ok (.ldc is, 2) := by rw [hb]; exact d4
  have hstr' : vk_R own is text sa s' := vk_R.warm hW0 hstr
  obtain ⟨U, hsteps, hrun, hend, hW, hsame, ce, hce, hO⟩ := X₁.ctorThrowS hexec htr (own := own) (cls := cls) (names := names) (ic := ic) hown' hcls hnames h (fun x hx => nomatch hx) hfX hkX hcellA (by rw [hhp, hT]; exact Nat.le_refl _) (msg := .ref sa) rfl
    (g := { method := m, pc := pc + 6, locals := ls, stack := .ref sa :: .ref T.heap.size :: .ref T.heap.size :: rest, locked := none }) rfl hsize rfl rfl (rest := rest) rfl
    (by rw [hb]; exact d6) (by rw [hb]; exact d9) hout hRframes (by simp only [List.map_cons, List.sum_cons, hcat]; omega) hlocks
  obtain ⟨f1, f2⟩ := vx_frame hsame
  rw [hhp] at f1 f2
  have hWs : s.WarmedH U.vm := State.WarmedH.trans hW0 hW
  have hcl : s.vm.findClass cls = some ce.cls := by
    have h9 := hO.cls
    rw [hvm] at h9
    exact h9
  have hall : s.sameButNew ({ U with vm := s.vm } : State) locs mc ms := by
    subst hA
    obtain ⟨e1, e2⟩ := hsame
    rw [State.setFrames_setFrames] at e1
    have h2 : (T.setVm s.vm).sameButNew ({ U with vm := s.vm } : State) [] (0 + 1) (0 + 6) := ⟨e1, e2⟩
    have h3 := X.same.trans h2
    rw [List.append_nil] at h3
    exact h3.mono hc hs
  refine ⟨U, ?_, .threw T.heap.size, hrun, hend, Or.inr ⟨T.heap.size, rfl, cls, ce, locs, hx U hWs.alike f1 (fun q hq => f2 q hq (fun z hz => nomatch hz)), hce, hO.vm, hcl, hWs, hall, hf⟩⟩
  refine st1 _ ?_
  show Steps p.tables e below (T1.setTop { method := m, pc := pc + 3, locals := ls, stack := .ref T.heap.size :: rest, locked := none }) _
  jvm_step X₁.here [X₁.here.top, hexec, d3', Value.category]
  exact X₁.ldcString hexec (own := own) (text := text) (index := is) (a := sa) hown' hstr'.1 hstr'.2
    (g := { method := m, pc := pc + 4, locals := ls, stack := .ref T.heap.size :: .ref T.heap.size :: rest, locked := none }) rfl d4' _ hsteps
/-- 'throw new E("text")', the text by a wide index -/
theorem vx_throwSW {cc : ByteArray} {pc : Nat} (hexec : p.tables.exec = Jvm.exec) (hb : c.code = cc) (hl : l.stackTraces = false) {own cls text : String} {names : List String} {ik is ic mc ms sa : Nat} {A : Nat → Prop}
    (hown : s.vm.findClass own = some m.cls) (hcls : Bundle.fit cls = true) (hnames : ∀ n ∈ names, Bundle.fit n = true)
    (hk : (Cond.classLink own ik cls).before args s = true) (hini : (Cond.initialized cls).before args s = true) (hstr : vk_R own is text sa s) (hat : ∀ w ∈ vx_atS own ic cls names, w.before args s = true)
    (hgood : ∀ w ∈ Cond.classLink own ik cls :: Cond.initialized cls :: vx_atS own ic cls names, vx_ot w = true)
    (hU : vx_Zq Bundle.tN "UNASSIGNED_STACK" Bundle.steD A s s.heap) (hN : vx_Zq Bundle.tN "SUPPRESSED_SENTINEL" Bundle.listD A s s.heap) (hS : va_S A s.heap H locs) (hsize : ls.size = c.maxLocals)
    (d0 : decode cc pc = .ok (.new ik, 3)) (d3 : decode cc (pc + 3) = .ok (.dup, 1)) (d4 : decode cc (pc + 4) = .ok (.ldc_w is, 3)) (d7 : decode cc (pc + 7) = .ok (.invokespecial ic, 3)) (d10 : decode cc (pc + 10) = .ok (.athrow, 1))
    (hout : ∀ x ∈ c.exceptionTable.toList, covers x (pc + 10) = false)
    (hRframes : names.length + 3 < R.frames) (hRlocals : (rest.map fun v => v.category).sum + (13 * (names.length + 1) + 43) ≤ R.locals) (hRcells : cells + 1 ≤ R.cells) (hRslots : slots + 6 ≤ R.slots) (hlocks : meth.locks = false)
    (hx : ∀ t : State, s.vm.Alike t.vm → H.size ≤ t.heap.size → (∀ q : Nat, q < H.size → t.heap[q]? = H[q]?) → XC cls s t)
    (hf : ∀ z ∈ locs, free z.base) (hc : cells + 1 ≤ mc) (hs : slots + 6 ≤ ms) :
    W p l e R s m args below meth c H locs cells slots (vx_MQ below Qc XC args s mc ms free) (F0 m pc ls rest) := by
  intro T hT X
  have htr : e.platform.stackTraces = false := (show e.platform.stackTraces = l.stackTraces by rw [X.admits.platform]).trans hl
  have Y := vx_rebase X (R' := { frames := R.frames, locals := R.locals, cells := 1, slots := 6 }) (Nat.le_refl _) (Nat.le_refl _) hRcells hRslots
  obtain ⟨s', hA⟩ : ∃ z, z = (T.setVm s.vm).setFrames (.invoking m args :: below) := ⟨_, rfl⟩
  rw [← hA] at Y
  have hvm : s'.vm = s.vm := by rw [hA]; rfl
  have hhp : s'.heap = H := by rw [hA]; exact hT
  have hW0 : s.WarmedH s'.vm := by rw [hvm]; exact State.WarmedH.refl s
  have hat' : ∀ w ∈ vx_atS own ic cls names, w.before args s' = true := fun w hw => vx_ot_at hW0 hvm.symm (hgood w (List.mem_cons_of_mem _ (List.mem_cons_of_mem _ hw))) (hat w hw)
  have hk' : (Cond.classLink own ik cls).before args s' = true := vx_ot_at hW0 hvm.symm (hgood _ List.mem_cons_self) hk
  have hini' : (Cond.initialized cls).before args s' = true := vx_ot_at hW0 hvm.symm (hgood _ (List.mem_cons_of_mem _ List.mem_cons_self)) hini
  have hU' : vx_Zq Bundle.tN "UNASSIGNED_STACK" Bundle.steD A s' s'.heap := by rw [hhp]; exact vx_Zq.moved hW0.alike (hU.kept hS.2.1)
  have hN' : vx_Zq Bundle.tN "SUPPRESSED_SENTINEL" Bundle.listD A s' s'.heap := by rw [hhp]; exact vx_Zq.moved hW0.alike (hN.kept hS.2.1)
  have h : ∀ w ∈ Bundle.ownAtoms own ic cls names, w.before args s' = true := vx_own hat' (vx_isRefq hU'.1) (vx_isRefq hN'.1) hU'.2.word hN'.2.word
  have hown' : s'.vm.findClass own = some m.cls := by rw [hvm]; exact hown
  have hins : (Cond.instantiable cls 6).before args s' = true := h _ (by simp [Bundle.ownAtoms])
  obtain ⟨vm₁, cX, kX, hfX, hkX, -, -, X₁, st1⟩ := Y.newCold hexec (own := own) (C := cls) (index := ik) (n := 6) hown' hk' hins hini'
    (g := F0 m pc ls rest) rfl (by rw [hb]; exact d0) (Nat.le_refl _) (Nat.le_refl _)
  generalize hT1 : (T.setVm vm₁).pushCell { cls := cX, slots := kX.instanceTypes.map defaultValue, vm := .none } = T1 at X₁ st1
  have hcat : (Value.ref T.heap.size).category = 1 := rfl
  have hcellA : T1.heap[T.heap.size]? = some (freshCell cX kX) := by rw [← hT1]; exact State.heap_pushCell_size _ _
  have d3' : decode c.code (pc + 3) = .ok (.dup, 1) := by rw [hb]; exact d3
  have d4' : decode c.code (pc + 4) = .ok (.ldc_w is, 3) := by rw [hb]; exact d4
  have hstr' : vk_R own is text sa s' := vk_R.warm hW0 hstr
  obtain ⟨U, hsteps, hrun, hend, hW, hsame, ce, hce, hO⟩ := X₁.ctorThrowS hexec htr (own := own) (cls := cls) (names := names) (ic := ic) hown' hcls hnames h (fun x hx => nomatch hx) hfX hkX hcellA (by rw [hhp, hT]; exact Nat.le_refl _) (msg := .ref sa) rfl
    (g := { method := m, pc := pc + 7, locals := ls, stack := .ref sa :: .ref T.heap.size :: .ref T.heap.size :: rest, locked := none }) rfl hsize rfl rfl (rest := rest) rfl
    (by rw [hb]; exact d7) (by rw [hb]; exact d10) hout hRframes (by simp only [List.map_cons, List.sum_cons, hcat]; omega) hlocks
  obtain ⟨f1, f2⟩ := vx_frame hsame
  rw [hhp] at f1 f2
  have hWs : s.WarmedH U.vm := State.WarmedH.trans hW0 hW
  have hcl : s.vm.findClass cls = some ce.cls := by
    have h9 := hO.cls
    rw [hvm] at h9
    exact h9
  have hall : s.sameButNew ({ U with vm := s.vm } : State) locs mc ms := by
    subst hA
    obtain ⟨e1, e2⟩ := hsame
    rw [State.setFrames_setFrames] at e1
    have h2 : (T.setVm s.vm).sameButNew ({ U with vm := s.vm } : State) [] (0 + 1) (0 + 6) := ⟨e1, e2⟩
    have h3 := X.same.trans h2
    rw [List.append_nil] at h3
    exact h3.mono hc hs
  refine ⟨U, ?_, .threw T.heap.size, hrun, hend, Or.inr ⟨T.heap.size, rfl, cls, ce, locs, hx U hWs.alike f1 (fun q hq => f2 q hq (fun z hz => nomatch hz)), hce, hO.vm, hcl, hWs, hall, hf⟩⟩
  refine st1 _ ?_
  show Steps p.tables e below (T1.setTop { method := m, pc := pc + 3, locals := ls, stack := .ref T.heap.size :: rest, locked := none }) _
  jvm_step X₁.here [X₁.here.top, hexec, d3', Value.category]
  exact X₁.ldcStringW hexec (own := own) (text := text) (index := is) (a := sa) hown' hstr'.1 hstr'.2
    (g := { method := m, pc := pc + 4, locals := ls, stack := .ref T.heap.size :: .ref T.heap.size :: rest, locked := none }) rfl d4' _ hsteps
end Ends
section Bodies
variable {l : Launch}
theorem vx_ofW {y : MethodName} {ws ws' : List Cond} {rm : Room} {Pc : Array Value → State → Prop} {Qc : Array Value → State → Outcome → State → Prop} {XC : String → State → State → Prop} {mc ms : Nat} {free : Addr → Prop} {cc : ByteArray} {maxL : Nat} {ret : Option FieldType}
    (hy : plainName y.cls = true) (hw : ws = Cond.code y cc maxL ret :: ws')
    (body : ∀ p e s m args below meth c s₁, BodyLoose p l y (headSpec ws rm) cc maxL ret e s m args below meth c s₁ → c.maxLocals = maxL → (∀ x ∈ c.exceptionTable.toList, False) → Pc args s →
      W p l e (headSpec ws rm).room s m args below meth c s.heap [] 0 0 (vx_MQ below Qc XC args s mc ms free) (entryFrame m args maxL)) : vx_Met l y ws rm Pc Qc XC mc ms free := by
  refine MetFree.of_bodyS (code := cc) (maxLocals := maxL) (ret := ret) hy ?_ ?_
  · intro args s m h hn
    obtain ⟨meth, c, h1, h2, h3, h4, h5, h6, -, -⟩ := Cond.code_spec hn (atoms_spec (ws := ws) h _ (by rw [hw]; exact List.mem_cons_self))
    exact ⟨meth, c, h1, h2, h3, h4, h5, h6⟩
  · intro p e s m args below meth c s₁ B hml hP _
    have hh0 : s₁.heap = s.heap := by rw [B.state]; rfl
    have ht : ∀ x ∈ c.exceptionTable.toList, False := by
      obtain ⟨meth9, c9, h1, h2, -, -, -, -, h7, -⟩ := Cond.code_spec B.named (atoms_spec (ws := ws) B.pre _ (by rw [hw]; exact List.mem_cons_self))
      cases Option.some.inj (h1.symm.trans B.method)
      cases Option.some.inj (h2.symm.trans (Stand.of_body B).code)
      intro x hx
      rw [Array.isEmpty_iff.mp h7] at hx
      cases hx
    obtain ⟨t, a1, o, b1, b2, b3⟩ := body p e s m args below meth c s₁ B hml ht hP s₁ hh0 (Stand.of_body B)
    exact ⟨t, o, a1, b1, b2, b3⟩
/-- the table of a body with handlers -/
theorem vx_table {p : Program} {x y : MethodName} {S : Spec} {cc bytes : ByteArray} {maxL maxL' : Nat} {ret ret' : Option FieldType} {e : Env} {s s₁ : State} {m : MethodId} {args : Array Value} {below : List Frame} {meth : Method} {c : Code} {hh : List (Nat × Nat × Nat × Nat)}
    (B : BodyLoose p l y S cc maxL ret e s m args below meth c s₁) (h : (Cond.codeWith y bytes maxL' ret' hh).before args s = true) : c.exceptionTable.toList = tableOf hh := by
  obtain ⟨m9, meth9, c9, hn9, h1, h2, -, -, h6, -⟩ := Cond.codeWith_spec h
  cases Option.some.inj (hn9.symm.trans B.named)
  cases Option.some.inj (h1.symm.trans B.method)
  cases Option.some.inj (h2.symm.trans (Stand.of_body B).code)
  rw [← h6, table_eq]
end Bodies
end VXA
/-! ===== END ===== -/
/-! ===== BEGIN a static call of a method with an exception table ===== -/
section VXS
variable {p : Program} {l : Launch} {e : Env} {R : Room} {s : State} {m : MethodId} {args : Array Value} {below : List Frame} {meth : Method} {c : Code} {T : State} {H : Heap} {locs : List Loc} {cells slots : Nat}
abbrev vx_CSW (R : Room) (s : State) (args : Array Value) (own : String) (index : Nat) (y : MethodName) (bytes : ByteArray) (maxL : Nat) (ret : Option FieldType) (hh : List (Nat × Nat × Nat × Nat)) (ws : List Cond) (rm : Room) (mc ms n : Nat) : Prop :=
  (rm.cells = mc ∧ rm.slots = ms ∧ rm.frames + 1 ≤ R.frames ∧ 8 + (maxL + 11) + rm.locals ≤ R.locals ∧ (∀ w ∈ ws, ∀ (a' : Array Value) (U : State), s.WarmedH U.vm → w.before a' U = true) ∧ Cond.codeWith y bytes maxL ret hh ∈ ws) ∧
  (Cond.codeWith y bytes maxL ret hh).before args s = true ∧ (Cond.initialized y.cls).before args s = true ∧ (y.cls ≠ "java/lang/invoke/MethodHandle" ∧ y.cls ≠ "java/lang/invoke/VarHandle") ∧
  (∀ sig, parseMethodDescriptor y.desc = some sig → n = sig.parameters.length) ∧ (Cond.methodLink own index y).before args s = true ∧ (Cond.static y).before args s = true
theorem vx_cwSW {own : String} {index maxL mc ms : Nat} {y : MethodName} {bytes : ByteArray} {ret : Option FieldType} {hh : List (Nat × Nat × Nat × Nat)} {Ts ws ws' : List Cond} {rm : Room} (n : Nat) (ht : ∀ w ∈ Ts, w.before args s = true) (hT : GoodIn Ts (va_wsS own index y ws)) (hw : ws = Cond.codeWith y bytes maxL ret hh :: ws') (hrc : rm.cells = mc) (hrs : rm.slots = ms)
    (hd : y.cls ≠ "java/lang/invoke/MethodHandle" ∧ y.cls ≠ "java/lang/invoke/VarHandle" ∧ (parseMethodDescriptor y.desc).map (fun d => d.parameters.length) = some n) (hR : rm.frames + 1 ≤ R.frames ∧ 8 + (maxL + 11) + rm.locals ≤ R.locals) :
    vx_CSW R s args own index y bytes maxL ret hh ws rm mc ms n := by
  have ok : ∀ w ∈ va_wsS own index y ws, w.before args s = true := fun w h => ht w (hT w h).1
  have hG : GoodIn Ts ws := fun w h => hT w (by unfold va_wsS; exact List.mem_append_right _ h)
  have hc : Cond.codeWith y bytes maxL ret hh ∈ ws := by rw [hw]; exact List.mem_cons_self
  refine ⟨⟨hrc, hrs, hR.1, hR.2, pay_in ht hG, hc⟩, ht _ (hG _ hc).1, ok _ (by simp [va_wsS]), ⟨hd.1, hd.2.1⟩, fun sig h => ?_, ok _ (by simp [va_wsS]), ok _ (by simp [va_wsS])⟩
  have h2 := hd.2.2
  rw [h] at h2
  exact (Option.some.inj h2).symm
theorem vx_callSW (X : Stand p l e R s m args below meth c T locs cells slots) (hexec : p.tables.exec = Jvm.exec) {own : String} {index : Nat} {y : MethodName} {bytes : ByteArray} {maxL : Nat} {ret : Option FieldType} {hh : List (Nat × Nat × Nat × Nat)}
    (hown : s.vm.findClass own = some m.cls) (hlink : (Cond.methodLink own index y).before args s = true) (hstat : (Cond.static y).before args s = true) (hinit : (Cond.initialized y.cls).before args s = true)
    (hcode : (Cond.codeWith y bytes maxL ret hh).before args s = true) (hy : y.cls ≠ "java/lang/invoke/MethodHandle" ∧ y.cls ≠ "java/lang/invoke/VarHandle")
    {W9 : Nat} {Pre : Pt → Array Value → Prop} {Post : Pt → Array Value → Option Value → Pt → Prop} (hK : Back l R p e below s args y 3 W9 Pre Post)
    {g : JFrame} (hg : g.method = m) (hsize : g.locals.size = c.maxLocals) {argsL rest : List Value} (hlen : ∀ sig, parseMethodDescriptor y.desc = some sig → argsL.length = sig.parameters.length)
    (hstack : g.stack = argsL.reverse ++ rest) (hW : 2 * g.monitorRoom + (rest.map fun v => v.category).sum ≤ W9) (hdg : decode c.code g.pc = .ok (.invokestatic index, 3))
    (hpre : ∀ vm₁, s.WarmedH vm₁ → Pre ⟨T.setVm vm₁, locs, cells, slots⟩ argsL.toArray) :
    ∃ (v : Option Value) (vm₁ : Vm) (B : Pt), s.WarmedH vm₁ ∧ Stand p l e R s m args below meth c B.U B.locs B.cells B.slots ∧ Post ⟨T.setVm vm₁, locs, cells, slots⟩ argsL.toArray v B ∧
      ∀ target, Steps p.tables e below (B.U.setTop { g with pc := g.pc + 3, stack := v.toList ++ rest }) target → Steps p.tables e below (T.setTop g) target := by
  obtain ⟨mk, methM, cM, hnamed, hmethM, -, -, -, -, -, -, hsigM⟩ := Cond.codeWith_spec hcode
  have hstatic : methM.isStatic = true := Cond.static_spec hnamed hmethM hstat
  obtain ⟨kP, hkP, -⟩ := className_of_methodNamed hnamed
  have hinitP : kP.init = .initialized := Cond.initialized_spec (findClass_of_methodNamed hnamed) hkP hinit
  obtain ⟨vm₁, X₁, hstep₁⟩ := X.invokestatic hexec hown hlink hnamed hmethM hstatic hkP hinitP hy (g := g) hg (argsL := argsL) (rest := rest) (hlen _ hsigM) hstack hdg
  obtain ⟨v, B, X', hpost, hsteps⟩ := hK m meth c ⟨T.setVm vm₁, locs, cells, slots⟩ { g with stack := rest } (.invokestatic index) mk argsL.toArray X₁ hg hsize hdg hW (X₁.named hnamed) (hpre vm₁ X₁.warmed)
  exact ⟨v, vm₁, B, X₁.warmed, X', hpost, fun target h => hstep₁ _ fun acts => by rw [doInvoke_state]; exact hsteps.trans h⟩
theorem vx_runSW {y : MethodName} {bytes cc : ByteArray} {maxL nL mc ms n index : Nat} {ret : Option FieldType} {hh : List (Nat × Nat × Nat × Nat)} {ws : List Cond} {rm : Room} {Pc : Array Value → State → Prop} {Qc : Array Value → State → Outcome → State → Prop} {free : Addr → Prop} {Ts : List Cond} {own : String} {As rest : List Value} {g : JFrame}
    (S : CallFix p m c cc nL s args Ts own) (hM : Met l y ws rm Pc Qc mc ms free) (cw : vx_CSW R s args own index y bytes maxL ret hh ws rm mc ms n) (hp : PreS s H Pc As)
    (hg : g.method = m) (hn : As.length = n) (hsize : g.locals.size = nL) (hstack : g.stack = As.reverse ++ rest) (hW : 2 * g.monitorRoom + (rest.map fun v => v.category).sum ≤ 8) (hdg : decode cc g.pc = .ok (.invokestatic index, 3)) (hf : cells + mc ≤ R.cells ∧ slots + ms ≤ R.slots) :
    va_Run p l e R s m args below meth c H locs cells slots mc ms g rest (Qc As.toArray) (free) := by
  obtain ⟨⟨hrc, hrs, hfr, hlo, hws, hcw⟩, hcode, hini, hy, hlen, hl, hstt⟩ := cw
  have hK : Back l R p e below s args y 3 8 (PreOf R mc ms Pc) (PostOf Qc mc ms free) := va_backW (hh := hh) (bytes := bytes) (maxL := maxL) (ret := ret) hM hp.1 hrc hrs hfr hlo hws hcw (fun a' U hW => word_at hW (Or.inl (by first | rfl | simp [Cond.onTables, Cond.keeps, Cond.steady])) hini)
  obtain ⟨hx, hb, hml, ho, -⟩ := S
  intro T hT X
  obtain ⟨v, vm₁, ⟨U', l2, c2, s2⟩, hW₁, X', ⟨g', mk, t, L, e1, e2, hq, h1, hL, h2, h3⟩, st⟩ := vx_callSW X hx (hh := hh) (bytes := bytes) (maxL := maxL) (ret := ret) ho hl hstt hini hcode hy hK hg (hsize.trans hml.symm) (argsL := As) (rest := rest) (fun sig h => hn.trans (hlen sig h)) hstack hW (by rw [hb]; exact hdg)
    (fun vm₁ hW₁ => ⟨hf.1, hf.2, hp.2 (T.setVm vm₁) hT hW₁⟩)
  dsimp only [Pt.U, Pt.locs, Pt.cells, Pt.slots] at X' e1 e2 h1 h2 h3 st
  subst h1; subst h2; subst h3
  exact ⟨v, (T.setVm vm₁).calling g' mk As.toArray, t, U', L, hT, X', hL, e1, e2, hq, st⟩
/-- not caught here, past rows that name other classes: it goes on to the caller -/
theorem vx_outP {p : Program} {l : Launch} {e : Env} {R : Room} {s : State} {m : MethodId} {args : Array Value} {below : List Frame} {meth : Method} {c : Code} {H : Heap} {locs : List Loc} {cells slots : Nat} {free : Addr → Prop} {ls : Array Slot} {rest : List Value} {Qc : Array Value → State → Outcome → State → Prop} {XC : String → State → State → Prop}
    {pc : Nat} {own E : String} {ce : Cell} {q : Addr} {mc ms : Nat} (hown : s.vm.findClass own = some m.cls) (hlocks : meth.locks = false)
    (hpass : ∀ z ∈ c.exceptionTable.toList, covers z pc = false ∨ (z.catchType ≠ 0 ∧ ∃ nm : String, (Cond.classLink own z.catchType nm).before args s = true ∧ va_Nc E nm s)) (hcell : H[q]? = some ce) (hv : ce.vm = .none) (hcl : s.vm.findClass E = some ce.cls)
    (hx : ∀ t : State, t.heap = H → s.vm.Alike t.vm → XC E s t) (hf : ∀ z ∈ locs, free z.base) (hc : cells ≤ mc) (hs : slots ≤ ms) :
    vx_W p l e R s m args below meth c H locs cells slots (vx_MQ below Qc XC args s mc ms free) (F0 m pc ls rest) q := by
  intro T hT X
  have hpl : e.platform.magicAccessors = ({} : Platform).magicAccessors := by rw [X.admits.platform]
  obtain ⟨vm', hW', X', st⟩ := X.outThrough hlocks q (g := F0 m pc ls rest) rfl rfl rfl (cell := ce) (by rw [hT]; exact hcell) (by rw [hv]; rfl)
    (by obtain ⟨k9, h9, -⟩ := Vm.findClass_spec hcl; exact ⟨k9, h9⟩) (fun z hz => by
      rcases hpass z hz with h | ⟨hz0, nm, hl1, hn1⟩
      · exact Or.inl h
      · obtain ⟨c6, hc6, hcl6⟩ := Cond.classLink_spec hown hl1 e.platform hpl
        obtain ⟨a8, b8, h1, h2, h3⟩ := hn1
        cases Option.some.inj (h1.symm.trans hcl)
        cases Option.some.inj (h2.symm.trans hc6)
        exact Or.inr ⟨hz0, _, hcl6, h3⟩)
  obtain ⟨g₀, hfr⟩ := X'.frames_eq
  have hcell9 : ((T.setVm vm').setFrames (.throwing q :: below)).heap[q]? = some ce := by
    show T.heap[q]? = some ce
    rw [hT]; exact hcell
  have hend : Ended ((T.setVm vm').setFrames (.throwing q :: below)) below (.threw q) := State.frames_setFrames _ (State.cur_lt_of_frames hfr)
  refine ⟨(T.setVm vm').setFrames (.throwing q :: below), ?_, .threw q, X'.here.running, hend, Or.inr ⟨q, rfl, E, ce, locs, hx _ hT (X'.ends _).1.alike, hcell9, hv, hcl, (X'.ends _).1, (X'.ends _).2.mono hc hs, hf⟩⟩
  rw [X.pushThrowing_eq]
  exact st
/-- a thing of a world lies in the heap -/
theorem vx_lt {D : va_G} {cl : List vw_C} {ws : va_W} {H1 : Heap} (h : va_P D cl ws H1) {k : Nat} {q : Nat × va_E} (hk : ws[k]? = some q) : q.1 < H1.size := (h k q hk).lt
end VXS
/-! ===== END ===== -/
/-! ===== BEGIN methods with a table of their own: called by a name, returning or throwing ===== -/
section VXH
/-! vx_backW, vx_callVX, vx_callSX, vx_callVW, vx_runVW, vx_runVX, vx_runSX, vx_ofWH follow the same proofs as their sisters above (Free/Laws.lean, Shelf42/LK1.lean); vx_outP calls Shelf42/NT130.lean (outThrough). -/
section
variable {l : Launch} {R : Room} {p : Program} {e : Env} {below : List Frame} {s : State} {sargs : Array Value} {y : MethodName} {len W9 : Nat}
theorem vx_backW {ws : List Cond} {rm : Room} {Pc : Array Value → State → Prop} {Qc : Array Value → State → Outcome → State → Prop} {XC : String → State → State → Prop} {mc ms : Nat} {free : Addr → Prop} {bytes : ByteArray} {maxL : Nat} {ret : Option FieldType} {hh : List (Nat × Nat × Nat × Nat)}
    (hM : vx_Met l y ws rm Pc Qc XC mc ms free) (hblind : FrameBlind Pc) (hrc : rm.cells = mc) (hrs : rm.slots = ms)
    (hframes : rm.frames + 1 ≤ R.frames) (hlocals : W9 + (maxL + 11) + rm.locals ≤ R.locals)
    (hws : ∀ w ∈ ws, ∀ a' U, s.WarmedH U.vm → w.before a' U = true) (hcode : Cond.codeWith y bytes maxL ret hh ∈ ws) (hinit : ∀ a' U, s.WarmedH U.vm → (Cond.initialized y.cls).before a' U = true) :
    vx_Back l R p e below s sargs y len W9 (PreOf R mc ms Pc) (PostOf Qc mc ms free) (vx_Post XC mc ms free) := by
  intro m meth c A g ig mk a X hg hsize hdg hW hn hp
  have h1 : (headSpec ws rm).pre.before a A.U = true := atoms_intro fun w hw => hws w hw _ _ X.warmed
  have h2 : (Cond.codeWith y bytes maxL ret hh).before a A.U = true := hws _ hcode _ _ X.warmed
  have h3 : (Cond.initialized y.cls).before a A.U = true := hinit _ _ X.warmed
  have h4 : A.cells + (headSpec ws rm).room.cells ≤ R.cells := by rw [show (headSpec ws rm).room.cells = mc from hrc]; exact hp.1
  have h5 : A.slots + (headSpec ws rm).room.slots ≤ R.slots := by rw [show (headSpec ws rm).room.slots = ms from hrs]; exact hp.2.1
  have hPc : Pc a (A.U.calling g mk a) := hblind _ _ _ _ hp.2.2
  obtain ⟨U, Ls, c0, s0⟩ := A
  dsimp only [Pt.U, Pt.locs, Pt.cells, Pt.slots] at h1 h2 h3 h4 h5 X hn hPc ⊢
  obtain ⟨m9, methY, cY, hn9, hmY, hcY, -, hlY, -⟩ := Cond.codeWith_spec h2
  cases Option.some.inj (hn9.symm.trans hn)
  obtain ⟨kY, hkY, -⟩ := className_of_methodNamed hn
  have hinitY : kY.init = .initialized := Cond.initialized_spec (findClass_of_methodNamed hn) hkY h3
  have h : At U g.method c below := by rw [hg]; exact X.here
  have hlocals9 : W9 + (maxL + 11) + (headSpec ws rm).room.locals ≤ R.locals := hlocals
  have happ : (headSpec ws rm).appliesLoose y e.platform (U.calling g mk a) = true :=
    Spec.appliesLoose_calling (g := g) h hdg hn hkY hinitY
      (X.room_calling (g := g) (R' := (headSpec ws rm).room) hsize hmY hcY hframes (by rw [hlY]; omega) h4 h5) h1
  obtain ⟨mid, hmid⟩ := h.above
  have hfr : (U.setTop g).frames = (.java g :: mid) ++ below := by rw [State.frames_setTop' g h.top, hmid]; rfl
  obtain ⟨o, s₂, hsteps, -, hend, hq⟩ := Steps.callFree hM p X.admits X.cas X.clock (acts := []) hfr happ hPc trivial
  have hq' : vx_Q Qc XC mc ms free a (U.calling g mk a) o s₂ := hq
  rw [State.frames_setTop' g h.top] at hend
  obtain ⟨g₀, hg0⟩ := Option.isSome_iff_exists.mp h.top
  obtain ⟨r, hr⟩ := State.topJava?_eq_some.mp hg0
  have hr' : (({ U with heap := s₂.heap, slotsUsed := s₂.slotsUsed } : State).setVm s₂.vm).frames = .java g₀ :: r := hr
  rcases hq' with ⟨hqc, L, hfe, hL⟩ | ⟨q, rfl, E, ce, L, hx, hce, hcv, hcl, hW₂, hsm, hL⟩
  · obtain ⟨⟨v, rfl⟩, hW₂, e2, q2, q3, q4, q5, q6⟩ := id hfe
    have e3 : s₂ = ({ (U.calling g mk a).setFrames s₂.frames with heap := s₂.heap, slotsUsed := s₂.slotsUsed } : State).setVm s₂.vm := by
      have : s₂ = ({ s₂ with vm := (U.calling g mk a).vm } : State).setVm s₂.vm := rfl
      rw [e2] at this
      exact this
    obtain ⟨c₂, i₂, len₂, hc₂, hd₂, hf₂⟩ := hend
    have hW' : U.WarmedH s₂.vm := hW₂
    have hcc : c₂ = c := by
      have h1 : s₂.code? g.method = U.code? g.method := by
        rw [State.code?_eq, State.code?_eq, hW'.alike.method?]
      exact Option.some.inj (hc₂.symm.trans (h1.trans h.code))
    subst hcc
    have hlen : len₂ = len := by rw [hdg] at hd₂; cases hd₂; rfl
    subst hlen
    have hs₂ : s₂ = (({ U with heap := s₂.heap, slotsUsed := s₂.slotsUsed } : State).setVm s₂.vm).setTop { g with pc := g.pc + len₂, stack := v.toList ++ g.stack } := by
      refine e3.trans ?_
      rw [hf₂, State.calling_eq h.top, State.setFrames_setFrames, State.setTop_of_frames _ hr', hr]
      rfl
    have hsame : U.sameButNew ({ U with heap := s₂.heap, slotsUsed := s₂.slotsUsed } : State) L mc ms := by
      refine ⟨?_, q2, q3, q4, q5, q6⟩
      obtain ⟨t, ht, -⟩ := State.frames_cons hr
      show ({ U with heap := s₂.heap, slotsUsed := s₂.slotsUsed } : State) = { U.setFrames U.frames with heap := s₂.heap, slotsUsed := s₂.slotsUsed }
      rw [State.setFrames_self ht]
    subst hg
    refine Or.inl ⟨v, ⟨(({ U with heap := s₂.heap, slotsUsed := s₂.slotsUsed } : State).setVm s₂.vm), Ls ++ L, c0 + mc, s0 + ms⟩,
      ⟨X.admits, X.cas, X.clock, X.frames, X.room, X.hears, X.method, X.code, (X.here.setHeapUsed s₂.heap s₂.slotsUsed).setVm hW'.alike, X.tail, State.WarmedH.trans X.warmed hW', X.limits, X.bytes, X.same.trans (hsame.setVm s.vm)⟩,
      ⟨g, mk, s₂, L, rfl, rfl, hqc, rfl, hL, rfl, rfl⟩, ?_⟩
    show Steps p.tables e below _ ((({ U with heap := s₂.heap, slotsUsed := s₂.slotsUsed } : State).setVm s₂.vm).setTop { g with pc := g.pc + len₂, stack := v.toList ++ g.stack })
    rw [← hs₂]
    exact hsteps
  · obtain ⟨e2, q2, q3, q4, q5, q6⟩ := id hsm
    have e3 : s₂ = ({ (U.calling g mk a).setFrames s₂.frames with heap := s₂.heap, slotsUsed := s₂.slotsUsed } : State).setVm s₂.vm := by
      have : s₂ = ({ s₂ with vm := (U.calling g mk a).vm } : State).setVm s₂.vm := rfl
      rw [e2] at this
      exact this
    have hf₂ : s₂.frames = .throwing q :: .java g :: U.frames.tail := hend
    have hW' : U.WarmedH s₂.vm := hW₂
    have hs₂ : s₂ = ((({ U with heap := s₂.heap, slotsUsed := s₂.slotsUsed } : State).setVm s₂.vm).setTop g).pushFrame (.throwing q) := by
      refine e3.trans ?_
      rw [hf₂, State.calling_eq h.top, State.setFrames_setFrames, State.pushFrame, State.frames_setTop _ hr', State.setTop_of_frames _ hr', State.setFrames_setFrames, hr]
      rfl
    have hsame : U.sameButNew ({ U with heap := s₂.heap, slotsUsed := s₂.slotsUsed } : State) L mc ms := by
      refine ⟨?_, q2, q3, q4, q5, q6⟩
      obtain ⟨t, ht, -⟩ := State.frames_cons hr
      show ({ U with heap := s₂.heap, slotsUsed := s₂.slotsUsed } : State) = { U.setFrames U.frames with heap := s₂.heap, slotsUsed := s₂.slotsUsed }
      rw [State.setFrames_self ht]
    subst hg
    refine Or.inr ⟨q, ⟨(({ U with heap := s₂.heap, slotsUsed := s₂.slotsUsed } : State).setVm s₂.vm), Ls ++ L, c0 + mc, s0 + ms⟩,
      ⟨X.admits, X.cas, X.clock, X.frames, X.room, X.hears, X.method, X.code, (X.here.setHeapUsed s₂.heap s₂.slotsUsed).setVm hW'.alike, X.tail, State.WarmedH.trans X.warmed hW', X.limits, X.bytes, X.same.trans (hsame.setVm s.vm)⟩,
      ⟨g, mk, s₂, L, E, ce, rfl, rfl, hx, hce, hcv, hcl, rfl, hL, rfl, rfl⟩, ?_⟩
    show Steps p.tables e below _ (((({ U with heap := s₂.heap, slotsUsed := s₂.slotsUsed } : State).setVm s₂.vm).setTop g).pushFrame (.throwing q))
    rw [← hs₂]
    exact hsteps
end
variable {p : Program} {l : Launch} {e : Env} {R : Room} {s : State} {m : MethodId} {args : Array Value} {below : List Frame} {meth : Method} {c : Code} {T : State} {H : Heap} {locs : List Loc} {cells slots : Nat}
theorem vx_callVX (X : Stand p l e R s m args below meth c T locs cells slots) (hexec : p.tables.exec = Jvm.exec) {own C : String} {index : Nat} {y : MethodName} {bytes : ByteArray} {maxL : Nat} {ret : Option FieldType} {hh : List (Nat × Nat × Nat × Nat)}
    (hown : s.vm.findClass own = some m.cls) (hlink : (Cond.methodLink own index y).before args s = true) (hinst : (Cond.instanceMethod y).before args s = true) (hsel : (Cond.selects C y y).before args s = true)
    (hcode : (Cond.codeWith y bytes maxL ret hh).before args s = true) (hy : y.cls ≠ "java/lang/invoke/MethodHandle" ∧ y.cls ≠ "java/lang/invoke/VarHandle")
    {W9 : Nat} {Pre : Pt → Array Value → Prop} {Post : Pt → Array Value → Option Value → Pt → Prop} {PostX : Pt → Array Value → Addr → Pt → Prop} (hK : vx_Back l R p e below s args y 3 W9 Pre Post PostX)
    {b : Addr} {cellB : Cell} (hcell : T.heap[b]? = some cellB) (hobj : cellB.vm.isStatics = false) (hcls : s.vm.findClass C = some cellB.cls)
    {g : JFrame} (hg : g.method = m) (hsize : g.locals.size = c.maxLocals) {argsL rest : List Value} (hlen : ∀ sig, parseMethodDescriptor y.desc = some sig → argsL.length = sig.parameters.length)
    (hstack : g.stack = argsL.reverse ++ .ref b :: rest) (hW : 2 * g.monitorRoom + (rest.map fun v => v.category).sum ≤ W9) (hdg : decode c.code g.pc = .ok (.invokevirtual index, 3))
    (hpre : ∀ vm₁, s.WarmedH vm₁ → Pre ⟨T.setVm vm₁, locs, cells, slots⟩ (Value.ref b :: argsL).toArray) :
    (∃ (v : Option Value) (vm₁ : Vm) (B : Pt), s.WarmedH vm₁ ∧ Stand p l e R s m args below meth c B.U B.locs B.cells B.slots ∧ Post ⟨T.setVm vm₁, locs, cells, slots⟩ (Value.ref b :: argsL).toArray v B ∧
      ∀ target, Steps p.tables e below (B.U.setTop { g with pc := g.pc + 3, stack := v.toList ++ rest }) target → Steps p.tables e below (T.setTop g) target) ∨
    (∃ (q : Addr) (vm₁ : Vm) (B : Pt), s.WarmedH vm₁ ∧ Stand p l e R s m args below meth c B.U B.locs B.cells B.slots ∧ PostX ⟨T.setVm vm₁, locs, cells, slots⟩ (Value.ref b :: argsL).toArray q B ∧
      Steps p.tables e below (T.setTop g) ((B.U.setTop { g with stack := rest }).pushFrame (.throwing q))) := by
  obtain ⟨mk, methM, hnamed, hmethM, hstM, habM⟩ := Cond.instanceMethod_spec hinst
  obtain ⟨m8, methM', cM, hn8, hmethM', -, -, -, -, -, -, hsigM⟩ := Cond.codeWith_spec hcode
  cases Option.some.inj (hn8.symm.trans hnamed)
  cases hmethM.symm.trans hmethM'
  obtain ⟨c2, r2, m2, q1, q2, q3, q4, kP, hkP, hkPi⟩ := Cond.selects_spec hsel
  cases hcls.symm.trans q1
  cases (State.methodFound?_of_named hnamed hy).symm.trans q2
  cases hnamed.symm.trans q3
  have hselP : selectMethod e.platform s.vm cellB.cls mk = .method mk := by rw [Launch.admits_selectMethod X.admits]; exact q4
  obtain ⟨vm₁, X₁, hstep₁⟩ := X.invokevirtual hexec hown hlink hnamed hmethM hstM hkP hkPi hy (a := b) (cell := cellB) hcell
    (fun z h => by rw [h] at hobj; cases hobj) hselP hmethM habM hkP hkPi (g := g) hg (argsL := argsL) (rest := rest) (hlen _ hsigM) hstack hdg
  rcases hK m meth c ⟨T.setVm vm₁, locs, cells, slots⟩ { g with stack := rest } (.invokevirtual index) mk (Value.ref b :: argsL).toArray X₁ hg hsize hdg hW (X₁.named hnamed) (hpre vm₁ X₁.warmed) with ⟨v, B, X', hpost, hsteps⟩ | ⟨q, B, X', hpost, hsteps⟩
  · exact Or.inl ⟨v, vm₁, B, X₁.warmed, X', hpost, fun target h => hstep₁ _ fun acts => by rw [doInvoke_state]; exact hsteps.trans h⟩
  · exact Or.inr ⟨q, vm₁, B, X₁.warmed, X', hpost, hstep₁ _ fun acts => by rw [doInvoke_state]; exact hsteps⟩
theorem vx_callSX (X : Stand p l e R s m args below meth c T locs cells slots) (hexec : p.tables.exec = Jvm.exec) {own : String} {index : Nat} {y : MethodName} {bytes : ByteArray} {maxL : Nat} {ret : Option FieldType} {hh : List (Nat × Nat × Nat × Nat)}
    (hown : s.vm.findClass own = some m.cls) (hlink : (Cond.methodLink own index y).before args s = true) (hstat : (Cond.static y).before args s = true) (hinit : (Cond.initialized y.cls).before args s = true)
    (hcode : (Cond.codeWith y bytes maxL ret hh).before args s = true) (hy : y.cls ≠ "java/lang/invoke/MethodHandle" ∧ y.cls ≠ "java/lang/invoke/VarHandle")
    {W9 : Nat} {Pre : Pt → Array Value → Prop} {Post : Pt → Array Value → Option Value → Pt → Prop} {PostX : Pt → Array Value → Addr → Pt → Prop} (hK : vx_Back l R p e below s args y 3 W9 Pre Post PostX)
    {g : JFrame} (hg : g.method = m) (hsize : g.locals.size = c.maxLocals) {argsL rest : List Value} (hlen : ∀ sig, parseMethodDescriptor y.desc = some sig → argsL.length = sig.parameters.length)
    (hstack : g.stack = argsL.reverse ++ rest) (hW : 2 * g.monitorRoom + (rest.map fun v => v.category).sum ≤ W9) (hdg : decode c.code g.pc = .ok (.invokestatic index, 3))
    (hpre : ∀ vm₁, s.WarmedH vm₁ → Pre ⟨T.setVm vm₁, locs, cells, slots⟩ argsL.toArray) :
    (∃ (v : Option Value) (vm₁ : Vm) (B : Pt), s.WarmedH vm₁ ∧ Stand p l e R s m args below meth c B.U B.locs B.cells B.slots ∧ Post ⟨T.setVm vm₁, locs, cells, slots⟩ argsL.toArray v B ∧
      ∀ target, Steps p.tables e below (B.U.setTop { g with pc := g.pc + 3, stack := v.toList ++ rest }) target → Steps p.tables e below (T.setTop g) target) ∨
    (∃ (q : Addr) (vm₁ : Vm) (B : Pt), s.WarmedH vm₁ ∧ Stand p l e R s m args below meth c B.U B.locs B.cells B.slots ∧ PostX ⟨T.setVm vm₁, locs, cells, slots⟩ argsL.toArray q B ∧
      Steps p.tables e below (T.setTop g) ((B.U.setTop { g with stack := rest }).pushFrame (.throwing q))) := by
  obtain ⟨mk, methM, cM, hnamed, hmethM, -, -, -, -, -, -, hsigM⟩ := Cond.codeWith_spec hcode
  have hstatic : methM.isStatic = true := Cond.static_spec hnamed hmethM hstat
  obtain ⟨kP, hkP, -⟩ := className_of_methodNamed hnamed
  have hinitP : kP.init = .initialized := Cond.initialized_spec (findClass_of_methodNamed hnamed) hkP hinit
  obtain ⟨vm₁, X₁, hstep₁⟩ := X.invokestatic hexec hown hlink hnamed hmethM hstatic hkP hinitP hy (g := g) hg (argsL := argsL) (rest := rest) (hlen _ hsigM) hstack hdg
  rcases hK m meth c ⟨T.setVm vm₁, locs, cells, slots⟩ { g with stack := rest } (.invokestatic index) mk argsL.toArray X₁ hg hsize hdg hW (X₁.named hnamed) (hpre vm₁ X₁.warmed) with ⟨v, B, X', hpost, hsteps⟩ | ⟨q, B, X', hpost, hsteps⟩
  · exact Or.inl ⟨v, vm₁, B, X₁.warmed, X', hpost, fun target h => hstep₁ _ fun acts => by rw [doInvoke_state]; exact hsteps.trans h⟩
  · exact Or.inr ⟨q, vm₁, B, X₁.warmed, X', hpost, hstep₁ _ fun acts => by rw [doInvoke_state]; exact hsteps⟩
theorem vx_callVW (X : Stand p l e R s m args below meth c T locs cells slots) (hexec : p.tables.exec = Jvm.exec) {own C : String} {index : Nat} {y : MethodName} {bytes : ByteArray} {maxL : Nat} {ret : Option FieldType} {hh : List (Nat × Nat × Nat × Nat)}
    (hown : s.vm.findClass own = some m.cls) (hlink : (Cond.methodLink own index y).before args s = true) (hinst : (Cond.instanceMethod y).before args s = true) (hsel : (Cond.selects C y y).before args s = true)
    (hcode : (Cond.codeWith y bytes maxL ret hh).before args s = true) (hy : y.cls ≠ "java/lang/invoke/MethodHandle" ∧ y.cls ≠ "java/lang/invoke/VarHandle")
    {W9 : Nat} {Pre : Pt → Array Value → Prop} {Post : Pt → Array Value → Option Value → Pt → Prop} (hK : Back l R p e below s args y 3 W9 Pre Post)
    {b : Addr} {cellB : Cell} (hcell : T.heap[b]? = some cellB) (hobj : cellB.vm.isStatics = false) (hcls : s.vm.findClass C = some cellB.cls)
    {g : JFrame} (hg : g.method = m) (hsize : g.locals.size = c.maxLocals) {argsL rest : List Value} (hlen : ∀ sig, parseMethodDescriptor y.desc = some sig → argsL.length = sig.parameters.length)
    (hstack : g.stack = argsL.reverse ++ .ref b :: rest) (hW : 2 * g.monitorRoom + (rest.map fun v => v.category).sum ≤ W9) (hdg : decode c.code g.pc = .ok (.invokevirtual index, 3))
    (hpre : ∀ vm₁, s.WarmedH vm₁ → Pre ⟨T.setVm vm₁, locs, cells, slots⟩ (Value.ref b :: argsL).toArray) :
    ∃ (v : Option Value) (vm₁ : Vm) (B : Pt), s.WarmedH vm₁ ∧ Stand p l e R s m args below meth c B.U B.locs B.cells B.slots ∧ Post ⟨T.setVm vm₁, locs, cells, slots⟩ (Value.ref b :: argsL).toArray v B ∧
      ∀ target, Steps p.tables e below (B.U.setTop { g with pc := g.pc + 3, stack := v.toList ++ rest }) target → Steps p.tables e below (T.setTop g) target := by
  obtain ⟨mk, methM, hnamed, hmethM, hstM, habM⟩ := Cond.instanceMethod_spec hinst
  obtain ⟨m8, methM', cM, hn8, hmethM', -, -, -, -, -, -, hsigM⟩ := Cond.codeWith_spec hcode
  cases Option.some.inj (hn8.symm.trans hnamed)
  cases hmethM.symm.trans hmethM'
  obtain ⟨c2, r2, m2, q1, q2, q3, q4, kP, hkP, hkPi⟩ := Cond.selects_spec hsel
  cases hcls.symm.trans q1
  cases (State.methodFound?_of_named hnamed hy).symm.trans q2
  cases hnamed.symm.trans q3
  have hselP : selectMethod e.platform s.vm cellB.cls mk = .method mk := by rw [Launch.admits_selectMethod X.admits]; exact q4
  obtain ⟨vm₁, X₁, hstep₁⟩ := X.invokevirtual hexec hown hlink hnamed hmethM hstM hkP hkPi hy (a := b) (cell := cellB) hcell
    (fun z h => by rw [h] at hobj; cases hobj) hselP hmethM habM hkP hkPi (g := g) hg (argsL := argsL) (rest := rest) (hlen _ hsigM) hstack hdg
  obtain ⟨v, B, X', hpost, hsteps⟩ := hK m meth c ⟨T.setVm vm₁, locs, cells, slots⟩ { g with stack := rest } (.invokevirtual index) mk (Value.ref b :: argsL).toArray X₁ hg hsize hdg hW (X₁.named hnamed) (hpre vm₁ X₁.warmed)
  exact ⟨v, vm₁, B, X₁.warmed, X', hpost, fun target h => hstep₁ _ fun acts => by rw [doInvoke_state]; exact hsteps.trans h⟩
abbrev vx_CVW (R : Room) (s : State) (args : Array Value) (own C : String) (index : Nat) (y : MethodName) (bytes : ByteArray) (maxL : Nat) (ret : Option FieldType) (hh : List (Nat × Nat × Nat × Nat)) (ws : List Cond) (rm : Room) (mc ms n : Nat) : Prop :=
  (rm.cells = mc ∧ rm.slots = ms ∧ rm.frames + 1 ≤ R.frames ∧ 8 + (maxL + 11) + rm.locals ≤ R.locals ∧ (∀ w ∈ ws, ∀ (a' : Array Value) (U : State), s.WarmedH U.vm → w.before a' U = true) ∧ Cond.codeWith y bytes maxL ret hh ∈ ws) ∧
  (Cond.codeWith y bytes maxL ret hh).before args s = true ∧ (Cond.initialized y.cls).before args s = true ∧ (y.cls ≠ "java/lang/invoke/MethodHandle" ∧ y.cls ≠ "java/lang/invoke/VarHandle") ∧
  (∀ sig, parseMethodDescriptor y.desc = some sig → n = sig.parameters.length) ∧ (Cond.methodLink own index y).before args s = true ∧ (Cond.instanceMethod y).before args s = true ∧ (Cond.selects C y y).before args s = true
theorem vx_cwVW {own C : String} {index maxL mc ms : Nat} {y : MethodName} {bytes : ByteArray} {ret : Option FieldType} {hh : List (Nat × Nat × Nat × Nat)} {Ts ws ws' : List Cond} {rm : Room} (n : Nat) (ht : ∀ w ∈ Ts, w.before args s = true) (hT : GoodIn Ts (wsV own index C y ws)) (hw : ws = Cond.codeWith y bytes maxL ret hh :: ws') (hrc : rm.cells = mc) (hrs : rm.slots = ms)
    (hd : y.cls = C ∧ y.cls ≠ "java/lang/invoke/MethodHandle" ∧ y.cls ≠ "java/lang/invoke/VarHandle" ∧ (parseMethodDescriptor y.desc).map (fun d => d.parameters.length) = some n) (hR : rm.frames + 1 ≤ R.frames ∧ 8 + (maxL + 11) + rm.locals ≤ R.locals) :
    vx_CVW R s args own C index y bytes maxL ret hh ws rm mc ms n := by
  obtain ⟨hC, hd⟩ := hd
  subst hC
  have ok : ∀ w ∈ wsV own index y.cls y ws, w.before args s = true := fun w h => ht w (hT w h).1
  have hG : GoodIn Ts ws := fun w h => hT w (by unfold wsV; exact List.mem_append_right _ h)
  have hc : Cond.codeWith y bytes maxL ret hh ∈ ws := by rw [hw]; exact List.mem_cons_self
  refine ⟨⟨hrc, hrs, hR.1, hR.2, pay_in ht hG, hc⟩, ht _ (hG _ hc).1, ok _ (by simp [wsV]), ⟨hd.1, hd.2.1⟩, fun sig h => ?_, ok _ (by simp [wsV]), ok _ (by simp [wsV]), ok _ (by simp [wsV])⟩
  have h2 := hd.2.2
  rw [h] at h2
  exact (Option.some.inj h2).symm
theorem vx_runVW {y : MethodName} {bytes cc : ByteArray} {maxL nL mc ms n index : Nat} {ret : Option FieldType} {hh : List (Nat × Nat × Nat × Nat)} {ws : List Cond} {rm : Room} {Pc : Array Value → State → Prop} {Qc : Array Value → State → Outcome → State → Prop} {free : Addr → Prop} {Ts : List Cond} {own C : String} {b : Addr} {As rest : List Value} {g : JFrame}
    (S : CallFix p m c cc nL s args Ts own) (hM : Met l y ws rm Pc Qc mc ms free) (cw : vx_CVW R s args own C index y bytes maxL ret hh ws rm mc ms n) (hp : PreV s H C b Pc As)
    (hg : g.method = m) (hn : As.length = n) (hsize : g.locals.size = nL) (hstack : g.stack = As.reverse ++ .ref b :: rest) (hW : 2 * g.monitorRoom + (rest.map fun v => v.category).sum ≤ 8) (hdg : decode cc g.pc = .ok (.invokevirtual index, 3)) (hf : cells + mc ≤ R.cells ∧ slots + ms ≤ R.slots) :
    va_Run p l e R s m args below meth c H locs cells slots mc ms g rest (Qc (Value.ref b :: As).toArray) free := by
  obtain ⟨⟨hrc, hrs, hfr, hlo, hws, hcw⟩, hcode, hini, hy, hlen, hl, hin, hse⟩ := cw
  have hK : Back l R p e below s args y 3 8 (PreOf R mc ms Pc) (PostOf Qc mc ms free) := va_backW (hh := hh) (bytes := bytes) (maxL := maxL) (ret := ret) hM hp.1 hrc hrs hfr hlo hws hcw (fun a' U hW => word_at hW (Or.inl (by first | rfl | simp [Cond.onTables, Cond.keeps, Cond.steady])) hini)
  obtain ⟨hx, hb, hml, ho, -⟩ := S
  obtain ⟨-, ⟨cellB, hcB, hoB, hclB⟩, hPc⟩ := hp
  intro T hT X
  obtain ⟨v, vm₁, ⟨U', l2, c2, s2⟩, hW₁, X', ⟨g', mk, t, L, e1, e2, hq, h1, hL, h2, h3⟩, st⟩ := vx_callVW X hx (C := C) (hh := hh) (bytes := bytes) (maxL := maxL) (ret := ret) ho hl hin hse hcode hy hK (by rw [hT]; exact hcB) hoB hclB hg (hsize.trans hml.symm) (argsL := As) (rest := rest) (fun sig h => hn.trans (hlen sig h)) hstack hW (by rw [hb]; exact hdg)
    (fun vm₁ hW₁ => ⟨hf.1, hf.2, hPc (T.setVm vm₁) hT hW₁⟩)
  dsimp only [Pt.U, Pt.locs, Pt.cells, Pt.slots] at X' e1 e2 h1 h2 h3 st
  subst h1; subst h2; subst h3
  exact ⟨v, (T.setVm vm₁).calling g' mk (Value.ref b :: As).toArray, t, U', L, hT, X', hL, e1, e2, hq, st⟩
section
variable {y : MethodName} {bytes cc : ByteArray} {maxL nL mc ms n index : Nat} {ret : Option FieldType} {ws : List Cond} {rm : Room} {Pc : Array Value → State → Prop} {Qc : Array Value → State → Outcome → State → Prop} {XC : String → State → State → Prop} {free : Addr → Prop} {Ts : List Cond} {own C : String} {b : Addr} {As rest : List Value} {g : JFrame}
theorem vx_runVX {hh : List (Nat × Nat × Nat × Nat)} (S : CallFix p m c cc nL s args Ts own) (hM : vx_Met l y ws rm Pc Qc XC mc ms free) (cw : vx_CVW R s args own C index y bytes maxL ret hh ws rm mc ms n) (hp : PreV s H C b Pc As)
    (hg : g.method = m) (hn : As.length = n) (hsize : g.locals.size = nL) (hstack : g.stack = As.reverse ++ .ref b :: rest) (hW : 2 * g.monitorRoom + (rest.map fun v => v.category).sum ≤ 8) (hdg : decode cc g.pc = .ok (.invokevirtual index, 3)) (hf : cells + mc ≤ R.cells ∧ slots + ms ≤ R.slots) :
    vx_Run p l e R s m args below meth c H locs cells slots mc ms g rest (Qc (Value.ref b :: As).toArray) XC free := by
  obtain ⟨⟨hrc, hrs, hfr, hlo, hws, hcw⟩, hcode, hini, hy, hlen, hl, hin, hse⟩ := cw
  have hK : vx_Back l R p e below s args y 3 8 (PreOf R mc ms Pc) (PostOf Qc mc ms free) (vx_Post XC mc ms free) := vx_backW (hh := hh) (bytes := bytes) (maxL := maxL) (ret := ret) hM hp.1 hrc hrs hfr hlo hws hcw (fun a' U hW => word_at hW (Or.inl (by first | rfl | simp [Cond.onTables, Cond.keeps, Cond.steady])) hini)
  obtain ⟨hx, hb, hml, ho, -⟩ := S
  obtain ⟨-, ⟨cellB, hcB, hoB, hclB⟩, hPc⟩ := hp
  intro T hT X
  rcases vx_callVX X hx (C := C) (hh := hh) (bytes := bytes) (maxL := maxL) (ret := ret) ho hl hin hse hcode hy hK (by rw [hT]; exact hcB) hoB hclB hg (hsize.trans hml.symm) (argsL := As) (rest := rest) (fun sig h => hn.trans (hlen sig h)) hstack hW (by rw [hb]; exact hdg)
    (fun vm₁ hW₁ => ⟨hf.1, hf.2, hPc (T.setVm vm₁) hT hW₁⟩) with ⟨v, vm₁, ⟨U', l2, c2, s2⟩, hW₁, X', ⟨g', mk, t, L, e1, e2, hq, h1, hL, h2, h3⟩, st⟩ | ⟨q, vm₁, ⟨U', l2, c2, s2⟩, hW₁, X', ⟨g', mk, t, L, E, ce, e1, e2, hq, hce, hcv, hcl, h1, hL, h2, h3⟩, st⟩
  · dsimp only [Pt.U, Pt.locs, Pt.cells, Pt.slots] at X' e1 e2 h1 h2 h3 st
    subst h1; subst h2; subst h3
    exact Or.inl ⟨v, (T.setVm vm₁).calling g' mk (Value.ref b :: As).toArray, t, U', L, hT, X', hL, e1, e2, hq, st⟩
  · dsimp only [Pt.U, Pt.locs, Pt.cells, Pt.slots] at X' e1 e2 h1 h2 h3 st hcl
    subst h1; subst h2; subst h3
    exact Or.inr ⟨q, (T.setVm vm₁).calling g' mk (Value.ref b :: As).toArray, t, U', L, E, ce, hT, X', hL, e1, e2, hq, hce, hcv, vx_cls hW₁ hcl, st⟩
theorem vx_runSX {hh : List (Nat × Nat × Nat × Nat)} (S : CallFix p m c cc nL s args Ts own) (hM : vx_Met l y ws rm Pc Qc XC mc ms free) (cw : vx_CSW R s args own index y bytes maxL ret hh ws rm mc ms n) (hp : PreS s H Pc As)
    (hg : g.method = m) (hn : As.length = n) (hsize : g.locals.size = nL) (hstack : g.stack = As.reverse ++ rest) (hW : 2 * g.monitorRoom + (rest.map fun v => v.category).sum ≤ 8) (hdg : decode cc g.pc = .ok (.invokestatic index, 3)) (hf : cells + mc ≤ R.cells ∧ slots + ms ≤ R.slots) :
    vx_Run p l e R s m args below meth c H locs cells slots mc ms g rest (Qc As.toArray) XC free := by
  obtain ⟨⟨hrc, hrs, hfr, hlo, hws, hcw⟩, hcode, hini, hy, hlen, hl, hstt⟩ := cw
  have hK : vx_Back l R p e below s args y 3 8 (PreOf R mc ms Pc) (PostOf Qc mc ms free) (vx_Post XC mc ms free) := vx_backW (hh := hh) (bytes := bytes) (maxL := maxL) (ret := ret) hM hp.1 hrc hrs hfr hlo hws hcw (fun a' U hW => word_at hW (Or.inl (by first | rfl | simp [Cond.onTables, Cond.keeps, Cond.steady])) hini)
  obtain ⟨hx, hb, hml, ho, -⟩ := S
  intro T hT X
  rcases vx_callSX X hx (hh := hh) (bytes := bytes) (maxL := maxL) (ret := ret) ho hl hstt hini hcode hy hK hg (hsize.trans hml.symm) (argsL := As) (rest := rest) (fun sig h => hn.trans (hlen sig h)) hstack hW (by rw [hb]; exact hdg)
    (fun vm₁ hW₁ => ⟨hf.1, hf.2, hp.2 (T.setVm vm₁) hT hW₁⟩) with ⟨v, vm₁, ⟨U', l2, c2, s2⟩, hW₁, X', ⟨g', mk, t, L, e1, e2, hq, h1, hL, h2, h3⟩, st⟩ | ⟨q, vm₁, ⟨U', l2, c2, s2⟩, hW₁, X', ⟨g', mk, t, L, E, ce, e1, e2, hq, hce, hcv, hcl, h1, hL, h2, h3⟩, st⟩
  · dsimp only [Pt.U, Pt.locs, Pt.cells, Pt.slots] at X' e1 e2 h1 h2 h3 st
    subst h1; subst h2; subst h3
    exact Or.inl ⟨v, (T.setVm vm₁).calling g' mk As.toArray, t, U', L, hT, X', hL, e1, e2, hq, st⟩
  · dsimp only [Pt.U, Pt.locs, Pt.cells, Pt.slots] at X' e1 e2 h1 h2 h3 st hcl
    subst h1; subst h2; subst h3
    exact Or.inr ⟨q, (T.setVm vm₁).calling g' mk As.toArray, t, U', L, E, ce, hT, X', hL, e1, e2, hq, hce, hcv, vx_cls hW₁ hcl, st⟩
end
end VXH
theorem vx_ofWH {l : Launch} {y : MethodName} {ws ws' : List Cond} {rm : Room} {Pc : Array Value → State → Prop} {Qc : Array Value → State → Outcome → State → Prop} {XC : String → State → State → Prop} {mc ms : Nat} {free : Addr → Prop} {cc : ByteArray} {maxL : Nat} {ret : Option FieldType} {hh : List (Nat × Nat × Nat × Nat)}
    (hy : plainName y.cls = true) (hw : ws = Cond.codeWith y cc maxL ret hh :: ws')
    (body : ∀ p e s m args below meth c s₁, BodyLoose p l y (headSpec ws rm) cc maxL ret e s m args below meth c s₁ → c.maxLocals = maxL → Pc args s →
      W p l e (headSpec ws rm).room s m args below meth c s.heap [] 0 0 (vx_MQ below Qc XC args s mc ms free) (entryFrame m args maxL)) : vx_Met l y ws rm Pc Qc XC mc ms free := by
  refine MetFree.of_bodyS (code := cc) (maxLocals := maxL) (ret := ret) hy ?_ ?_
  · intro args s m h hn
    obtain ⟨m9, meth, c, hn9, h1, h2, h3, h4, -, h5, h6, -⟩ := Cond.codeWith_spec (atoms_spec (ws := ws) h _ (by rw [hw]; exact List.mem_cons_self))
    cases hn.symm.trans hn9
    exact ⟨meth, c, h1, h2, h3, h4, h5, h6⟩
  · intro p e s m args below meth c s₁ B hml hP _
    have hh0 : s₁.heap = s.heap := by rw [B.state]; rfl
    obtain ⟨t, a1, o, b1, b2, b3⟩ := body p e s m args below meth c s₁ B hml hP s₁ hh0 (Stand.of_body B)
    exact ⟨t, o, a1, b1, b2, b3⟩
/-! ===== END ===== -/
/-! ===== BEGIN what the machine throws by itself, no traces kept ===== -/
section VXM
set_option maxHeartbeats 1000000 in
/-- the machine throws cls with the message text, no traces kept: from its note over the frame g to 'throwing' over the same frame (follows the proofs of Stand.vmThrowsMessage, Shelf/KitTracedVmS.lean, and Stand.throwsMessageColdBareV, StandMessageColdV.lean, without the step out of the frame) -/
theorem vx_vmAt {p : Program} {l : Launch} {e : Env} {R : Room} {s : State} {m₀ : MethodId} {args : Array Value} {below : List Frame} {meth : Method} {c : Code} {W : State} {locs : List Loc} {cells slots : Nat}
    (X : Stand p l e R s m₀ args below meth c W locs cells slots) (hexec : p.tables.exec = Jvm.exec) (htr : e.platform.stackTraces = false) {cls : String} {names : List String} {text : String}
    (hcls : Bundle.fit cls = true) (hnames : ∀ n ∈ names, Bundle.fit n = true) (hsoe : (cls == "java/lang/StackOverflowError") = false) (hoom : (cls == "java/lang/OutOfMemoryError") = false)
    (h : ∀ a ∈ Bundle.messageArmAtoms cls names, a.before args s = true)
    (hlocs : ∀ x ∈ locs, ∀ cell, s.heap[x.base]? = some cell → cell.vm.isStatics = false)
    (htext : (text == notModelled) = false) (hlimit : ¬ (stringBytes (stringToUtf16 text)).size > e.platform.arrayLengthLimit) (hheap : ¬ (stringBytes (stringToUtf16 text)).size * componentBytes .byte > e.platform.maxHeapBytes)
    {g : JFrame} (hg : g.method = m₀) (hsize : g.locals.size = c.maxLocals)
    (hRframes : names.length + 4 < R.frames) (hRlocals : 2 * g.monitorRoom + (g.stack.map fun v => v.category).sum + 10240 ≤ R.locals) (hshort : 13 * names.length + 55 ≤ 10240)
    (hRcells : cells + 3 ≤ R.cells) (hRslots : slots + ((stringBytes (stringToUtf16 text)).size + 4 + 6) ≤ R.slots) (hlocks : meth.locks = false) :
    ∃ (S : State) (q : Addr) (ce : Cell), (∀ target, Steps p.tables e below ((S.setTop g).pushFrame (.throwing q)) target → Steps p.tables e below ((W.setTop g).pushFrame (.throwNew cls (some text) none)) target) ∧
      Stand p l e R s m₀ args below meth c S locs (cells + 3) (slots + ((stringBytes (stringToUtf16 text)).size + 4 + 6)) ∧ S.heap[q]? = some ce ∧ s.vm.findClass cls = some ce.cls ∧ ce.vm = .none := by
  have howns : e.platform.frameOwnsMonitors = true := by rw [X.admits.platform]
  have hfin : e.platform.finalization = false := by rw [X.admits.platform]
  have hpl : e.platform.magicAccessors = ({} : Platform).magicAccessors := by rw [X.admits.platform]
  have a : ∀ x, x ∈ Bundle.messageArmAtoms cls names → x.holds args s none s [] = true := fun x hx => h x hx
  obtain ⟨T, Z0, L, -, Y⟩ := ThrowableC.of_atoms (args := args) howns hfin hpl (fun x hx => h x (by simp [Bundle.messageArmAtoms, hx]))
  obtain ⟨Z, M, LZ, LM, hnZ⟩ := Init0T.ofS_atoms (args := args) hpl L Y (fun x hx => h x (by simp [Bundle.messageArmAtoms, hx]))
  obtain ⟨P1, Ps, hlen, L1, hL, hP1m, hlink1, hlink⟩ := Bundle.chainS (args := args) hpl hnZ names cls hcls hnames (fun x hx => h x (by simp [Bundle.messageArmAtoms, hx]))
  obtain ⟨Zs, LZs, hn4, hfitv, hfitc⟩ := StringT.of_atoms (args := args) (fun x hx => h x (by simp [Bundle.messageArmAtoms, hx]))
  have hfound : s.vm.findClass cls = some P1.m.cls := findClass_of_methodNamed hP1m
  obtain ⟨c1, kX, hc1, hk, hord, -, -, hn6⟩ := Cond.instantiable_spec (a (.instantiable cls 6) (by simp [Bundle.messageArmAtoms]))
  cases Option.some.inj (hc1.symm.trans hfound)
  have hinit := Cond.initialized_spec hfound hk (a (.initialized cls) (by simp [Bundle.messageArmAtoms]))
  have hctor : kX.findMethod "<init>" "(Ljava/lang/String;)V" = some P1.m.idx := findMethod_of_methodNamed hP1m hk
  have hsel0 : selectMethod e.platform s.vm P1.m.cls T.fill0 = .method T.fill0 := by
    obtain ⟨c2, r2, m2, q1, q2, q3, q4, -⟩ := Cond.selects_spec (a (.selects cls Bundle.tFill0 Bundle.tFill0) (by simp [Bundle.messageArmAtoms]))
    cases Option.some.inj (q1.symm.trans hfound)
    cases Option.some.inj (q2.symm.trans (State.methodFound?_of_named Y.fill0 (by decide)))
    cases Option.some.inj (q3.symm.trans Y.fill0)
    rw [Launch.admits_selectMethod X.admits]; exact q4
  have hselF : selectMethod e.platform s.vm P1.m.cls T.fill = .method T.fill := by
    obtain ⟨c2, r2, m2, q1, q2, q3, q4, -⟩ := Cond.selects_spec (a (.selects cls Bundle.tFill Bundle.tFill) (by simp [Bundle.messageArmAtoms]))
    cases Option.some.inj (q1.symm.trans hfound)
    cases Option.some.inj (q2.symm.trans (State.methodFound?_of_named Y.fill (by decide)))
    cases Option.some.inj (q3.symm.trans Y.fill)
    rw [Launch.admits_selectMethod X.admits]; exact q4
  obtain ⟨cellS0, hcS0, hiss⟩ := Y.statics
  obtain ⟨u0, hu0⟩ := Cond.staticRefV Y.unassigned L.unassignedStatic L.statics hcS0 hiss (a (.isRef (.static Bundle.tN "UNASSIGNED_STACK" Bundle.steD)) (by simp [Bundle.messageArmAtoms]))
  obtain ⟨sen, hsen⟩ := Cond.staticRefV Y.sentinel L.sentinelStatic L.statics hcS0 hiss (a (.isRef (.static Bundle.tN "SUPPRESSED_SENTINEL" Bundle.listD)) (by simp [Bundle.messageArmAtoms]))
  obtain ⟨ci198, i198, fB, hk198, hg198, ha198, hsB, -, hnB, htB, hffB⟩ := Cond.ownField (t := .object "java/lang/Object") Y.found L.cls (by decide +kernel) (a (.fieldLink Bundle.tN 198 Bundle.tN "backtrace" "Ljava/lang/Object;") (by simp [Bundle.messageArmAtoms])) (a (.lays Bundle.tN Bundle.tN "backtrace" "Ljava/lang/Object;") (by simp [Bundle.messageArmAtoms])) e.platform hpl
  obtain ⟨cellS, hcS', heS, -, hkeep⟩ := X.same.2.2.2.2.2 T.aS cellS0 hcS0
  have hcellS : W.heap[T.aS]? = some cellS := hcS'
  have hout' : ∀ i, (⟨T.aS, i⟩ : Loc) ∉ locs := fun i hmem => by
    have := hlocs _ hmem cellS0 hcS0
    rw [hiss] at this; cases this
  have hknownS : cellS.vm ≠ .unknown := by
    rw [heS]; intro hu
    rw [show cellS0.vm = .unknown from hu] at hiss
    cases hiss
  have hvU : cellS.slots[T.fUnassigned.slot]? = some u0.v := by rw [hkeep _ (hout' _)]; exact hu0
  have hvSen : cellS.slots[T.fSentinel.slot]? = some sen.v := by rw [hkeep _ (hout' _)]; exact hsen
  obtain ⟨iM, hffM⟩ := Y.msg
  obtain ⟨tyC, dC, hdC, hdnC⟩ := Cond.laysAt hfound hk Y.cause (a (.lays cls Bundle.tN "cause" "Ljava/lang/Throwable;") (by simp [Bundle.messageArmAtoms]))
  obtain ⟨tyS, dS, hdS, hdnS⟩ := Cond.laysAt hfound hk Y.stack (a (.lays cls Bundle.tN "stackTrace" Bundle.steD) (by simp [Bundle.messageArmAtoms]))
  obtain ⟨tyP, dP, hdP, hdnP⟩ := Cond.laysAt hfound hk Y.supp (a (.lays cls Bundle.tN "suppressedExceptions" Bundle.listD) (by simp [Bundle.messageArmAtoms]))
  obtain ⟨tyM, dM, hdM, hdnM⟩ := Cond.laysAt hfound hk hffM (a (.lays cls Bundle.tN "detailMessage" "Ljava/lang/String;") (by simp [Bundle.messageArmAtoms]))
  obtain ⟨tyB, dB, hdB, hdnB⟩ := Cond.laysAt hfound hk hffB (a (.lays cls Bundle.tN "backtrace" "Ljava/lang/Object;") (by simp [Bundle.messageArmAtoms]))
  have bC := Cond.laysApart hdB hdC hdnB hdnC (by rw [hnB, Y.causeName]; decide)
  have bS := Cond.laysApart hdB hdS hdnB hdnS (by rw [hnB, Y.stackName]; decide)
  have bP := Cond.laysApart hdB hdP hdnB hdnP (by rw [hnB, Y.suppName]; decide)
  have hbk : ((preparedCellV T.toThrowableT (freshCell P1.m.cls kX) (W.heap.size + 2) u0 sen).withEntry W.cur).slots[fB.slot]? = some .null := by
    have := fresh_default (c := P1.m.cls) tyB
    rw [htB] at this
    simpa [preparedCellV, Cell.setSlot, Cell.withEntry, Array.getElem?_setIfInBounds, bC, bS, bP, bC.symm, bS.symm, bP.symm, defaultValue] using this
  have tkC := Takes.of_laid (v := .ref (W.heap.size + 2)) hk hord tyC (by rw [Y.causeType]; rfl)
  have tkS := Takes.of_laid (v := u0.v) hk hord tyS (by rw [Y.stackType]; exact fits_refV_array _ u0)
  have tkP := Takes.of_laid (v := sen.v) hk hord tyP (by rw [Y.suppType]; exact fits_refV_object _ sen)
  have tkM := Takes.of_laid (v := .ref (W.heap.size + 1)) hk hord tyM (by rw [Y.msgType]; rfl)
  have hskip : SkipFacts T e.platform s (fun u => u) u0 ((preparedCellV T.toThrowableT (freshCell P1.m.cls kX) (W.heap.size + 2) u0 sen).withEntry W.cur) := ⟨{ ci198 := ci198, i198 := i198, fBack := fB }, ⟨hk198, hg198, ha198, hsB⟩, hbk, fun _ _ => rfl⟩
  have h0 : At W g.method c below := by rw [hg]; exact X.here
  obtain ⟨hbeyond, hfreeW⟩ := X.vmMayThrow hsize (.throwNew cls (some text) none) (fun f hf => by cases hf) rfl hRlocals
  have hfr' : W.frames.length + Ps.length + 4 < (e.platform.stackLimits W.me).1 := by have := X.framesAbove hRframes; omega
  have hwd' : (stackUse (.java g :: W.frames.tail)).2 + 13 * Ps.length + 55 ≤ (e.platform.stackLimits W.me).2 := by have := X.stackAbove hsize (K := 13 * Ps.length + 55) (by omega); omega
  have hslots : W.slotsUsed + (stringBytes (stringToUtf16 text)).size + Zs.kS.instanceTypes.size + kX.instanceTypes.size ≤ e.platform.maxSlots := by
    have := X.slotsAbove hRslots
    rw [hn4, hn6]
    omega
  obtain ⟨vm', hW', st⟩ := Steps.vmThrowsMessageColdByV p (s₀ := s) (S := W) (g := g) h0 hexec T L Z LZ M LM X.warmed (t := W.cur) rfl Zs LZs P1 L1 Ps hL hlink1 hlink hsoe hoom hfound hk hinit hord hctor
    (Launch.admits_hotImplicitExceptions X.admits) hbeyond hfreeW htext hlimit hheap (X.cellsAbove hRcells) hslots (hfitv _) (hfitc _)
    (Nn := fun u => u) heapOnly_id (fun _ _ => rfl) (fun _ => rfl) (fun u x y => setCell_twice _ _ _ _) (fun _ => Nat.le_refl _) (cN := ((preparedCellV T.toThrowableT (freshCell P1.m.cls kX) (W.heap.size + 2) u0 sen).withEntry W.cur))
    hsel0 hcellS hknownS hvU tkS (fun _ hu => hu) (fun _ hu => hu) rfl rfl rfl (by simp [preparedCellV, Cell.setSlot, Cell.withEntry]) hskip (fun _ _ hA hW _ hroom _ hrest => L.nativeOff p htr hA hW hroom hrest) hselF hvSen tkC tkP tkM Y.objLocals rfl hfr' hwd'
  rw [plainBareV_eq T.toThrowableT (W.heap.size + 2) u0 sen (.ref (W.heap.size + 1)) W.cur rfl rfl] at st
  obtain ⟨-, -, w3, w4, -, -, -⟩ := withThrown_facts e.platform W Zs text P1.m.cls kX
  have X3 := ((X.pushed (bytesOf Zs.cB (stringToUtf16 text))).pushed (stringAt Zs.cS Zs.kS Zs.fv Zs.fc (stringToUtf16 text) W.heap.size)).pushed (freshCell P1.m.cls kX)
  rw [← withString_eq] at X3
  have X4 := X3.noted hW'
  have ha : (W.heap.size + 2) < ((withThrown W Zs text P1.m.cls kX).setVm vm').heap.size := by show _ < (withThrown W Zs text P1.m.cls kX).heap.size; rw [w3]; omega
  have hcell : ((withThrown W Zs text P1.m.cls kX).setVm vm').heap[(W.heap.size + 2)]? = some (freshCell P1.m.cls kX) := w4
  have X5 := ((((X4.stored hcell T.fCause.slot (.ref (W.heap.size + 2))).storedAgain ha T.fStack.slot u0.v).storedAgain ha T.fSupp.slot sen.v).storedAgain ha T.fStack.slot u0.v).storedAgain ha T.fMsg.slot (.ref (W.heap.size + 1))
  obtain ⟨g₁, hfrM⟩ := X5.frames_eq
  have hU : ((((withThrown W Zs text P1.m.cls kX).setVm vm').setCell (W.heap.size + 2) (plainBareV T.toThrowableT (freshCell P1.m.cls kX) (W.heap.size + 2) u0 sen (.ref (W.heap.size + 1)))).setTop g).pushFrame (.throwing (W.heap.size + 2)) = (((withThrown W Zs text P1.m.cls kX).setVm vm').setCell (W.heap.size + 2) (plainBareV T.toThrowableT (freshCell P1.m.cls kX) (W.heap.size + 2) u0 sen (.ref (W.heap.size + 1)))).setFrames (.throwing (W.heap.size + 2) :: .java g :: below) := by
    rw [State.pushFrame, State.frames_setTop _ hfrM, State.setTop_of_frames _ hfrM, State.setFrames_setFrames]
  have b1 : (bytesOf Zs.cB (stringToUtf16 text)).slots.size = (stringBytes (stringToUtf16 text)).size := by
    rw [(Cell.writeAll_facts _ _).2.2]; simp [bytes0]
  have b2 : (stringAt Zs.cS Zs.kS Zs.fv Zs.fc (stringToUtf16 text) W.heap.size).slots.size = 4 := by simp [string0, Cell.setSlot, hn4]
  have b3 : (freshCell P1.m.cls kX).slots.size = 6 := by simp [hn6]
  rw [b1, b2, b3] at X5
  have e9 : slots + (stringBytes (stringToUtf16 text)).size + 4 + 6 = slots + ((stringBytes (stringToUtf16 text)).size + 4 + 6) := by omega
  rw [e9] at X5
  simp only [List.append_assoc, List.cons_append, List.nil_append] at X5
  refine ⟨((withThrown W Zs text P1.m.cls kX).setVm vm').setCell (W.heap.size + 2) (plainBareV T.toThrowableT (freshCell P1.m.cls kX) (W.heap.size + 2) u0 sen (.ref (W.heap.size + 1))), W.heap.size + 2, _, fun target ht => st _ (by rw [X.tail, ← hU]; exact ht),
    X5.forget (fun y hy => ?_), heapAt_setCell_self _ ha, hfound, rfl⟩
  simp only [List.mem_cons, List.not_mem_nil, or_false] at hy
  have hge : s.heap.size ≤ W.heap.size := X.same.2.1
  rcases hy with rfl | rfl | rfl | rfl | rfl <;> exact Nat.le_trans hge (Nat.le_add_right _ 2)
set_option maxHeartbeats 1000000 in
/-- the machine throws NullPointerException, no traces kept: from its note over the frame g to 'throwing' over the same frame (follows the proof of Stand.vmThrowsNpe, Shelf42/KT2.lean; throwsNpeColdBareVAt, Shelf42/NT91.lean, called) -/
theorem vx_npeAt {p : Program} {l : Launch} {e : Env} {R : Room} {s : State} {m₀ : MethodId} {args : Array Value} {below : List Frame} {meth : Method} {c : Code} {W : State} {locs : List Loc} {cells slots : Nat}
    (X : Stand p l e R s m₀ args below meth c W locs cells slots) (hexec : p.tables.exec = Jvm.exec) (htr : e.platform.stackTraces = false) {n : Nat}
    (h : ∀ a ∈ Bundle.npeArmAtoms n, a.before args s = true)
    (hlocs : ∀ x ∈ locs, ∀ cell, s.heap[x.base]? = some cell → cell.vm.isStatics = false)
    {g : JFrame} (hg : g.method = m₀) (hsize : g.locals.size = c.maxLocals)
    (hRframes : 7 < R.frames) (hRlocals : 2 * g.monitorRoom + (g.stack.map fun v => v.category).sum + 10240 ≤ R.locals)
    (hRcells : cells + 1 ≤ R.cells) (hRslots : slots + n ≤ R.slots) (hlocks : meth.locks = false) :
    ∃ (S : State) (q : Addr) (ce : Cell), (∀ target, Steps p.tables e below ((S.setTop g).pushFrame (.throwing q)) target → Steps p.tables e below ((W.setTop g).pushFrame (.throwNew "java/lang/NullPointerException" none none)) target) ∧
      Stand p l e R s m₀ args below meth c S locs (cells + 1) (slots + n) ∧ S.heap[q]? = some ce ∧ s.vm.findClass "java/lang/NullPointerException" = some ce.cls ∧ ce.vm = .none := by
  have howns : e.platform.frameOwnsMonitors = true := by rw [X.admits.platform]
  have hfin : e.platform.finalization = false := by rw [X.admits.platform]
  have hpl : e.platform.magicAccessors = ({} : Platform).magicAccessors := by rw [X.admits.platform]
  have hpl2 : e.platform.arrayCloneIsPublic = true := by rw [X.admits.platform]
  have a' : ∀ x, x ∈ Bundle.npeArmAtoms n → x.holds args s none s [] = true := fun x hx => h x hx
  obtain ⟨T, Z, L, LZ, Y⟩ := ThrowableC.of_atoms (args := args) howns hfin hpl (fun x hx => h x (by simp [Bundle.npeArmAtoms, hx]))
  obtain ⟨N, LN, hcN, hnNF, hordN, hffS⟩ := NpeC.of_atoms (args := args) hpl hpl2 L Y (fun x hx => h x (by simp [Bundle.npeArmAtoms, hx]))
  obtain ⟨P1, L1, hP1m, hP1s⟩ := PassC.of_atoms (args := args) (s := s) hpl (X := Bundle.nN) (Y := Bundle.rN) (by decide) (by decide) LibCode.NullPointerException.Init0.at_0 LibCode.NullPointerException.Init0.at_1 LibCode.NullPointerException.Init0.at_4 (fun x hx => h x (by simp [Bundle.npeArmAtoms, hx]))
  obtain ⟨PR, LR, hPRm, hPRs⟩ := PassC.of_atoms (args := args) (s := s) hpl (X := Bundle.rN) (Y := Bundle.eN) (by decide) (by decide) LibCode.RuntimeException.Init0.at_0 LibCode.RuntimeException.Init0.at_1 LibCode.RuntimeException.Init0.at_4 (fun x hx => h x (by simp [Bundle.npeArmAtoms, hx]))
  obtain ⟨PE, LEx, hPEm, hPEs⟩ := PassC.of_atoms (args := args) (s := s) hpl (X := Bundle.eN) (Y := Bundle.tN) (by decide) (by decide) LibCode.Exception.Init0.at_0 LibCode.Exception.Init0.at_1 LibCode.Exception.Init0.at_4 (fun x hx => h x (by simp [Bundle.npeArmAtoms, hx]))
  have hfound : s.vm.findClass Bundle.nN = some P1.m.cls := findClass_of_methodNamed hP1m
  have ecls : N.cN = P1.m.cls := Option.some.inj (hcN.symm.trans hfound)
  have hk : s.vm.classes[P1.m.cls]? = some N.kN := by rw [← ecls]; exact LN.cls
  have hinit := Cond.initialized_spec hfound hk (a' (.initialized Bundle.nN) (by simp [Bundle.npeArmAtoms]))
  have hctor : N.kN.findMethod "<init>" "()V" = some P1.m.idx := findMethod_of_methodNamed hP1m hk
  obtain ⟨c1, k1, hc1, hk1, -, -, -, hn⟩ := Cond.instantiable_spec (a' (.instantiable Bundle.nN n) (by simp [Bundle.npeArmAtoms]))
  cases Option.some.inj (hc1.symm.trans hfound)
  cases Option.some.inj (hk1.symm.trans hk)
  have hfsz : (freshCell P1.m.cls N.kN).slots.size = n := by simp [hn]
  have hlink1 : P1.sup = PR.m := Option.some.inj (hP1s.symm.trans hPRm)
  have hlinkR : PR.sup = PE.m := Option.some.inj (hPRs.symm.trans hPEm)
  have hlinkE : PE.sup = Z.m T.toThrowableT := Option.some.inj (hPEs.symm.trans Y.init0)
  have hLs : ∀ P, P ∈ [PR, PE] → P.Links0 e.platform s := fun P hP => by
    simp only [List.mem_cons, List.not_mem_nil, or_false] at hP
    rcases hP with rfl | rfl
    · exact LR
    · exact LEx
  have hsel0 : selectMethod e.platform s.vm P1.m.cls T.fill0 = .method T.fill0 := by
    obtain ⟨c2, r2, m2, q1, q2, q3, q4, -⟩ := Cond.selects_spec (a' (.selects Bundle.nN Bundle.tFill0 Bundle.tFill0) (by simp [Bundle.npeArmAtoms]))
    cases Option.some.inj (q1.symm.trans hfound)
    cases Option.some.inj (q2.symm.trans (State.methodFound?_of_named Y.fill0 (by decide)))
    cases Option.some.inj (q3.symm.trans Y.fill0)
    rw [Launch.admits_selectMethod X.admits]; exact q4
  have hselF : selectMethod e.platform s.vm P1.m.cls T.fill = .method N.fill := by
    obtain ⟨c2, r2, m2, q1, q2, q3, q4, -⟩ := Cond.selects_spec (a' (.selects Bundle.nN Bundle.tFill Bundle.nFill) (by simp [Bundle.npeArmAtoms]))
    cases Option.some.inj (q1.symm.trans hfound)
    cases Option.some.inj (q2.symm.trans (State.methodFound?_of_named Y.fill (by decide)))
    cases Option.some.inj (q3.symm.trans hnNF)
    rw [Launch.admits_selectMethod X.admits]; exact q4
  obtain ⟨cellS0, hcS0, hiss⟩ := Y.statics
  obtain ⟨u0, hu0⟩ := Cond.staticRefV Y.unassigned L.unassignedStatic L.statics hcS0 hiss (a' (.isRef (.static Bundle.tN "UNASSIGNED_STACK" Bundle.steD)) (by simp [Bundle.npeArmAtoms]))
  obtain ⟨sen, hsen⟩ := Cond.staticRefV Y.sentinel L.sentinelStatic L.statics hcS0 hiss (a' (.isRef (.static Bundle.tN "SUPPRESSED_SENTINEL" Bundle.listD)) (by simp [Bundle.npeArmAtoms]))
  obtain ⟨ci198, i198, fB, hk198, hg198, ha198, hsB, -, hnB, htB, hffB⟩ := Cond.ownField (t := .object "java/lang/Object") Y.found L.cls (by decide +kernel) (a' (.fieldLink Bundle.tN 198 Bundle.tN "backtrace" Bundle.objD) (by simp [Bundle.npeArmAtoms])) (a' (.lays Bundle.tN Bundle.tN "backtrace" Bundle.objD) (by simp [Bundle.npeArmAtoms])) e.platform hpl
  obtain ⟨cellS, hcS', heS, -, hkeep⟩ := X.same.2.2.2.2.2 T.aS cellS0 hcS0
  have hcellS : W.heap[T.aS]? = some cellS := hcS'
  have hout' : ∀ i, (⟨T.aS, i⟩ : Loc) ∉ locs := fun i hmem => by
    have := hlocs _ hmem cellS0 hcS0
    rw [hiss] at this; cases this
  have hknownS : cellS.vm ≠ .unknown := by
    rw [heS]; intro hu
    rw [show cellS0.vm = .unknown from hu] at hiss
    cases hiss
  have hvU : cellS.slots[T.fUnassigned.slot]? = some u0.v := by rw [hkeep _ (hout' _)]; exact hu0
  have hvSen : cellS.slots[T.fSentinel.slot]? = some sen.v := by rw [hkeep _ (hout' _)]; exact hsen
  obtain ⟨tyC, dC, hdC, hdnC⟩ := Cond.laysAt hfound hk Y.cause (a' (.lays Bundle.nN Bundle.tN "cause" "Ljava/lang/Throwable;") (by simp [Bundle.npeArmAtoms]))
  obtain ⟨tyS, dS, hdS, hdnS⟩ := Cond.laysAt hfound hk Y.stack (a' (.lays Bundle.nN Bundle.tN "stackTrace" Bundle.steD) (by simp [Bundle.npeArmAtoms]))
  obtain ⟨tyP, dP, hdP, hdnP⟩ := Cond.laysAt hfound hk Y.supp (a' (.lays Bundle.nN Bundle.tN "suppressedExceptions" Bundle.listD) (by simp [Bundle.npeArmAtoms]))
  obtain ⟨tyX, dX, hdX, hdnX⟩ := Cond.laysAt hfound hk hffS (a' (.lays Bundle.nN Bundle.nN "extendedMessageState" "I") (by simp [Bundle.npeArmAtoms, Bundle.npeAtoms]))
  obtain ⟨hnX, htX⟩ := State.fieldFound?_type hffS (t := .int) (by decide +kernel)
  have xC := Cond.laysApart hdC hdX hdnC hdnX (by rw [hnX, Y.causeName]; decide)
  have xS := Cond.laysApart hdS hdX hdnS hdnX (by rw [hnX, Y.stackName]; decide)
  have xP := Cond.laysApart hdP hdX hdnP hdnX (by rw [hnX, Y.suppName]; decide)
  have hv0 : (freshCell P1.m.cls N.kN).slots[N.fState.slot]? = some (.int 0) := by
    have := fresh_default (c := P1.m.cls) tyX
    rw [htX] at this; exact this
  obtain ⟨tyB, dB, hdB, hdnB⟩ := Cond.laysAt hfound hk hffB (a' (.lays Bundle.nN Bundle.tN "backtrace" Bundle.objD) (by simp [Bundle.npeArmAtoms]))
  have bC := Cond.laysApart hdB hdC hdnB hdnC (by rw [hnB, Y.causeName]; decide)
  have bS := Cond.laysApart hdB hdS hdnB hdnS (by rw [hnB, Y.stackName]; decide)
  have bP := Cond.laysApart hdB hdP hdnB hdnP (by rw [hnB, Y.suppName]; decide)
  have bX := Cond.laysApart hdB hdX hdnB hdnX (by rw [hnB, hnX]; decide)
  have hbk : ((npeCell N.toNpeT (preparedCellV T.toThrowableT (freshCell P1.m.cls N.kN) W.heap.size u0 sen) W.cur).withEntry W.cur).slots[fB.slot]? = some .null := by
    have := fresh_default (c := P1.m.cls) tyB
    rw [htB] at this
    simpa [npeCell, preparedCellV, Cell.setSlot, Cell.withEntry, Array.getElem?_setIfInBounds, bC, bS, bP, bX, bC.symm, bS.symm, bP.symm, bX.symm, defaultValue] using this
  have tkC := Takes.of_laid (v := .ref W.heap.size) hk hordN tyC (by rw [Y.causeType]; rfl)
  have tkS := Takes.of_laid (v := u0.v) hk hordN tyS (by rw [Y.stackType]; exact fits_refV_array _ u0)
  have tkP := Takes.of_laid (v := sen.v) hk hordN tyP (by rw [Y.suppType]; exact fits_refV_object _ sen)
  have tkX := Takes.of_laid (v := .int 1) hk hordN tyX (by rw [htX]; rfl)
  have hskip : SkipFacts T e.platform s (fun u => u) u0 ((npeCell N.toNpeT (preparedCellV T.toThrowableT (freshCell P1.m.cls N.kN) W.heap.size u0 sen) W.cur).withEntry W.cur) := ⟨{ ci198 := ci198, i198 := i198, fBack := fB }, ⟨hk198, hg198, ha198, hsB⟩, hbk, fun _ _ => rfl⟩
  obtain ⟨vm', X3, st, -⟩ := X.throwsNpeColdBareVAt hexec hg hsize T L Z LZ N LN P1 L1 [PR, PE] hLs hlink1 ⟨hlinkR, hlinkE, trivial⟩ hfound hk hinit hordN hctor hsel0 hselF hcellS hknownS hvU hvSen
    hv0 xC xS xP tkC tkS tkP tkX Y.objLocals hskip (fun _ _ hA hW _ hroom _ hrest => L.nativeOff p htr hA hW hroom hrest) (by simpa using hRframes) hRlocals (by simp) hRcells (by rw [hn]; exact hRslots)
  have hlt : W.heap.size < ((W.pushCell (freshCell P1.m.cls N.kN)).setVm vm').heap.size := by
    show W.heap.size < (W.pushCell (freshCell P1.m.cls N.kN)).heap.size
    rw [State.heap_size_pushCell]; omega
  rw [hfsz] at X3
  obtain ⟨g₁, hfrM⟩ := X3.frames_eq
  have hU : ((((W.pushCell (freshCell P1.m.cls N.kN)).setVm vm').setCell W.heap.size (npeBareV T.toThrowableT N.toNpeT (freshCell P1.m.cls N.kN) W.heap.size u0 sen)).setTop g).pushFrame (.throwing W.heap.size) = (((W.pushCell (freshCell P1.m.cls N.kN)).setVm vm').setCell W.heap.size (npeBareV T.toThrowableT N.toNpeT (freshCell P1.m.cls N.kN) W.heap.size u0 sen)).setFrames (.throwing W.heap.size :: .java g :: below) := by
    rw [State.pushFrame, State.frames_setTop _ hfrM, State.setTop_of_frames _ hfrM, State.setFrames_setFrames]
  refine ⟨_, W.heap.size, _, fun target ht => st.trans (by rw [← hU]; exact ht), X3.forget (fun y hy => ?_), heapAt_setCell_self _ hlt, hfound, rfl⟩
  simp only [List.mem_cons, List.not_mem_nil, or_false] at hy
  have hge : s.heap.size ≤ W.heap.size := X.same.2.1
  rcases hy with rfl | rfl | rfl | rfl | rfl <;> exact hge
/-- the words of a machine's NullPointerException, but the four that speak of the heap -/
def vx_atN (n : Nat) : List Cond := (Bundle.npeArmAtoms n).filter vx_no
/-- the words of a machine's throw with a message, but the four that speak of the heap -/
def vx_atM (X : String) (names : List String) : List Cond := (Bundle.messageArmAtoms X names).filter vx_no
section
variable {p : Program} {l : Launch} {e : Env} {R : Room} {s : State} {m : MethodId} {args : Array Value} {below : List Frame} {meth : Method} {c : Code} {H : Heap} {locs : List Loc} {cells slots : Nat}
/-- a frame seen from a rebased start, seen from the first start again -/
theorem vx_back9 {T S : State} {R' : Room} {k n : Nat} (X : Stand p l e R s m args below meth c T locs cells slots) (Y : Stand p l e R' ((T.setVm s.vm).setFrames (.invoking m args :: below)) m args below meth c T [] 0 0) (Z : Stand p l e R' ((T.setVm s.vm).setFrames (.invoking m args :: below)) m args below meth c S [] k n) :
    Stand p l e R s m args below meth c S locs (cells + k) (slots + n) := by
  have hW0 : s.WarmedH ((T.setVm s.vm).setFrames (.invoking m args :: below)).vm := State.WarmedH.refl s
  refine { admits := X.admits, cas := X.cas, clock := X.clock, frames := X.frames, room := X.room, hears := X.hears, method := X.method, code := X.code, here := Z.here, tail := Z.tail, warmed := State.WarmedH.trans hW0 Z.warmed, limits := Z.limits.trans (Y.limits.symm.trans X.limits), bytes := Z.bytes.trans (Y.bytes.symm.trans X.bytes), same := ?_ }
  obtain ⟨e1, e2⟩ := Z.same
  rw [State.setFrames_setFrames] at e1
  have h2 : (T.setVm s.vm).sameButNew (S.setVm s.vm) [] k n := ⟨e1, e2⟩
  have h3 := X.same.trans h2
  rw [List.append_nil] at h3
  exact h3
/-- from the machine's note that E is thrown here with this text -/
def vx_Note (p : Program) (l : Launch) (e : Env) (R : Room) (s : State) (m : MethodId) (args : Array Value) (below : List Frame) (meth : Method) (c : Code) (H : Heap) (locs : List Loc) (cells slots : Nat) (Q : State → Prop) (g : JFrame) (E text : String) : Prop :=
  ∀ T : State, T.heap = H → Stand p l e R s m args below meth c T locs cells slots → ∃ t, Steps p.tables e below ((T.setTop g).pushFrame (.throwNew E (some text) none)) t ∧ Q t
theorem vx_vm {pc : Nat} {ls : Array Slot} {rest : List Value} {Q : State → Prop} (hexec : p.tables.exec = Jvm.exec) (hl : l.stackTraces = false) {cls text : String} {names : List String} {nb : Nat} {A : Nat → Prop}
    (hcls : Bundle.fit cls = true) (hnames : ∀ n ∈ names, Bundle.fit n = true) (hsoe : (cls == "java/lang/StackOverflowError") = false) (hoom : (cls == "java/lang/OutOfMemoryError") = false)
    (hat : ∀ w ∈ vx_atM cls names, w.before args s = true) (hgood : ∀ w ∈ vx_atM cls names, vx_ot w = true)
    (hU : vx_Zq Bundle.tN "UNASSIGNED_STACK" Bundle.steD A s s.heap) (hN : vx_Zq Bundle.tN "SUPPRESSED_SENTINEL" Bundle.listD A s s.heap) (hS : va_S A s.heap H locs) (hsize : ls.size = c.maxLocals)
    (htext : (text == notModelled) = false) (hnb : (stringBytes (stringToUtf16 text)).size ≤ nb) (hnb1 : nb ≤ 1000)
    (hRframes : names.length + 4 < R.frames) (hRlocals : (rest.map fun v => v.category).sum + 10240 ≤ R.locals) (hshort : 13 * names.length + 55 ≤ 10240) (hRcells : cells + 3 ≤ R.cells) (hRslots : slots + (nb + 10) ≤ R.slots) (hlocks : meth.locks = false)
    (k : ∀ (H1 : Heap) (q9 : Addr) (ce : Cell), H.size ≤ H1.size → (∀ q : Nat, q < H.size → H1[q]? = H[q]?) → va_S A s.heap H1 locs → H1[q9]? = some ce → ce.vm = .none → s.vm.findClass cls = some ce.cls → vx_W p l e R s m args below meth c H1 locs (cells + 3) (slots + (nb + 10)) Q (F0 m pc ls rest) q9) :
    vx_Note p l e R s m args below meth c H locs cells slots Q (F0 m pc ls rest) cls text := by
  intro T hT X
  have htr : e.platform.stackTraces = false := (show e.platform.stackTraces = l.stackTraces by rw [X.admits.platform]).trans hl
  have Y := vx_rebase X (R' := { frames := R.frames, locals := R.locals, cells := 3, slots := nb + 10 }) (Nat.le_refl _) (Nat.le_refl _) hRcells hRslots
  have hhp : ((T.setVm s.vm).setFrames (.invoking m args :: below)).heap = H := hT
  have hW0 : s.WarmedH ((T.setVm s.vm).setFrames (.invoking m args :: below)).vm := State.WarmedH.refl s
  have hat' : ∀ w ∈ vx_atM cls names, w.before args ((T.setVm s.vm).setFrames (.invoking m args :: below)) = true := fun w hw => vx_ot_at hW0 rfl (hgood w hw) (hat w hw)
  have hU' : vx_Zq Bundle.tN "UNASSIGNED_STACK" Bundle.steD A ((T.setVm s.vm).setFrames (.invoking m args :: below)) ((T.setVm s.vm).setFrames (.invoking m args :: below)).heap := by rw [hhp]; exact vx_Zq.moved hW0.alike (hU.kept hS.2.1)
  have hN' : vx_Zq Bundle.tN "SUPPRESSED_SENTINEL" Bundle.listD A ((T.setVm s.vm).setFrames (.invoking m args :: below)) ((T.setVm s.vm).setFrames (.invoking m args :: below)).heap := by rw [hhp]; exact vx_Zq.moved hW0.alike (hN.kept hS.2.1)
  obtain ⟨S, q, ce, st, Z, hce, hcl', hv⟩ := vx_vmAt Y hexec htr (cls := cls) (names := names) (text := text) hcls hnames hsoe hoom (vx_own hat' (vx_isRefq hU'.1) (vx_isRefq hN'.1) hU'.2.word hN'.2.word) (fun x hx => nomatch hx) htext
    (by rw [Launch.admits_arrayLengthLimit X.admits]; omega) (by rw [Launch.admits_maxHeapBytes X.admits]; simp only [componentBytes]; omega)
    (g := F0 m pc ls rest) rfl hsize hRframes (by show 2 * 0 + (rest.map fun v => v.category).sum + 10240 ≤ R.locals; omega) hshort (by show 0 + 3 ≤ 3; omega) (by show 0 + (_ + 4 + 6) ≤ nb + 10; omega) hlocks
  obtain ⟨f1, f2⟩ := vx_frame Z.same
  have f1' : H.size ≤ S.heap.size := by rw [← hT]; exact f1
  have f2' : ∀ q : Nat, q < H.size → S.heap[q]? = H[q]? := fun q hq => by
    rw [← hT]
    exact f2 q (by rw [← hT] at hq; exact hq) (fun z hz => nomatch hz)
  have X5 := vx_back9 X Y Z
  have X6 : Stand p l e R s m args below meth c S locs (cells + 3) (slots + (nb + 10)) := { X5 with same := X5.same.mono (by omega) (by omega) }
  obtain ⟨t, a1, b1⟩ := k S.heap q ce f1' f2' ⟨Nat.le_trans hS.1 f1', fun q h1 h2 => (f2' q (Nat.lt_of_lt_of_le h1 hS.1)).trans (hS.2.1 q h1 h2), hS.2.2⟩ hce hv hcl' S rfl X6
  exact ⟨t, st t a1, b1⟩
/-- from the machine's note that NullPointerException is thrown here -/
def vx_NoteN (p : Program) (l : Launch) (e : Env) (R : Room) (s : State) (m : MethodId) (args : Array Value) (below : List Frame) (meth : Method) (c : Code) (H : Heap) (locs : List Loc) (cells slots : Nat) (Q : State → Prop) (g : JFrame) : Prop :=
  ∀ T : State, T.heap = H → Stand p l e R s m args below meth c T locs cells slots → ∃ t, Steps p.tables e below ((T.setTop g).pushFrame (.throwNew "java/lang/NullPointerException" none none)) t ∧ Q t
theorem vx_npe {pc : Nat} {ls : Array Slot} {rest : List Value} {Q : State → Prop} (hexec : p.tables.exec = Jvm.exec) (hl : l.stackTraces = false) {nb : Nat} {A : Nat → Prop}
    (hat : ∀ w ∈ vx_atN nb, w.before args s = true) (hgood : ∀ w ∈ vx_atN nb, vx_ot w = true)
    (hU : vx_Zq Bundle.tN "UNASSIGNED_STACK" Bundle.steD A s s.heap) (hN : vx_Zq Bundle.tN "SUPPRESSED_SENTINEL" Bundle.listD A s s.heap) (hS : va_S A s.heap H locs) (hsize : ls.size = c.maxLocals)
    (hRframes : 7 < R.frames) (hRlocals : (rest.map fun v => v.category).sum + 10240 ≤ R.locals) (hRcells : cells + 1 ≤ R.cells) (hRslots : slots + nb ≤ R.slots) (hlocks : meth.locks = false)
    (k : ∀ (H1 : Heap) (q9 : Addr) (ce : Cell), H.size ≤ H1.size → (∀ q : Nat, q < H.size → H1[q]? = H[q]?) → va_S A s.heap H1 locs → H1[q9]? = some ce → ce.vm = .none → s.vm.findClass "java/lang/NullPointerException" = some ce.cls → vx_W p l e R s m args below meth c H1 locs (cells + 1) (slots + nb) Q (F0 m pc ls rest) q9) :
    vx_NoteN p l e R s m args below meth c H locs cells slots Q (F0 m pc ls rest) := by
  intro T hT X
  have htr : e.platform.stackTraces = false := (show e.platform.stackTraces = l.stackTraces by rw [X.admits.platform]).trans hl
  have Y := vx_rebase X (R' := { frames := R.frames, locals := R.locals, cells := 1, slots := nb }) (Nat.le_refl _) (Nat.le_refl _) hRcells hRslots
  have hhp : ((T.setVm s.vm).setFrames (.invoking m args :: below)).heap = H := hT
  have hW0 : s.WarmedH ((T.setVm s.vm).setFrames (.invoking m args :: below)).vm := State.WarmedH.refl s
  have hat' : ∀ w ∈ vx_atN nb, w.before args ((T.setVm s.vm).setFrames (.invoking m args :: below)) = true := fun w hw => vx_ot_at hW0 rfl (hgood w hw) (hat w hw)
  have hU' : vx_Zq Bundle.tN "UNASSIGNED_STACK" Bundle.steD A ((T.setVm s.vm).setFrames (.invoking m args :: below)) ((T.setVm s.vm).setFrames (.invoking m args :: below)).heap := by rw [hhp]; exact vx_Zq.moved hW0.alike (hU.kept hS.2.1)
  have hN' : vx_Zq Bundle.tN "SUPPRESSED_SENTINEL" Bundle.listD A ((T.setVm s.vm).setFrames (.invoking m args :: below)) ((T.setVm s.vm).setFrames (.invoking m args :: below)).heap := by rw [hhp]; exact vx_Zq.moved hW0.alike (hN.kept hS.2.1)
  obtain ⟨S, q, ce, st, Z, hce, hcl', hv⟩ := vx_npeAt Y hexec htr (n := nb) (vx_own hat' (vx_isRefq hU'.1) (vx_isRefq hN'.1) hU'.2.word hN'.2.word) (fun x hx => nomatch hx)
    (g := F0 m pc ls rest) rfl hsize hRframes (by show 2 * 0 + (rest.map fun v => v.category).sum + 10240 ≤ R.locals; omega) (by show 0 + 1 ≤ 1; omega) (by show 0 + nb ≤ nb; omega) hlocks
  obtain ⟨f1, f2⟩ := vx_frame Z.same
  have f1' : H.size ≤ S.heap.size := by rw [← hT]; exact f1
  have f2' : ∀ q : Nat, q < H.size → S.heap[q]? = H[q]? := fun q hq => by
    rw [← hT]
    exact f2 q (by rw [← hT] at hq; exact hq) (fun z hz => nomatch hz)
  have X5 := vx_back9 X Y Z
  have X6 : Stand p l e R s m args below meth c S locs (cells + 1) (slots + nb) := { X5 with same := X5.same.mono (by omega) (by omega) }
  obtain ⟨t, a1, b1⟩ := k S.heap q ce f1' f2' ⟨Nat.le_trans hS.1 f1', fun q h1 h2 => (f2' q (Nat.lt_of_lt_of_le h1 hS.1)).trans (hS.2.1 q h1 h2), hS.2.2⟩ hce hv hcl' S rfl X6
  exact ⟨t, st t a1, b1⟩
variable {Q : State → Prop} {cc : ByteArray} {pc : Nat} {ls : Array Slot} {rest : List Value}
theorem vx_idivZ (hexec : p.tables.exec = Jvm.exec) (hb : c.code = cc) {a b : Int32} (h0 : b = 0) (d : decode cc pc = .ok (.idiv, 1)) (k : vx_Note p l e R s m args below meth c H locs cells slots Q (F0 m pc ls rest) "java/lang/ArithmeticException" "/ by zero") :
    W p l e R s m args below meth c H locs cells slots Q (F0 m pc ls (.int b :: .int a :: rest)) := by
  intro T hT X
  obtain ⟨t, st, q⟩ := k T hT X
  exact ⟨t, X.idivZero hexec (g := F0 m pc ls (.int b :: .int a :: rest)) rfl (a := a) (rest := rest) (by rw [h0]) (by rw [hb]; exact d) t st, q⟩
theorem vx_iremZ (hexec : p.tables.exec = Jvm.exec) (hb : c.code = cc) {a b : Int32} (h0 : b = 0) (d : decode cc pc = .ok (.irem, 1)) (k : vx_Note p l e R s m args below meth c H locs cells slots Q (F0 m pc ls rest) "java/lang/ArithmeticException" "/ by zero") :
    W p l e R s m args below meth c H locs cells slots Q (F0 m pc ls (.int b :: .int a :: rest)) := by
  intro T hT X
  obtain ⟨t, st, q⟩ := k T hT X
  exact ⟨t, X.iremZero hexec (g := F0 m pc ls (.int b :: .int a :: rest)) rfl (a := a) (rest := rest) (by rw [h0]) (by rw [hb]; exact d) t st, q⟩
theorem vx_ldivZ (hexec : p.tables.exec = Jvm.exec) (hb : c.code = cc) {a b : Int64} (h0 : b = 0) (d : decode cc pc = .ok (.ldiv, 1)) (k : vx_Note p l e R s m args below meth c H locs cells slots Q (F0 m pc ls rest) "java/lang/ArithmeticException" "/ by zero") :
    W p l e R s m args below meth c H locs cells slots Q (F0 m pc ls (.long b :: .long a :: rest)) := by
  intro T hT X
  obtain ⟨t, st, q⟩ := k T hT X
  exact ⟨t, X.ldivZero hexec (g := F0 m pc ls (.long b :: .long a :: rest)) rfl (a := a) (rest := rest) (by rw [h0]) (by rw [hb]; exact d) t st, q⟩
theorem vx_lremZ (hexec : p.tables.exec = Jvm.exec) (hb : c.code = cc) {a b : Int64} (h0 : b = 0) (d : decode cc pc = .ok (.lrem, 1)) (k : vx_Note p l e R s m args below meth c H locs cells slots Q (F0 m pc ls rest) "java/lang/ArithmeticException" "/ by zero") :
    W p l e R s m args below meth c H locs cells slots Q (F0 m pc ls (.long b :: .long a :: rest)) := by
  intro T hT X
  obtain ⟨t, st, q⟩ := k T hT X
  exact ⟨t, X.lremZero hexec (g := F0 m pc ls (.long b :: .long a :: rest)) rfl (a := a) (rest := rest) (by rw [h0]) (by rw [hb]; exact d) t st, q⟩
theorem vx_ialdZ {D : va_G} {cl : List vw_C} {ws : va_W} {tys : List (ClassId × FieldType)} {a : Nat} (hexec : p.tables.exec = Jvm.exec) (hb : c.code = cc) (hK : va_K D cl tys s) (hP : va_P D cl ws H) (q0 t0 : Nat) {cA : ClassId} {n : Nat} {f : Nat → Int32} (ha : ws[q0]? = some (a, .inl (cA, n, .inl f))) (ht : tys[t0]? = some (cA, .int)) {i : Int32} (hout : ¬ vp_in i n) (hdg : decode cc pc = .ok (.iaload, 1))
    (k : ∀ tx : String, tx = (toString "Index " ++ toString i ++ toString " out of bounds for length " ++ toString n : String) → vx_Note p l e R s m args below meth c H locs cells slots Q (F0 m pc ls rest) "java/lang/ArrayIndexOutOfBoundsException" tx) : W p l e R s m args below meth c H locs cells slots Q (F0 m pc ls (.int i :: .ref a :: rest)) := by
  intro T hT X
  obtain ⟨t, st, q⟩ := k _ rfl T hT X
  refine ⟨t, ?_, q⟩
  have h1 := X.ialoadOut hexec (by rw [hT]; exact hP q0 _ ha) ((hK.2 t0 _ ht).1 n (fun j => .int (f j))) (j := i) (by show (i < 0 ∨ (arrV _ _ _).slots.size ≤ _); rw [arrV_size]; exact Classical.byContradiction hout) (g := F0 m pc ls (.int i :: .ref a :: rest)) rfl (rest := rest) rfl (by rw [hb]; exact hdg) t
  simp only [arrV_size] at h1
  exact h1 st
theorem vx_iastZ {D : va_G} {cl : List vw_C} {ws : va_W} {tys : List (ClassId × FieldType)} {a : Nat} (hexec : p.tables.exec = Jvm.exec) (hb : c.code = cc) (hK : va_K D cl tys s) (hP : va_P D cl ws H) (q0 t0 : Nat) {cA : ClassId} {n : Nat} {f : Nat → Int32} (ha : ws[q0]? = some (a, .inl (cA, n, .inl f))) (ht : tys[t0]? = some (cA, .int)) {i : Int32} {x : Int32} (hout : ¬ vp_in i n) (hdg : decode cc pc = .ok (.iastore, 1))
    (k : ∀ tx : String, tx = (toString "Index " ++ toString i ++ toString " out of bounds for length " ++ toString n : String) → vx_Note p l e R s m args below meth c H locs cells slots Q (F0 m pc ls rest) "java/lang/ArrayIndexOutOfBoundsException" tx) : W p l e R s m args below meth c H locs cells slots Q (F0 m pc ls (.int x :: .int i :: .ref a :: rest)) := by
  intro T hT X
  obtain ⟨t, st, q⟩ := k _ rfl T hT X
  refine ⟨t, ?_, q⟩
  have h1 := X.iastoreOut hexec (by rw [hT]; exact hP q0 _ ha) ((hK.2 t0 _ ht).1 n (fun j => .int (f j))) (j := i) (by show (i < 0 ∨ (arrV _ _ _).slots.size ≤ _); rw [arrV_size]; exact Classical.byContradiction hout) (g := F0 m pc ls (.int x :: .int i :: .ref a :: rest)) rfl (rest := rest) rfl (by rw [hb]; exact hdg) t
  simp only [arrV_size] at h1
  exact h1 st
theorem vx_baldZ {D : va_G} {cl : List vw_C} {ws : va_W} {tys : List (ClassId × FieldType)} {a : Nat} (hexec : p.tables.exec = Jvm.exec) (hb : c.code = cc) (hK : va_K D cl tys s) (hP : va_P D cl ws H) (q0 t0 : Nat) {cA : ClassId} {n : Nat} {f : Nat → Int32} (ha : ws[q0]? = some (a, .inl (cA, n, .inl f))) (ht : tys[t0]? = some (cA, .byte)) {i : Int32} (hout : ¬ vp_in i n) (hdg : decode cc pc = .ok (.baload, 1))
    (k : ∀ tx : String, tx = (toString "Index " ++ toString i ++ toString " out of bounds for length " ++ toString n : String) → vx_Note p l e R s m args below meth c H locs cells slots Q (F0 m pc ls rest) "java/lang/ArrayIndexOutOfBoundsException" tx) : W p l e R s m args below meth c H locs cells slots Q (F0 m pc ls (.int i :: .ref a :: rest)) := by
  intro T hT X
  obtain ⟨t, st, q⟩ := k _ rfl T hT X
  refine ⟨t, ?_, q⟩
  have h1 := X.baloadOut hexec (by rw [hT]; exact hP q0 _ ha) ((hK.2 t0 _ ht).1 n (fun j => .int (f j))) (j := i) (by show (i < 0 ∨ (arrV _ _ _).slots.size ≤ _); rw [arrV_size]; exact Classical.byContradiction hout) (g := F0 m pc ls (.int i :: .ref a :: rest)) rfl (rest := rest) rfl (by rw [hb]; exact hdg) t
  simp only [arrV_size] at h1
  exact h1 st
theorem vx_bastZ {D : va_G} {cl : List vw_C} {ws : va_W} {tys : List (ClassId × FieldType)} {a : Nat} (hexec : p.tables.exec = Jvm.exec) (hb : c.code = cc) (hK : va_K D cl tys s) (hP : va_P D cl ws H) (q0 t0 : Nat) {cA : ClassId} {n : Nat} {f : Nat → Int32} (ha : ws[q0]? = some (a, .inl (cA, n, .inl f))) (ht : tys[t0]? = some (cA, .byte)) {i : Int32} {x : Int32} (hout : ¬ vp_in i n) (hdg : decode cc pc = .ok (.bastore, 1))
    (k : ∀ tx : String, tx = (toString "Index " ++ toString i ++ toString " out of bounds for length " ++ toString n : String) → vx_Note p l e R s m args below meth c H locs cells slots Q (F0 m pc ls rest) "java/lang/ArrayIndexOutOfBoundsException" tx) : W p l e R s m args below meth c H locs cells slots Q (F0 m pc ls (.int x :: .int i :: .ref a :: rest)) := by
  intro T hT X
  obtain ⟨t, st, q⟩ := k _ rfl T hT X
  refine ⟨t, ?_, q⟩
  have h1 := X.bastoreOut hexec (by rw [hT]; exact hP q0 _ ha) ((hK.2 t0 _ ht).1 n (fun j => .int (f j))) (j := i) (by show (i < 0 ∨ (arrV _ _ _).slots.size ≤ _); rw [arrV_size]; exact Classical.byContradiction hout) (g := F0 m pc ls (.int x :: .int i :: .ref a :: rest)) rfl (rest := rest) rfl (by rw [hb]; exact hdg) t
  simp only [arrV_size] at h1
  exact h1 st
theorem vx_zaldZ {D : va_G} {cl : List vw_C} {ws : va_W} {tys : List (ClassId × FieldType)} {a : Nat} (hexec : p.tables.exec = Jvm.exec) (hb : c.code = cc) (hK : va_K D cl tys s) (hP : va_P D cl ws H) (q0 t0 : Nat) {cA : ClassId} {n : Nat} {f : Nat → Int32} (ha : ws[q0]? = some (a, .inl (cA, n, .inl f))) (ht : tys[t0]? = some (cA, .boolean)) {i : Int32} (hout : ¬ vp_in i n) (hdg : decode cc pc = .ok (.baload, 1))
    (k : ∀ tx : String, tx = (toString "Index " ++ toString i ++ toString " out of bounds for length " ++ toString n : String) → vx_Note p l e R s m args below meth c H locs cells slots Q (F0 m pc ls rest) "java/lang/ArrayIndexOutOfBoundsException" tx) : W p l e R s m args below meth c H locs cells slots Q (F0 m pc ls (.int i :: .ref a :: rest)) := by
  intro T hT X
  obtain ⟨t, st, q⟩ := k _ rfl T hT X
  refine ⟨t, ?_, q⟩
  have h1 := X.baloadOut hexec (by rw [hT]; exact hP q0 _ ha) ((hK.2 t0 _ ht).1 n (fun j => .int (f j))) (j := i) (by show (i < 0 ∨ (arrV _ _ _).slots.size ≤ _); rw [arrV_size]; exact Classical.byContradiction hout) (g := F0 m pc ls (.int i :: .ref a :: rest)) rfl (rest := rest) rfl (by rw [hb]; exact hdg) t
  simp only [arrV_size] at h1
  exact h1 st
theorem vx_zastZ {D : va_G} {cl : List vw_C} {ws : va_W} {tys : List (ClassId × FieldType)} {a : Nat} (hexec : p.tables.exec = Jvm.exec) (hb : c.code = cc) (hK : va_K D cl tys s) (hP : va_P D cl ws H) (q0 t0 : Nat) {cA : ClassId} {n : Nat} {f : Nat → Int32} (ha : ws[q0]? = some (a, .inl (cA, n, .inl f))) (ht : tys[t0]? = some (cA, .boolean)) {i : Int32} {x : Int32} (hout : ¬ vp_in i n) (hdg : decode cc pc = .ok (.bastore, 1))
    (k : ∀ tx : String, tx = (toString "Index " ++ toString i ++ toString " out of bounds for length " ++ toString n : String) → vx_Note p l e R s m args below meth c H locs cells slots Q (F0 m pc ls rest) "java/lang/ArrayIndexOutOfBoundsException" tx) : W p l e R s m args below meth c H locs cells slots Q (F0 m pc ls (.int x :: .int i :: .ref a :: rest)) := by
  intro T hT X
  obtain ⟨t, st, q⟩ := k _ rfl T hT X
  refine ⟨t, ?_, q⟩
  have h1 := X.bastoreOut hexec (by rw [hT]; exact hP q0 _ ha) ((hK.2 t0 _ ht).1 n (fun j => .int (f j))) (j := i) (by show (i < 0 ∨ (arrV _ _ _).slots.size ≤ _); rw [arrV_size]; exact Classical.byContradiction hout) (g := F0 m pc ls (.int x :: .int i :: .ref a :: rest)) rfl (rest := rest) rfl (by rw [hb]; exact hdg) t
  simp only [arrV_size] at h1
  exact h1 st
theorem vx_caldZ {D : va_G} {cl : List vw_C} {ws : va_W} {tys : List (ClassId × FieldType)} {a : Nat} (hexec : p.tables.exec = Jvm.exec) (hb : c.code = cc) (hK : va_K D cl tys s) (hP : va_P D cl ws H) (q0 t0 : Nat) {cA : ClassId} {n : Nat} {f : Nat → Int32} (ha : ws[q0]? = some (a, .inl (cA, n, .inl f))) (ht : tys[t0]? = some (cA, .char)) {i : Int32} (hout : ¬ vp_in i n) (hdg : decode cc pc = .ok (.caload, 1))
    (k : ∀ tx : String, tx = (toString "Index " ++ toString i ++ toString " out of bounds for length " ++ toString n : String) → vx_Note p l e R s m args below meth c H locs cells slots Q (F0 m pc ls rest) "java/lang/ArrayIndexOutOfBoundsException" tx) : W p l e R s m args below meth c H locs cells slots Q (F0 m pc ls (.int i :: .ref a :: rest)) := by
  intro T hT X
  obtain ⟨t, st, q⟩ := k _ rfl T hT X
  refine ⟨t, ?_, q⟩
  have h1 := X.caloadOut hexec (by rw [hT]; exact hP q0 _ ha) ((hK.2 t0 _ ht).1 n (fun j => .int (f j))) (j := i) (by show (i < 0 ∨ (arrV _ _ _).slots.size ≤ _); rw [arrV_size]; exact Classical.byContradiction hout) (g := F0 m pc ls (.int i :: .ref a :: rest)) rfl (rest := rest) rfl (by rw [hb]; exact hdg) t
  simp only [arrV_size] at h1
  exact h1 st
theorem vx_castZ {D : va_G} {cl : List vw_C} {ws : va_W} {tys : List (ClassId × FieldType)} {a : Nat} (hexec : p.tables.exec = Jvm.exec) (hb : c.code = cc) (hK : va_K D cl tys s) (hP : va_P D cl ws H) (q0 t0 : Nat) {cA : ClassId} {n : Nat} {f : Nat → Int32} (ha : ws[q0]? = some (a, .inl (cA, n, .inl f))) (ht : tys[t0]? = some (cA, .char)) {i : Int32} {x : Int32} (hout : ¬ vp_in i n) (hdg : decode cc pc = .ok (.castore, 1))
    (k : ∀ tx : String, tx = (toString "Index " ++ toString i ++ toString " out of bounds for length " ++ toString n : String) → vx_Note p l e R s m args below meth c H locs cells slots Q (F0 m pc ls rest) "java/lang/ArrayIndexOutOfBoundsException" tx) : W p l e R s m args below meth c H locs cells slots Q (F0 m pc ls (.int x :: .int i :: .ref a :: rest)) := by
  intro T hT X
  obtain ⟨t, st, q⟩ := k _ rfl T hT X
  refine ⟨t, ?_, q⟩
  have h1 := X.castoreOut hexec (by rw [hT]; exact hP q0 _ ha) ((hK.2 t0 _ ht).1 n (fun j => .int (f j))) (j := i) (by show (i < 0 ∨ (arrV _ _ _).slots.size ≤ _); rw [arrV_size]; exact Classical.byContradiction hout) (g := F0 m pc ls (.int x :: .int i :: .ref a :: rest)) rfl (rest := rest) rfl (by rw [hb]; exact hdg) t
  simp only [arrV_size] at h1
  exact h1 st
theorem vx_saldZ {D : va_G} {cl : List vw_C} {ws : va_W} {tys : List (ClassId × FieldType)} {a : Nat} (hexec : p.tables.exec = Jvm.exec) (hb : c.code = cc) (hK : va_K D cl tys s) (hP : va_P D cl ws H) (q0 t0 : Nat) {cA : ClassId} {n : Nat} {f : Nat → Int32} (ha : ws[q0]? = some (a, .inl (cA, n, .inl f))) (ht : tys[t0]? = some (cA, .short)) {i : Int32} (hout : ¬ vp_in i n) (hdg : decode cc pc = .ok (.saload, 1))
    (k : ∀ tx : String, tx = (toString "Index " ++ toString i ++ toString " out of bounds for length " ++ toString n : String) → vx_Note p l e R s m args below meth c H locs cells slots Q (F0 m pc ls rest) "java/lang/ArrayIndexOutOfBoundsException" tx) : W p l e R s m args below meth c H locs cells slots Q (F0 m pc ls (.int i :: .ref a :: rest)) := by
  intro T hT X
  obtain ⟨t, st, q⟩ := k _ rfl T hT X
  refine ⟨t, ?_, q⟩
  have h1 := X.saloadOut hexec (by rw [hT]; exact hP q0 _ ha) ((hK.2 t0 _ ht).1 n (fun j => .int (f j))) (j := i) (by show (i < 0 ∨ (arrV _ _ _).slots.size ≤ _); rw [arrV_size]; exact Classical.byContradiction hout) (g := F0 m pc ls (.int i :: .ref a :: rest)) rfl (rest := rest) rfl (by rw [hb]; exact hdg) t
  simp only [arrV_size] at h1
  exact h1 st
theorem vx_sastZ {D : va_G} {cl : List vw_C} {ws : va_W} {tys : List (ClassId × FieldType)} {a : Nat} (hexec : p.tables.exec = Jvm.exec) (hb : c.code = cc) (hK : va_K D cl tys s) (hP : va_P D cl ws H) (q0 t0 : Nat) {cA : ClassId} {n : Nat} {f : Nat → Int32} (ha : ws[q0]? = some (a, .inl (cA, n, .inl f))) (ht : tys[t0]? = some (cA, .short)) {i : Int32} {x : Int32} (hout : ¬ vp_in i n) (hdg : decode cc pc = .ok (.sastore, 1))
    (k : ∀ tx : String, tx = (toString "Index " ++ toString i ++ toString " out of bounds for length " ++ toString n : String) → vx_Note p l e R s m args below meth c H locs cells slots Q (F0 m pc ls rest) "java/lang/ArrayIndexOutOfBoundsException" tx) : W p l e R s m args below meth c H locs cells slots Q (F0 m pc ls (.int x :: .int i :: .ref a :: rest)) := by
  intro T hT X
  obtain ⟨t, st, q⟩ := k _ rfl T hT X
  refine ⟨t, ?_, q⟩
  have h1 := X.sastoreOut hexec (by rw [hT]; exact hP q0 _ ha) ((hK.2 t0 _ ht).1 n (fun j => .int (f j))) (j := i) (by show (i < 0 ∨ (arrV _ _ _).slots.size ≤ _); rw [arrV_size]; exact Classical.byContradiction hout) (g := F0 m pc ls (.int x :: .int i :: .ref a :: rest)) rfl (rest := rest) rfl (by rw [hb]; exact hdg) t
  simp only [arrV_size] at h1
  exact h1 st
theorem vx_laldZ {D : va_G} {cl : List vw_C} {ws : va_W} {tys : List (ClassId × FieldType)} {a : Nat} (hexec : p.tables.exec = Jvm.exec) (hb : c.code = cc) (hK : va_K D cl tys s) (hP : va_P D cl ws H) (q0 t0 : Nat) {cA : ClassId} {n : Nat} {f : Nat → Int64} (ha : ws[q0]? = some (a, .inl (cA, n, .inr (.inl f)))) (ht : tys[t0]? = some (cA, .long)) {i : Int32} (hout : ¬ vp_in i n) (hdg : decode cc pc = .ok (.laload, 1))
    (k : ∀ tx : String, tx = (toString "Index " ++ toString i ++ toString " out of bounds for length " ++ toString n : String) → vx_Note p l e R s m args below meth c H locs cells slots Q (F0 m pc ls rest) "java/lang/ArrayIndexOutOfBoundsException" tx) : W p l e R s m args below meth c H locs cells slots Q (F0 m pc ls (.int i :: .ref a :: rest)) := by
  intro T hT X
  obtain ⟨t, st, q⟩ := k _ rfl T hT X
  refine ⟨t, ?_, q⟩
  have h1 := X.laloadOut hexec (by rw [hT]; exact hP q0 _ ha) ((hK.2 t0 _ ht).1 n (fun j => .long (f j))) (j := i) (by show (i < 0 ∨ (arrV _ _ _).slots.size ≤ _); rw [arrV_size]; exact Classical.byContradiction hout) (g := F0 m pc ls (.int i :: .ref a :: rest)) rfl (rest := rest) rfl (by rw [hb]; exact hdg) t
  simp only [arrV_size] at h1
  exact h1 st
theorem vx_lastZ {D : va_G} {cl : List vw_C} {ws : va_W} {tys : List (ClassId × FieldType)} {a : Nat} (hexec : p.tables.exec = Jvm.exec) (hb : c.code = cc) (hK : va_K D cl tys s) (hP : va_P D cl ws H) (q0 t0 : Nat) {cA : ClassId} {n : Nat} {f : Nat → Int64} (ha : ws[q0]? = some (a, .inl (cA, n, .inr (.inl f)))) (ht : tys[t0]? = some (cA, .long)) {i : Int32} {x : Int64} (hout : ¬ vp_in i n) (hdg : decode cc pc = .ok (.lastore, 1))
    (k : ∀ tx : String, tx = (toString "Index " ++ toString i ++ toString " out of bounds for length " ++ toString n : String) → vx_Note p l e R s m args below meth c H locs cells slots Q (F0 m pc ls rest) "java/lang/ArrayIndexOutOfBoundsException" tx) : W p l e R s m args below meth c H locs cells slots Q (F0 m pc ls (.long x :: .int i :: .ref a :: rest)) := by
  intro T hT X
  obtain ⟨t, st, q⟩ := k _ rfl T hT X
  refine ⟨t, ?_, q⟩
  have h1 := X.lastoreOut hexec (by rw [hT]; exact hP q0 _ ha) ((hK.2 t0 _ ht).1 n (fun j => .long (f j))) (j := i) (by show (i < 0 ∨ (arrV _ _ _).slots.size ≤ _); rw [arrV_size]; exact Classical.byContradiction hout) (g := F0 m pc ls (.long x :: .int i :: .ref a :: rest)) rfl (rest := rest) rfl (by rw [hb]; exact hdg) t
  simp only [arrV_size] at h1
  exact h1 st
theorem vx_faldZ {D : va_G} {cl : List vw_C} {ws : va_W} {tys : List (ClassId × FieldType)} {a : Nat} (hexec : p.tables.exec = Jvm.exec) (hb : c.code = cc) (hK : va_K D cl tys s) (hP : va_P D cl ws H) (q0 t0 : Nat) {cA : ClassId} {n : Nat} {f : Nat → UInt32} (ha : ws[q0]? = some (a, .inl (cA, n, .inr (.inr (.inl f))))) (ht : tys[t0]? = some (cA, .float)) {i : Int32} (hout : ¬ vp_in i n) (hdg : decode cc pc = .ok (.faload, 1))
    (k : ∀ tx : String, tx = (toString "Index " ++ toString i ++ toString " out of bounds for length " ++ toString n : String) → vx_Note p l e R s m args below meth c H locs cells slots Q (F0 m pc ls rest) "java/lang/ArrayIndexOutOfBoundsException" tx) : W p l e R s m args below meth c H locs cells slots Q (F0 m pc ls (.int i :: .ref a :: rest)) := by
  intro T hT X
  obtain ⟨t, st, q⟩ := k _ rfl T hT X
  refine ⟨t, ?_, q⟩
  have h1 := X.faloadOut hexec (by rw [hT]; exact hP q0 _ ha) ((hK.2 t0 _ ht).1 n (fun j => .float (f j))) (j := i) (by show (i < 0 ∨ (arrV _ _ _).slots.size ≤ _); rw [arrV_size]; exact Classical.byContradiction hout) (g := F0 m pc ls (.int i :: .ref a :: rest)) rfl (rest := rest) rfl (by rw [hb]; exact hdg) t
  simp only [arrV_size] at h1
  exact h1 st
theorem vx_fastZ {D : va_G} {cl : List vw_C} {ws : va_W} {tys : List (ClassId × FieldType)} {a : Nat} (hexec : p.tables.exec = Jvm.exec) (hb : c.code = cc) (hK : va_K D cl tys s) (hP : va_P D cl ws H) (q0 t0 : Nat) {cA : ClassId} {n : Nat} {f : Nat → UInt32} (ha : ws[q0]? = some (a, .inl (cA, n, .inr (.inr (.inl f))))) (ht : tys[t0]? = some (cA, .float)) {i : Int32} {x : UInt32} (hout : ¬ vp_in i n) (hdg : decode cc pc = .ok (.fastore, 1))
    (k : ∀ tx : String, tx = (toString "Index " ++ toString i ++ toString " out of bounds for length " ++ toString n : String) → vx_Note p l e R s m args below meth c H locs cells slots Q (F0 m pc ls rest) "java/lang/ArrayIndexOutOfBoundsException" tx) : W p l e R s m args below meth c H locs cells slots Q (F0 m pc ls (.float x :: .int i :: .ref a :: rest)) := by
  intro T hT X
  obtain ⟨t, st, q⟩ := k _ rfl T hT X
  refine ⟨t, ?_, q⟩
  have h1 := X.fastoreOut hexec (by rw [hT]; exact hP q0 _ ha) ((hK.2 t0 _ ht).1 n (fun j => .float (f j))) (j := i) (by show (i < 0 ∨ (arrV _ _ _).slots.size ≤ _); rw [arrV_size]; exact Classical.byContradiction hout) (g := F0 m pc ls (.float x :: .int i :: .ref a :: rest)) rfl (rest := rest) rfl (by rw [hb]; exact hdg) t
  simp only [arrV_size] at h1
  exact h1 st
theorem vx_daldZ {D : va_G} {cl : List vw_C} {ws : va_W} {tys : List (ClassId × FieldType)} {a : Nat} (hexec : p.tables.exec = Jvm.exec) (hb : c.code = cc) (hK : va_K D cl tys s) (hP : va_P D cl ws H) (q0 t0 : Nat) {cA : ClassId} {n : Nat} {f : Nat → UInt64} (ha : ws[q0]? = some (a, .inl (cA, n, .inr (.inr (.inr (.inl f)))))) (ht : tys[t0]? = some (cA, .double)) {i : Int32} (hout : ¬ vp_in i n) (hdg : decode cc pc = .ok (.daload, 1))
    (k : ∀ tx : String, tx = (toString "Index " ++ toString i ++ toString " out of bounds for length " ++ toString n : String) → vx_Note p l e R s m args below meth c H locs cells slots Q (F0 m pc ls rest) "java/lang/ArrayIndexOutOfBoundsException" tx) : W p l e R s m args below meth c H locs cells slots Q (F0 m pc ls (.int i :: .ref a :: rest)) := by
  intro T hT X
  obtain ⟨t, st, q⟩ := k _ rfl T hT X
  refine ⟨t, ?_, q⟩
  have h1 := X.daloadOut hexec (by rw [hT]; exact hP q0 _ ha) ((hK.2 t0 _ ht).1 n (fun j => .double (f j))) (j := i) (by show (i < 0 ∨ (arrV _ _ _).slots.size ≤ _); rw [arrV_size]; exact Classical.byContradiction hout) (g := F0 m pc ls (.int i :: .ref a :: rest)) rfl (rest := rest) rfl (by rw [hb]; exact hdg) t
  simp only [arrV_size] at h1
  exact h1 st
theorem vx_dastZ {D : va_G} {cl : List vw_C} {ws : va_W} {tys : List (ClassId × FieldType)} {a : Nat} (hexec : p.tables.exec = Jvm.exec) (hb : c.code = cc) (hK : va_K D cl tys s) (hP : va_P D cl ws H) (q0 t0 : Nat) {cA : ClassId} {n : Nat} {f : Nat → UInt64} (ha : ws[q0]? = some (a, .inl (cA, n, .inr (.inr (.inr (.inl f)))))) (ht : tys[t0]? = some (cA, .double)) {i : Int32} {x : UInt64} (hout : ¬ vp_in i n) (hdg : decode cc pc = .ok (.dastore, 1))
    (k : ∀ tx : String, tx = (toString "Index " ++ toString i ++ toString " out of bounds for length " ++ toString n : String) → vx_Note p l e R s m args below meth c H locs cells slots Q (F0 m pc ls rest) "java/lang/ArrayIndexOutOfBoundsException" tx) : W p l e R s m args below meth c H locs cells slots Q (F0 m pc ls (.double x :: .int i :: .ref a :: rest)) := by
  intro T hT X
  obtain ⟨t, st, q⟩ := k _ rfl T hT X
  refine ⟨t, ?_, q⟩
  have h1 := X.dastoreOut hexec (by rw [hT]; exact hP q0 _ ha) ((hK.2 t0 _ ht).1 n (fun j => .double (f j))) (j := i) (by show (i < 0 ∨ (arrV _ _ _).slots.size ≤ _); rw [arrV_size]; exact Classical.byContradiction hout) (g := F0 m pc ls (.double x :: .int i :: .ref a :: rest)) rfl (rest := rest) rfl (by rw [hb]; exact hdg) t
  simp only [arrV_size] at h1
  exact h1 st
theorem vx_arraylengthN (hexec : p.tables.exec = Jvm.exec) (hb : c.code = cc) (hdg : decode cc pc = .ok (.arraylength, 1)) (k : vx_NoteN p l e R s m args below meth c H locs cells slots Q (F0 m pc ls rest)) : W p l e R s m args below meth c H locs cells slots Q (F0 m pc ls (.null :: rest)) := by
  intro T hT X
  obtain ⟨t, st, q⟩ := k T hT X
  exact ⟨t, X.arraylengthNull hexec (g := F0 m pc ls (.null :: rest)) rfl (rest := rest) rfl (by rw [hb]; exact hdg) t st, q⟩
theorem vx_ialoadN (hexec : p.tables.exec = Jvm.exec) (hb : c.code = cc) {i : Int32} (hdg : decode cc pc = .ok (.iaload, 1)) (k : vx_NoteN p l e R s m args below meth c H locs cells slots Q (F0 m pc ls rest)) : W p l e R s m args below meth c H locs cells slots Q (F0 m pc ls (.int i :: .null :: rest)) := by
  intro T hT X
  obtain ⟨t, st, q⟩ := k T hT X
  exact ⟨t, X.ialoadNull hexec (g := F0 m pc ls (.int i :: .null :: rest)) rfl (rest := rest) rfl (by rw [hb]; exact hdg) t st, q⟩
theorem vx_laloadN (hexec : p.tables.exec = Jvm.exec) (hb : c.code = cc) {i : Int32} (hdg : decode cc pc = .ok (.laload, 1)) (k : vx_NoteN p l e R s m args below meth c H locs cells slots Q (F0 m pc ls rest)) : W p l e R s m args below meth c H locs cells slots Q (F0 m pc ls (.int i :: .null :: rest)) := by
  intro T hT X
  obtain ⟨t, st, q⟩ := k T hT X
  exact ⟨t, X.laloadNull hexec (g := F0 m pc ls (.int i :: .null :: rest)) rfl (rest := rest) rfl (by rw [hb]; exact hdg) t st, q⟩
theorem vx_faloadN (hexec : p.tables.exec = Jvm.exec) (hb : c.code = cc) {i : Int32} (hdg : decode cc pc = .ok (.faload, 1)) (k : vx_NoteN p l e R s m args below meth c H locs cells slots Q (F0 m pc ls rest)) : W p l e R s m args below meth c H locs cells slots Q (F0 m pc ls (.int i :: .null :: rest)) := by
  intro T hT X
  obtain ⟨t, st, q⟩ := k T hT X
  exact ⟨t, X.faloadNull hexec (g := F0 m pc ls (.int i :: .null :: rest)) rfl (rest := rest) rfl (by rw [hb]; exact hdg) t st, q⟩
theorem vx_daloadN (hexec : p.tables.exec = Jvm.exec) (hb : c.code = cc) {i : Int32} (hdg : decode cc pc = .ok (.daload, 1)) (k : vx_NoteN p l e R s m args below meth c H locs cells slots Q (F0 m pc ls rest)) : W p l e R s m args below meth c H locs cells slots Q (F0 m pc ls (.int i :: .null :: rest)) := by
  intro T hT X
  obtain ⟨t, st, q⟩ := k T hT X
  exact ⟨t, X.daloadNull hexec (g := F0 m pc ls (.int i :: .null :: rest)) rfl (rest := rest) rfl (by rw [hb]; exact hdg) t st, q⟩
theorem vx_aaloadN (hexec : p.tables.exec = Jvm.exec) (hb : c.code = cc) {i : Int32} (hdg : decode cc pc = .ok (.aaload, 1)) (k : vx_NoteN p l e R s m args below meth c H locs cells slots Q (F0 m pc ls rest)) : W p l e R s m args below meth c H locs cells slots Q (F0 m pc ls (.int i :: .null :: rest)) := by
  intro T hT X
  obtain ⟨t, st, q⟩ := k T hT X
  exact ⟨t, X.aaloadNull hexec (g := F0 m pc ls (.int i :: .null :: rest)) rfl (rest := rest) rfl (by rw [hb]; exact hdg) t st, q⟩
theorem vx_baloadN (hexec : p.tables.exec = Jvm.exec) (hb : c.code = cc) {i : Int32} (hdg : decode cc pc = .ok (.baload, 1)) (k : vx_NoteN p l e R s m args below meth c H locs cells slots Q (F0 m pc ls rest)) : W p l e R s m args below meth c H locs cells slots Q (F0 m pc ls (.int i :: .null :: rest)) := by
  intro T hT X
  obtain ⟨t, st, q⟩ := k T hT X
  exact ⟨t, X.baloadNull hexec (g := F0 m pc ls (.int i :: .null :: rest)) rfl (rest := rest) rfl (by rw [hb]; exact hdg) t st, q⟩
theorem vx_caloadN (hexec : p.tables.exec = Jvm.exec) (hb : c.code = cc) {i : Int32} (hdg : decode cc pc = .ok (.caload, 1)) (k : vx_NoteN p l e R s m args below meth c H locs cells slots Q (F0 m pc ls rest)) : W p l e R s m args below meth c H locs cells slots Q (F0 m pc ls (.int i :: .null :: rest)) := by
  intro T hT X
  obtain ⟨t, st, q⟩ := k T hT X
  exact ⟨t, X.caloadNull hexec (g := F0 m pc ls (.int i :: .null :: rest)) rfl (rest := rest) rfl (by rw [hb]; exact hdg) t st, q⟩
theorem vx_saloadN (hexec : p.tables.exec = Jvm.exec) (hb : c.code = cc) {i : Int32} (hdg : decode cc pc = .ok (.saload, 1)) (k : vx_NoteN p l e R s m args below meth c H locs cells slots Q (F0 m pc ls rest)) : W p l e R s m args below meth c H locs cells slots Q (F0 m pc ls (.int i :: .null :: rest)) := by
  intro T hT X
  obtain ⟨t, st, q⟩ := k T hT X
  exact ⟨t, X.saloadNull hexec (g := F0 m pc ls (.int i :: .null :: rest)) rfl (rest := rest) rfl (by rw [hb]; exact hdg) t st, q⟩
theorem vx_iastoreN (hexec : p.tables.exec = Jvm.exec) (hb : c.code = cc) {x : Int32} {i : Int32} (hdg : decode cc pc = .ok (.iastore, 1)) (k : vx_NoteN p l e R s m args below meth c H locs cells slots Q (F0 m pc ls rest)) : W p l e R s m args below meth c H locs cells slots Q (F0 m pc ls (.int x :: .int i :: .null :: rest)) := by
  intro T hT X
  obtain ⟨t, st, q⟩ := k T hT X
  exact ⟨t, X.iastoreNull hexec (g := F0 m pc ls (.int x :: .int i :: .null :: rest)) rfl (rest := rest) rfl (by rw [hb]; exact hdg) t st, q⟩
theorem vx_lastoreN (hexec : p.tables.exec = Jvm.exec) (hb : c.code = cc) {x : Int64} {i : Int32} (hdg : decode cc pc = .ok (.lastore, 1)) (k : vx_NoteN p l e R s m args below meth c H locs cells slots Q (F0 m pc ls rest)) : W p l e R s m args below meth c H locs cells slots Q (F0 m pc ls (.long x :: .int i :: .null :: rest)) := by
  intro T hT X
  obtain ⟨t, st, q⟩ := k T hT X
  exact ⟨t, X.lastoreNull hexec (g := F0 m pc ls (.long x :: .int i :: .null :: rest)) rfl (rest := rest) rfl (by rw [hb]; exact hdg) t st, q⟩
theorem vx_fastoreN (hexec : p.tables.exec = Jvm.exec) (hb : c.code = cc) {x : UInt32} {i : Int32} (hdg : decode cc pc = .ok (.fastore, 1)) (k : vx_NoteN p l e R s m args below meth c H locs cells slots Q (F0 m pc ls rest)) : W p l e R s m args below meth c H locs cells slots Q (F0 m pc ls (.float x :: .int i :: .null :: rest)) := by
  intro T hT X
  obtain ⟨t, st, q⟩ := k T hT X
  exact ⟨t, X.fastoreNull hexec (g := F0 m pc ls (.float x :: .int i :: .null :: rest)) rfl (rest := rest) rfl (by rw [hb]; exact hdg) t st, q⟩
theorem vx_dastoreN (hexec : p.tables.exec = Jvm.exec) (hb : c.code = cc) {x : UInt64} {i : Int32} (hdg : decode cc pc = .ok (.dastore, 1)) (k : vx_NoteN p l e R s m args below meth c H locs cells slots Q (F0 m pc ls rest)) : W p l e R s m args below meth c H locs cells slots Q (F0 m pc ls (.double x :: .int i :: .null :: rest)) := by
  intro T hT X
  obtain ⟨t, st, q⟩ := k T hT X
  exact ⟨t, X.dastoreNull hexec (g := F0 m pc ls (.double x :: .int i :: .null :: rest)) rfl (rest := rest) rfl (by rw [hb]; exact hdg) t st, q⟩
theorem vx_bastoreN (hexec : p.tables.exec = Jvm.exec) (hb : c.code = cc) {x : Int32} {i : Int32} (hdg : decode cc pc = .ok (.bastore, 1)) (k : vx_NoteN p l e R s m args below meth c H locs cells slots Q (F0 m pc ls rest)) : W p l e R s m args below meth c H locs cells slots Q (F0 m pc ls (.int x :: .int i :: .null :: rest)) := by
  intro T hT X
  obtain ⟨t, st, q⟩ := k T hT X
  exact ⟨t, X.bastoreNull hexec (g := F0 m pc ls (.int x :: .int i :: .null :: rest)) rfl (rest := rest) rfl (by rw [hb]; exact hdg) t st, q⟩
theorem vx_castoreN (hexec : p.tables.exec = Jvm.exec) (hb : c.code = cc) {x : Int32} {i : Int32} (hdg : decode cc pc = .ok (.castore, 1)) (k : vx_NoteN p l e R s m args below meth c H locs cells slots Q (F0 m pc ls rest)) : W p l e R s m args below meth c H locs cells slots Q (F0 m pc ls (.int x :: .int i :: .null :: rest)) := by
  intro T hT X
  obtain ⟨t, st, q⟩ := k T hT X
  exact ⟨t, X.castoreNull hexec (g := F0 m pc ls (.int x :: .int i :: .null :: rest)) rfl (rest := rest) rfl (by rw [hb]; exact hdg) t st, q⟩
theorem vx_sastoreN (hexec : p.tables.exec = Jvm.exec) (hb : c.code = cc) {x : Int32} {i : Int32} (hdg : decode cc pc = .ok (.sastore, 1)) (k : vx_NoteN p l e R s m args below meth c H locs cells slots Q (F0 m pc ls rest)) : W p l e R s m args below meth c H locs cells slots Q (F0 m pc ls (.int x :: .int i :: .null :: rest)) := by
  intro T hT X
  obtain ⟨t, st, q⟩ := k T hT X
  exact ⟨t, X.sastoreNull hexec (g := F0 m pc ls (.int x :: .int i :: .null :: rest)) rfl (rest := rest) rfl (by rw [hb]; exact hdg) t st, q⟩
theorem vx_invokeN {own C : String} {index maxL : Nat} {y : MethodName} {bytes : ByteArray} {ret : Option FieldType} (hexec : p.tables.exec = Jvm.exec) (hb : c.code = cc) (hown : s.vm.findClass own = some m.cls) (hlink : (Cond.methodLink own index y).before args s = true) (hinst : (Cond.instanceMethod y).before args s = true) (hcode : (Cond.code y bytes maxL ret).before args s = true) (hsel : (Cond.selects C y y).before args s = true)
    (hx : y.cls ≠ "java/lang/invoke/MethodHandle" ∧ y.cls ≠ "java/lang/invoke/VarHandle") {As : List Value} (hlen : (parseMethodDescriptor y.desc).map (fun d => d.parameters.length) = some As.length) (hdg : decode cc pc = .ok (.invokevirtual index, 3))
    (k : vx_NoteN p l e R s m args below meth c H locs cells slots Q (F0 m pc ls rest)) {st0 : List Value} (hst : st0 = As.reverse ++ .null :: rest) : W p l e R s m args below meth c H locs cells slots Q (F0 m pc ls st0) := by
  intro T hT X
  obtain ⟨r0, r, hn, hrm, hstR, hsigR⟩ := va_Decl.of hinst hcode
  obtain ⟨c2, r2, m2, q1, q2, q3, q4, kP, hkP, hkPi⟩ := Cond.selects_spec hsel
  cases hn.symm.trans q3
  have hl9 : As.length = r.sig.parameters.length := by
    rw [hsigR] at hlen
    exact (Option.some.inj hlen).symm
  obtain ⟨vm', X1, st1⟩ := X.invokevirtualNull hexec hown hlink hn hrm hstR hkP hkPi hx (g := F0 m pc ls st0) rfl (argsL := As) (rest := rest) hl9 hst (by rw [hb]; exact hdg)
  obtain ⟨t, st, q⟩ := k (T.setVm vm') hT X1
  exact ⟨t, st1 t st, q⟩
theorem vx_newarrayZ {atype : ArrayType} (hexec : p.tables.exec = Jvm.exec) (hb : c.code = cc) {n : Int32} (h0 : n < 0) (hdg : decode cc pc = .ok (.newarray atype, 2)) (k : ∀ tx : String, tx = toString n → vx_Note p l e R s m args below meth c H locs cells slots Q (F0 m pc ls rest) "java/lang/NegativeArraySizeException" tx) : W p l e R s m args below meth c H locs cells slots Q (F0 m pc ls (.int n :: rest)) := by
  intro T hT X
  obtain ⟨t, st, q⟩ := k _ rfl T hT X
  exact ⟨t, X.newarrayNegative hexec (g := F0 m pc ls (.int n :: rest)) rfl h0 (rest := rest) rfl (by rw [hb]; exact hdg) t st, q⟩
end
end VXM
/-! ===== END ===== -/
/-! ===== BEGIN an exception as an object: made, kept, thrown later (no traces kept) ===== -/
section VXK
variable {p : Program} {l : Launch} {e : Env} {R : Room} {s : State} {m₀ : MethodId} {args : Array Value} {below : List Frame} {meth : Method} {c : Code} {W : State} {locs : List Loc} {cells slots : Nat}
set_option maxHeartbeats 1000000 in
theorem vx_ctorMadeS (X : Stand p l e R s m₀ args below meth c W locs cells slots) (hexec : p.tables.exec = Jvm.exec) (htr : e.platform.stackTraces = false) {own cls : String} {names : List String} {ic : Nat}
    (hown : s.vm.findClass own = some m₀.cls) (hcls : Bundle.fit cls = true) (hnames : ∀ n ∈ names, Bundle.fit n = true)
    (h : ∀ a ∈ Bundle.ownAtoms own ic cls names, a.before args s = true)
    (hlocs : ∀ x ∈ locs, ∀ cell, s.heap[x.base]? = some cell → cell.vm.isStatics = false)
    {a : Addr} {cX : ClassId} {kX : Class} (hfoundX : s.vm.findClass cls = some cX) (hkX : s.vm.classes[cX]? = some kX) (hcell : W.heap[a]? = some (freshCell cX kX)) (hnew : s.heap.size ≤ a)
    {msg : Value} (hmsg : msg.isRef = true)
    {g : JFrame} (hg : g.method = m₀) (hsize : g.locals.size = c.maxLocals) {rest : List Value} (hstack : g.stack = msg :: .ref a :: .ref a :: rest)
    (hd6 : decode c.code g.pc = .ok (.invokespecial ic, 3))
    (hRframes : names.length + 3 < R.frames) (hRlocals : 2 * g.monitorRoom + ((Value.ref a :: rest).map fun v => v.category).sum + (13 * (names.length + 1) + 42) ≤ R.locals) :
    ∃ (V : State) (ce : Cell) (L : List Loc), Stand p l e R s m₀ args below meth c (V.setCell a ce) (locs ++ L) cells slots ∧ (∀ y ∈ L, y.base = a) ∧ a < V.heap.size ∧ ce.cls = cX ∧ ce.vm = .none ∧
      ∀ target, Steps p.tables e below ((V.setCell a ce).setTop { g with stack := .ref a :: rest, pc := g.pc + 3 }) target → Steps p.tables e below (W.setTop g) target := by
  have howns : e.platform.frameOwnsMonitors = true := by rw [X.admits.platform]
  have hfin : e.platform.finalization = false := by rw [X.admits.platform]
  have hpl : e.platform.magicAccessors = ({} : Platform).magicAccessors := by rw [X.admits.platform]
  have a' : ∀ x, x ∈ Bundle.ownAtoms own ic cls names → x.holds args s none s [] = true := fun x hx => h x hx
  obtain ⟨T, Z0, L, -, Y⟩ := ThrowableC.of_atoms (args := args) howns hfin hpl (fun x hx => h x (by simp [Bundle.ownAtoms, hx]))
  obtain ⟨Z, M, LZ, LM, hnZ⟩ := Init0T.ofS_atoms (args := args) hpl L Y (fun x hx => h x (by simp [Bundle.ownAtoms, hx]))
  obtain ⟨P1, Ps, hlen, L1, hL, hP1m, hlink1, hlink⟩ := Bundle.chainS (args := args) hpl hnZ names cls hcls hnames (fun x hx => h x (by simp [Bundle.ownAtoms, hx]))
  have hfound : s.vm.findClass cls = some P1.m.cls := findClass_of_methodNamed hP1m
  cases Option.some.inj (hfoundX.symm.trans hfound)
  obtain ⟨c1, kX', hc1, hk, hord, -, -, hn6⟩ := Cond.instantiable_spec (a' (.instantiable cls 6) (by simp [Bundle.ownAtoms]))
  cases Option.some.inj (hc1.symm.trans hfound)
  cases Option.some.inj (hkX.symm.trans hk)
  have hsel0 : selectMethod e.platform s.vm P1.m.cls T.fill0 = .method T.fill0 := by
    obtain ⟨c2, r2, m2, q1, q2, q3, q4, -⟩ := Cond.selects_spec (a' (.selects cls Bundle.tFill0 Bundle.tFill0) (by simp [Bundle.ownAtoms]))
    cases Option.some.inj (q1.symm.trans hfound)
    cases Option.some.inj (q2.symm.trans (State.methodFound?_of_named Y.fill0 (by decide)))
    cases Option.some.inj (q3.symm.trans Y.fill0)
    rw [Launch.admits_selectMethod X.admits]; exact q4
  have hselF : selectMethod e.platform s.vm P1.m.cls T.fill = .method T.fill := by
    obtain ⟨c2, r2, m2, q1, q2, q3, q4, -⟩ := Cond.selects_spec (a' (.selects cls Bundle.tFill Bundle.tFill) (by simp [Bundle.ownAtoms]))
    cases Option.some.inj (q1.symm.trans hfound)
    cases Option.some.inj (q2.symm.trans (State.methodFound?_of_named Y.fill (by decide)))
    cases Option.some.inj (q3.symm.trans Y.fill)
    rw [Launch.admits_selectMethod X.admits]; exact q4
  obtain ⟨cellS0, hcS0, hiss⟩ := Y.statics
  obtain ⟨u0, hu0⟩ := Cond.staticRefV Y.unassigned L.unassignedStatic L.statics hcS0 hiss (a' (.isRef (.static Bundle.tN "UNASSIGNED_STACK" Bundle.steD)) (by simp [Bundle.ownAtoms]))
  obtain ⟨sen, hsen⟩ := Cond.staticRefV Y.sentinel L.sentinelStatic L.statics hcS0 hiss (a' (.isRef (.static Bundle.tN "SUPPRESSED_SENTINEL" Bundle.listD)) (by simp [Bundle.ownAtoms]))
  obtain ⟨ci198, i198, fB, hk198, hg198, ha198, hsB, -, hnB, htB, hffB⟩ := Cond.ownField (t := .object "java/lang/Object") Y.found L.cls (by decide +kernel) (a' (.fieldLink Bundle.tN 198 Bundle.tN "backtrace" "Ljava/lang/Object;") (by simp [Bundle.ownAtoms])) (a' (.lays Bundle.tN Bundle.tN "backtrace" "Ljava/lang/Object;") (by simp [Bundle.ownAtoms])) e.platform hpl
  obtain ⟨cellS, hcS', heS, -, hkeep⟩ := X.same.2.2.2.2.2 T.aS cellS0 hcS0
  have hcellS : W.heap[T.aS]? = some cellS := hcS'
  have hout' : ∀ i, (⟨T.aS, i⟩ : Loc) ∉ locs := fun i hmem => by
    have := hlocs _ hmem cellS0 hcS0
    rw [hiss] at this; cases this
  have hknownS : cellS.vm ≠ .unknown := by
    rw [heS]; intro hu
    rw [show cellS0.vm = .unknown from hu] at hiss
    cases hiss
  have hneS : T.aS ≠ a := Nat.ne_of_lt (Nat.lt_of_lt_of_le (Array.getElem?_eq_some_iff.mp hcS0).1 hnew)
  obtain ⟨iM, hffM⟩ := Y.msg
  obtain ⟨tyC, dC, hdC, hdnC⟩ := Cond.laysAt hfound hk Y.cause (a' (.lays cls Bundle.tN "cause" "Ljava/lang/Throwable;") (by simp [Bundle.ownAtoms]))
  obtain ⟨tyS, dS, hdS, hdnS⟩ := Cond.laysAt hfound hk Y.stack (a' (.lays cls Bundle.tN "stackTrace" Bundle.steD) (by simp [Bundle.ownAtoms]))
  obtain ⟨tyP, dP, hdP, hdnP⟩ := Cond.laysAt hfound hk Y.supp (a' (.lays cls Bundle.tN "suppressedExceptions" Bundle.listD) (by simp [Bundle.ownAtoms]))
  obtain ⟨tyM, dM, hdM, hdnM⟩ := Cond.laysAt hfound hk hffM (a' (.lays cls Bundle.tN "detailMessage" "Ljava/lang/String;") (by simp [Bundle.ownAtoms]))
  obtain ⟨tyB, dB, hdB, hdnB⟩ := Cond.laysAt hfound hk hffB (a' (.lays cls Bundle.tN "backtrace" "Ljava/lang/Object;") (by simp [Bundle.ownAtoms]))
  have bC := Cond.laysApart hdB hdC hdnB hdnC (by rw [hnB, Y.causeName]; decide)
  have bS := Cond.laysApart hdB hdS hdnB hdnS (by rw [hnB, Y.stackName]; decide)
  have bP := Cond.laysApart hdB hdP hdnB hdnP (by rw [hnB, Y.suppName]; decide)
  have hskip : SkipFacts T e.platform s (fun u => u) u0 ((preparedCellV T.toThrowableT (freshCell P1.m.cls kX) a u0 sen).withEntry W.cur) :=
    ⟨{ ci198 := ci198, i198 := i198, fBack := fB }, ⟨hk198, hg198, ha198, hsB⟩, by
      have := fresh_default (c := P1.m.cls) tyB
      rw [htB] at this
      simpa [preparedCellV, Cell.setSlot, Cell.withEntry, Array.getElem?_setIfInBounds, bC, bS, bP, bC.symm, bS.symm, bP.symm, defaultValue] using this, fun _ _ => rfl⟩
  obtain ⟨tm, methC, cdC, kC, vm₁, hnC, -, -, -, -, -, -, -, hW₁, st1⟩ := Steps.initColdS (tb := p.tables) (e := e) (below := below) (s := s) (U := W) X.here hexec X.warmed hpl hown (t := Bundle.initS cls) rfl rfl (Bundle.fit_spec hcls).2
    (a' (.methodLink own ic (Bundle.initS cls)) (by simp [Bundle.ownAtoms])) (h (.instanceMethod (Bundle.initS cls)) (by cases names <;> simp [Bundle.ownAtoms, Bundle.chainSAtoms, Bundle.passSAtoms])) (bytes := Bundle.six) (maxL := 2) (h (.code (Bundle.initS cls) Bundle.six 2 none) (by cases names <;> simp [Bundle.ownAtoms, Bundle.chainSAtoms, Bundle.passSAtoms]))
    (f := g) hg (a := a) (msg := msg) (rest := .ref a :: rest) hstack hd6
  cases Option.some.inj (hnC.symm.trans hP1m)
  have X₁ := X.noted hW₁
  obtain ⟨vm₂, X₂, st2⟩ := X₁.ctorMessageOffV hexec (g := { g with stack := .ref a :: rest }) hg hsize T L Z LZ M LM (P1 :: Ps)
    (fun P hP => by rcases List.mem_cons.mp hP with rfl | hP; exact L1; exact hL P hP) ⟨hlink1, hlink⟩ (u0 := u0) (sen := sen) (self := a) hmsg (cell := freshCell P1.m.cls kX) (cellS := cellS)
    hcell (fun _ => by simp) (by simp) rfl rfl hsel0 hselF hcellS hneS hknownS (by rw [hkeep _ (hout' _)]; exact hu0) (by rw [hkeep _ (hout' _)]; exact hsen)
    (Takes.of_laid hk hord tyC (by rw [Y.causeType]; rfl)) (Takes.of_laid hk hord tyS (by rw [Y.stackType]; exact fits_refV_array _ u0)) (Takes.of_laid hk hord tyP (by rw [Y.suppType]; exact fits_refV_object _ sen))
    (Takes.of_laid hk hord tyM (by rw [Y.msgType]; exact fits_refV_object _ ⟨msg, hmsg⟩)) Y.objLocals hskip htr [] hd6
    (by simp only [List.length_cons, hlen]; omega) (by simp only [List.length_cons, hlen]; exact hRlocals)
  have hlt : a < ((W.setVm vm₁).setVm vm₂).heap.size := (Array.getElem?_eq_some_iff.mp hcell).1
  refine ⟨(W.setVm vm₁).setVm vm₂, _, _, X₂, fun y hy => ?_, hlt, rfl, rfl, fun target hwalk => st1 _ (fun acts => ?_)⟩
  · simp only [List.mem_cons, List.not_mem_nil, or_false] at hy
    rcases hy with rfl | rfl | rfl | rfl | rfl <;> rfl
  · rw [doInvoke_state]
    exact st2 _ hwalk
set_option maxHeartbeats 1000000 in
theorem vx_ctorMade0 (X : Stand p l e R s m₀ args below meth c W locs cells slots) (hexec : p.tables.exec = Jvm.exec) (htr : e.platform.stackTraces = false) {own cls : String} {names : List String} {ic : Nat}
    (hown : s.vm.findClass own = some m₀.cls) (hcls : Bundle.fit cls = true) (hnames : ∀ n ∈ names, Bundle.fit n = true)
    (h : ∀ a ∈ Bundle.ownAtoms0 own ic cls names, a.before args s = true)
    (hlocs : ∀ x ∈ locs, ∀ cell, s.heap[x.base]? = some cell → cell.vm.isStatics = false)
    {a : Addr} {cX : ClassId} {kX : Class} (hfoundX : s.vm.findClass cls = some cX) (hkX : s.vm.classes[cX]? = some kX) (hcell : W.heap[a]? = some (freshCell cX kX)) (hnew : s.heap.size ≤ a)
    {g : JFrame} (hg : g.method = m₀) (hsize : g.locals.size = c.maxLocals) {rest : List Value} (hstack : g.stack = .ref a :: .ref a :: rest)
    (hd6 : decode c.code g.pc = .ok (.invokespecial ic, 3))
    (hRframes : names.length + 3 < R.frames) (hRlocals : 2 * g.monitorRoom + ((Value.ref a :: rest).map fun v => v.category).sum + (13 * (names.length + 1) + 41) ≤ R.locals) :
    ∃ (V : State) (ce : Cell) (L : List Loc), Stand p l e R s m₀ args below meth c (V.setCell a ce) (locs ++ L) cells slots ∧ (∀ y ∈ L, y.base = a) ∧ a < V.heap.size ∧ ce.cls = cX ∧ ce.vm = .none ∧
      ∀ target, Steps p.tables e below ((V.setCell a ce).setTop { g with stack := .ref a :: rest, pc := g.pc + 3 }) target → Steps p.tables e below (W.setTop g) target := by
  have howns : e.platform.frameOwnsMonitors = true := by rw [X.admits.platform]
  have hfin : e.platform.finalization = false := by rw [X.admits.platform]
  have hpl : e.platform.magicAccessors = ({} : Platform).magicAccessors := by rw [X.admits.platform]
  have a' : ∀ x, x ∈ Bundle.ownAtoms0 own ic cls names → x.holds args s none s [] = true := fun x hx => h x hx
  obtain ⟨T, Z, L, LZ, Y⟩ := ThrowableC.of_atoms (args := args) howns hfin hpl (fun x hx => h x (by simp [Bundle.ownAtoms0, hx]))
  obtain ⟨P1, Ps, hlen, L1, hL, hP1m, hlink1, hlink⟩ := Bundle.chain0 (args := args) hpl Y.init0 names cls hcls hnames (fun x hx => h x (by simp [Bundle.ownAtoms0, hx]))
  have hfound : s.vm.findClass cls = some P1.m.cls := findClass_of_methodNamed hP1m
  cases Option.some.inj (hfoundX.symm.trans hfound)
  obtain ⟨c1, kX', hc1, hk, hord, -, -, hn6⟩ := Cond.instantiable_spec (a' (.instantiable cls 6) (by simp [Bundle.ownAtoms0]))
  cases Option.some.inj (hc1.symm.trans hfound)
  cases Option.some.inj (hkX.symm.trans hk)
  have hsel0 : selectMethod e.platform s.vm P1.m.cls T.fill0 = .method T.fill0 := by
    obtain ⟨c2, r2, m2, q1, q2, q3, q4, -⟩ := Cond.selects_spec (a' (.selects cls Bundle.tFill0 Bundle.tFill0) (by simp [Bundle.ownAtoms0]))
    cases Option.some.inj (q1.symm.trans hfound)
    cases Option.some.inj (q2.symm.trans (State.methodFound?_of_named Y.fill0 (by decide)))
    cases Option.some.inj (q3.symm.trans Y.fill0)
    rw [Launch.admits_selectMethod X.admits]; exact q4
  have hselF : selectMethod e.platform s.vm P1.m.cls T.fill = .method T.fill := by
    obtain ⟨c2, r2, m2, q1, q2, q3, q4, -⟩ := Cond.selects_spec (a' (.selects cls Bundle.tFill Bundle.tFill) (by simp [Bundle.ownAtoms0]))
    cases Option.some.inj (q1.symm.trans hfound)
    cases Option.some.inj (q2.symm.trans (State.methodFound?_of_named Y.fill (by decide)))
    cases Option.some.inj (q3.symm.trans Y.fill)
    rw [Launch.admits_selectMethod X.admits]; exact q4
  obtain ⟨cellS0, hcS0, hiss⟩ := Y.statics
  obtain ⟨u0, hu0⟩ := Cond.staticRefV Y.unassigned L.unassignedStatic L.statics hcS0 hiss (a' (.isRef (.static Bundle.tN "UNASSIGNED_STACK" Bundle.steD)) (by simp [Bundle.ownAtoms0]))
  obtain ⟨sen, hsen⟩ := Cond.staticRefV Y.sentinel L.sentinelStatic L.statics hcS0 hiss (a' (.isRef (.static Bundle.tN "SUPPRESSED_SENTINEL" Bundle.listD)) (by simp [Bundle.ownAtoms0]))
  obtain ⟨ci198, i198, fB, hk198, hg198, ha198, hsB, -, hnB, htB, hffB⟩ := Cond.ownField (t := .object "java/lang/Object") Y.found L.cls (by decide +kernel) (a' (.fieldLink Bundle.tN 198 Bundle.tN "backtrace" "Ljava/lang/Object;") (by simp [Bundle.ownAtoms0])) (a' (.lays Bundle.tN Bundle.tN "backtrace" "Ljava/lang/Object;") (by simp [Bundle.ownAtoms0])) e.platform hpl
  obtain ⟨cellS, hcS', heS, -, hkeep⟩ := X.same.2.2.2.2.2 T.aS cellS0 hcS0
  have hcellS : W.heap[T.aS]? = some cellS := hcS'
  have hout' : ∀ i, (⟨T.aS, i⟩ : Loc) ∉ locs := fun i hmem => by
    have := hlocs _ hmem cellS0 hcS0
    rw [hiss] at this; cases this
  have hknownS : cellS.vm ≠ .unknown := by
    rw [heS]; intro hu
    rw [show cellS0.vm = .unknown from hu] at hiss
    cases hiss
  have hneS : T.aS ≠ a := Nat.ne_of_lt (Nat.lt_of_lt_of_le (Array.getElem?_eq_some_iff.mp hcS0).1 hnew)
  obtain ⟨iM, hffM⟩ := Y.msg
  obtain ⟨tyC, dC, hdC, hdnC⟩ := Cond.laysAt hfound hk Y.cause (a' (.lays cls Bundle.tN "cause" "Ljava/lang/Throwable;") (by simp [Bundle.ownAtoms0]))
  obtain ⟨tyS, dS, hdS, hdnS⟩ := Cond.laysAt hfound hk Y.stack (a' (.lays cls Bundle.tN "stackTrace" Bundle.steD) (by simp [Bundle.ownAtoms0]))
  obtain ⟨tyP, dP, hdP, hdnP⟩ := Cond.laysAt hfound hk Y.supp (a' (.lays cls Bundle.tN "suppressedExceptions" Bundle.listD) (by simp [Bundle.ownAtoms0]))
  obtain ⟨tyM, dM, hdM, hdnM⟩ := Cond.laysAt hfound hk hffM (a' (.lays cls Bundle.tN "detailMessage" "Ljava/lang/String;") (by simp [Bundle.ownAtoms0]))
  obtain ⟨tyB, dB, hdB, hdnB⟩ := Cond.laysAt hfound hk hffB (a' (.lays cls Bundle.tN "backtrace" "Ljava/lang/Object;") (by simp [Bundle.ownAtoms0]))
  have bC := Cond.laysApart hdB hdC hdnB hdnC (by rw [hnB, Y.causeName]; decide)
  have bS := Cond.laysApart hdB hdS hdnB hdnS (by rw [hnB, Y.stackName]; decide)
  have bP := Cond.laysApart hdB hdP hdnB hdnP (by rw [hnB, Y.suppName]; decide)
  have hskip : SkipFacts T e.platform s (fun u => u) u0 ((preparedCellV T.toThrowableT (freshCell P1.m.cls kX) a u0 sen).withEntry W.cur) :=
    ⟨{ ci198 := ci198, i198 := i198, fBack := fB }, ⟨hk198, hg198, ha198, hsB⟩, by
      have := fresh_default (c := P1.m.cls) tyB
      rw [htB] at this
      simpa [preparedCellV, Cell.setSlot, Cell.withEntry, Array.getElem?_setIfInBounds, bC, bS, bP, bC.symm, bS.symm, bP.symm, defaultValue] using this, fun _ _ => rfl⟩
  obtain ⟨tm, methC, cdC, kC, vm₁, hnC, -, -, -, -, -, -, -, hW₁, st1⟩ := Steps.initCold (tb := p.tables) (e := e) (below := below) (s := s) (U := W) X.here hexec X.warmed hpl hown (t := Bundle.init0 cls) rfl rfl (Bundle.fit_spec hcls).2
    (a' (.methodLink own ic (Bundle.init0 cls)) (by simp [Bundle.ownAtoms0])) (h (.instanceMethod (Bundle.init0 cls)) (by cases names <;> simp [Bundle.ownAtoms0, Bundle.chain0Atoms, Bundle.passAtoms])) (bytes := Bundle.five) (maxL := 1) (h (.code (Bundle.init0 cls) Bundle.five 1 none) (by cases names <;> simp [Bundle.ownAtoms0, Bundle.chain0Atoms, Bundle.passAtoms]))
    (f := g) hg (a := a) (rest := .ref a :: rest) hstack hd6
  cases Option.some.inj (hnC.symm.trans hP1m)
  have X₁ := X.noted hW₁
  obtain ⟨vm₂, X₂, st2⟩ := X₁.ctorPlainOffV hexec (g := { g with stack := .ref a :: rest }) hg hsize T L Z LZ (P1 :: Ps)
    (fun P hP => by rcases List.mem_cons.mp hP with rfl | hP; exact L1; exact hL P hP) ⟨hlink1, hlink⟩ (u0 := u0) (sen := sen) (self := a) (cell := freshCell P1.m.cls kX) (cellS := cellS)
    hcell (fun _ => by simp) (by simp) rfl rfl hsel0 hselF hcellS hneS hknownS (by rw [hkeep _ (hout' _)]; exact hu0) (by rw [hkeep _ (hout' _)]; exact hsen)
    (Takes.of_laid hk hord tyC (by rw [Y.causeType]; rfl)) (Takes.of_laid hk hord tyS (by rw [Y.stackType]; exact fits_refV_array _ u0)) (Takes.of_laid hk hord tyP (by rw [Y.suppType]; exact fits_refV_object _ sen)) Y.objLocals hskip htr [] hd6
    (by simp only [List.length_cons, hlen]; omega) (by simp only [List.length_cons, hlen]; exact hRlocals)
  have hlt : a < ((W.setVm vm₁).setVm vm₂).heap.size := (Array.getElem?_eq_some_iff.mp hcell).1
  refine ⟨(W.setVm vm₁).setVm vm₂, _, _, X₂, fun y hy => ?_, hlt, rfl, rfl, fun target hwalk => st1 _ (fun acts => ?_)⟩
  · simp only [List.mem_cons, List.not_mem_nil, or_false] at hy
    rcases hy with rfl | rfl | rfl | rfl <;> rfl
  · rw [doInvoke_state]
    exact st2 _ hwalk
end VXK
section VXK2
variable {p : Program} {l : Launch} {e : Env} {R : Room} {s : State} {m : MethodId} {args : Array Value} {below : List Frame} {meth : Method} {c : Code} {H : Heap} {locs : List Loc} {cells slots : Nat} {Q : State → Prop}
variable {ls : Array Slot} {rest : List Value} {D : va_G} {cl : List vw_C} {tys : List (ClassId × FieldType)} {ws : va_W}
/-- 'new E("text")' that isn't thrown at once: the object goes on the stack -/
theorem vx_makeS {cc : ByteArray} {pc : Nat} (hexec : p.tables.exec = Jvm.exec) (hb : c.code = cc) (hl : l.stackTraces = false) {own cls text : String} {names : List String} {ik is ic sa ci : Nat} {A : Nat → Prop} {T0 : u_T}
    (hown : s.vm.findClass own = some m.cls) (hcls : Bundle.fit cls = true) (hnames : ∀ n ∈ names, Bundle.fit n = true)
    (hk : (Cond.classLink own ik cls).before args s = true) (hini : (Cond.initialized cls).before args s = true) (hstr : vk_R own is text sa s) (hat : ∀ w ∈ vx_atS own ic cls names, w.before args s = true)
    (hgood : ∀ w ∈ Cond.classLink own ik cls :: Cond.initialized cls :: vx_atS own ic cls names, vx_ot w = true)
    (hU : vx_Zq Bundle.tN "UNASSIGNED_STACK" Bundle.steD A s s.heap) (hN : vx_Zq Bundle.tN "SUPPRESSED_SENTINEL" Bundle.listD A s s.heap) (hS : va_S A s.heap H locs) (hsize : ls.size = c.maxLocals)
    (d0 : decode cc pc = .ok (.new ik, 3)) (d3 : decode cc (pc + 3) = .ok (.dup, 1)) (d4 : decode cc (pc + 4) = .ok (.ldc is, 2)) (d6 : decode cc (pc + 6) = .ok (.invokespecial ic, 3))
    (hK : va_K D cl tys s) (hP : va_P D cl ws H) (hD : va_D A ws) (hA : ∀ q, s.heap.size ≤ q → A q) (hc : cl[ci]? = some (cls, T0, 0))
    (hRframes : names.length + 3 < R.frames) (hRlocals : (rest.map fun v => v.category).sum + (13 * (names.length + 1) + 43) ≤ R.locals) (hRcells : cells + 1 ≤ R.cells) (hRslots : slots + 6 ≤ R.slots)
    (kk : ∀ (q : Nat) (H1 : Heap), va_P D cl (ws ++ [(q, .inr (ci, []))]) H1 → va_D A (ws ++ [(q, .inr (ci, []))]) → va_S A s.heap H1 locs → W p l e R s m args below meth c H1 locs (cells + 1) (slots + 6) Q (F0 m (pc + 9) ls (.ref q :: rest))) :
    W p l e R s m args below meth c H locs cells slots Q (F0 m pc ls rest) := by
  intro T hT X
  subst hT
  have htr : e.platform.stackTraces = false := (show e.platform.stackTraces = l.stackTraces by rw [X.admits.platform]).trans hl
  have Y := vx_rebase X (R' := { frames := R.frames, locals := R.locals, cells := 1, slots := 6 }) (Nat.le_refl _) (Nat.le_refl _) hRcells hRslots
  obtain ⟨s', hA'⟩ : ∃ z, z = (T.setVm s.vm).setFrames (.invoking m args :: below) := ⟨_, rfl⟩
  rw [← hA'] at Y
  have hvm : s'.vm = s.vm := by rw [hA']; rfl
  have hhp : s'.heap = T.heap := by rw [hA']; rfl
  have hW0 : s.WarmedH s'.vm := by rw [hvm]; exact State.WarmedH.refl s
  have hat' : ∀ w ∈ vx_atS own ic cls names, w.before args s' = true := fun w hw => vx_ot_at hW0 hvm.symm (hgood w (List.mem_cons_of_mem _ (List.mem_cons_of_mem _ hw))) (hat w hw)
  have hk' : (Cond.classLink own ik cls).before args s' = true := vx_ot_at hW0 hvm.symm (hgood _ List.mem_cons_self) hk
  have hini' : (Cond.initialized cls).before args s' = true := vx_ot_at hW0 hvm.symm (hgood _ (List.mem_cons_of_mem _ List.mem_cons_self)) hini
  have hU' : vx_Zq Bundle.tN "UNASSIGNED_STACK" Bundle.steD A s' s'.heap := by rw [hhp]; exact vx_Zq.moved hW0.alike (hU.kept hS.2.1)
  have hN' : vx_Zq Bundle.tN "SUPPRESSED_SENTINEL" Bundle.listD A s' s'.heap := by rw [hhp]; exact vx_Zq.moved hW0.alike (hN.kept hS.2.1)
  have h : ∀ w ∈ Bundle.ownAtoms own ic cls names, w.before args s' = true := vx_own hat' (vx_isRefq hU'.1) (vx_isRefq hN'.1) hU'.2.word hN'.2.word
  have hown' : s'.vm.findClass own = some m.cls := by rw [hvm]; exact hown
  have hins : (Cond.instantiable cls 6).before args s' = true := h _ (by simp [Bundle.ownAtoms])
  obtain ⟨vm₁, cX, kX, hfX, hkX, -, -, X₁, st1⟩ := Y.newCold hexec (own := own) (C := cls) (index := ik) (n := 6) hown' hk' hins hini'
    (g := F0 m pc ls rest) rfl (by rw [hb]; exact d0) (Nat.le_refl _) (Nat.le_refl _)
  generalize hT1 : (T.setVm vm₁).pushCell { cls := cX, slots := kX.instanceTypes.map defaultValue, vm := .none } = T1 at X₁ st1
  have hcat : (Value.ref T.heap.size).category = 1 := rfl
  have hcellA : T1.heap[T.heap.size]? = some (freshCell cX kX) := by rw [← hT1]; exact State.heap_pushCell_size _ _
  have d3' : decode c.code (pc + 3) = .ok (.dup, 1) := by rw [hb]; exact d3
  have d4' : decode c.code (pc + 4) = .ok (.ldc is, 2) := by rw [hb]; exact d4
  have hstr' : vk_R own is text sa s' := vk_R.warm hW0 hstr
  obtain ⟨V, ce, L, Z, hL, hlt, hcl9, hvm9, st⟩ := vx_ctorMadeS X₁ hexec htr (own := own) (cls := cls) (names := names) (ic := ic) hown' hcls hnames h (fun x hx => nomatch hx) hfX hkX hcellA (by rw [hhp]; exact Nat.le_refl _) (msg := .ref sa) rfl
    (g := { method := m, pc := pc + 6, locals := ls, stack := .ref sa :: .ref T.heap.size :: .ref T.heap.size :: rest, locked := none }) rfl hsize (rest := rest) rfl
    (by rw [hb]; exact d6) hRframes (by simp only [List.map_cons, List.sum_cons, hcat]; omega)
  have Z0 := Stand.forget (locs := []) Z (fun y hy => by rw [hL y hy, hhp]; exact Nat.le_refl _)
  obtain ⟨f1, f2⟩ := vx_frame Z0.same
  rw [hhp] at f1 f2
  have hcid : ce.cls = D.1 ci := by
    rw [hcl9]
    have h1 := (hK.1 ci _ hc).2.1
    rw [hvm] at hfX
    exact Option.some.inj (hfX.symm.trans h1)
  have hh : (V.setCell T.heap.size ce).heap[T.heap.size]? = some ce := heapAt_setCell_self (s := V) ce hlt
  subst hA'
  have X5 := vx_back9 X Y Z0
  have X6 : Stand p l e R s m args below meth c (V.setCell T.heap.size ce) locs (cells + 1) (slots + 6) := { X5 with same := X5.same.mono (by omega) (by omega) }
  have hk9 : ∀ (k : Nat) (x : Nat × va_E), ws[k]? = some x → (V.setCell T.heap.size ce).heap[x.1]? = T.heap[x.1]? := fun k x hx => f2 x.1 ((hP k x hx).lt) (fun z hz => nomatch hz)
  obtain ⟨t, a1, b1⟩ := kk T.heap.size (V.setCell T.heap.size ce).heap ((hP.kept hk9).app (fun k x hx => by
      have hz : k < 1 := (List.getElem?_eq_some_iff.mp hx).1
      rw [show k = 0 by omega] at hx
      cases hx
      exact ⟨_, hc, ce, hh, hcid, hvm9, fun k hk => absurd hk (Nat.not_lt_zero k)⟩)) (hD.push hP rfl (hA _ hS.1)) ⟨Nat.le_trans hS.1 f1, fun q h1 h2 => (f2 q (Nat.lt_of_lt_of_le h1 hS.1) (fun z hz => nomatch hz)).trans (hS.2.1 q h1 h2), hS.2.2⟩ _ rfl X6
  refine ⟨t, st1 _ ?_, b1⟩
  show Steps p.tables e below (T1.setTop { method := m, pc := pc + 3, locals := ls, stack := .ref T.heap.size :: rest, locked := none }) _
  jvm_step X₁.here [X₁.here.top, hexec, d3', Value.category]
  exact X₁.ldcString hexec (own := own) (text := text) (index := is) (a := sa) hown' hstr'.1 hstr'.2
    (g := { method := m, pc := pc + 4, locals := ls, stack := .ref T.heap.size :: .ref T.heap.size :: rest, locked := none }) rfl d4' _ (st _ a1)
/-- 'new E()' that isn't thrown at once: the object goes on the stack -/
theorem vx_make0 {cc : ByteArray} {pc : Nat} (hexec : p.tables.exec = Jvm.exec) (hb : c.code = cc) (hl : l.stackTraces = false) {own cls : String} {names : List String} {ik ic ci : Nat} {A : Nat → Prop} {T0 : u_T}
    (hown : s.vm.findClass own = some m.cls) (hcls : Bundle.fit cls = true) (hnames : ∀ n ∈ names, Bundle.fit n = true)
    (hk : (Cond.classLink own ik cls).before args s = true) (hini : (Cond.initialized cls).before args s = true) (hat : ∀ w ∈ vx_at0 own ic cls names, w.before args s = true)
    (hgood : ∀ w ∈ Cond.classLink own ik cls :: Cond.initialized cls :: vx_at0 own ic cls names, vx_ot w = true)
    (hU : vx_Zq Bundle.tN "UNASSIGNED_STACK" Bundle.steD A s s.heap) (hN : vx_Zq Bundle.tN "SUPPRESSED_SENTINEL" Bundle.listD A s s.heap) (hS : va_S A s.heap H locs) (hsize : ls.size = c.maxLocals)
    (d0 : decode cc pc = .ok (.new ik, 3)) (d3 : decode cc (pc + 3) = .ok (.dup, 1)) (d4 : decode cc (pc + 4) = .ok (.invokespecial ic, 3))
    (hK : va_K D cl tys s) (hP : va_P D cl ws H) (hD : va_D A ws) (hA : ∀ q, s.heap.size ≤ q → A q) (hc : cl[ci]? = some (cls, T0, 0))
    (hRframes : names.length + 3 < R.frames) (hRlocals : (rest.map fun v => v.category).sum + (13 * (names.length + 1) + 42) ≤ R.locals) (hRcells : cells + 1 ≤ R.cells) (hRslots : slots + 6 ≤ R.slots)
    (kk : ∀ (q : Nat) (H1 : Heap), va_P D cl (ws ++ [(q, .inr (ci, []))]) H1 → va_D A (ws ++ [(q, .inr (ci, []))]) → va_S A s.heap H1 locs → W p l e R s m args below meth c H1 locs (cells + 1) (slots + 6) Q (F0 m (pc + 7) ls (.ref q :: rest))) :
    W p l e R s m args below meth c H locs cells slots Q (F0 m pc ls rest) := by
  intro T hT X
  subst hT
  have htr : e.platform.stackTraces = false := (show e.platform.stackTraces = l.stackTraces by rw [X.admits.platform]).trans hl
  have Y := vx_rebase X (R' := { frames := R.frames, locals := R.locals, cells := 1, slots := 6 }) (Nat.le_refl _) (Nat.le_refl _) hRcells hRslots
  obtain ⟨s', hA'⟩ : ∃ z, z = (T.setVm s.vm).setFrames (.invoking m args :: below) := ⟨_, rfl⟩
  rw [← hA'] at Y
  have hvm : s'.vm = s.vm := by rw [hA']; rfl
  have hhp : s'.heap = T.heap := by rw [hA']; rfl
  have hW0 : s.WarmedH s'.vm := by rw [hvm]; exact State.WarmedH.refl s
  have hat' : ∀ w ∈ vx_at0 own ic cls names, w.before args s' = true := fun w hw => vx_ot_at hW0 hvm.symm (hgood w (List.mem_cons_of_mem _ (List.mem_cons_of_mem _ hw))) (hat w hw)
  have hk' : (Cond.classLink own ik cls).before args s' = true := vx_ot_at hW0 hvm.symm (hgood _ List.mem_cons_self) hk
  have hini' : (Cond.initialized cls).before args s' = true := vx_ot_at hW0 hvm.symm (hgood _ (List.mem_cons_of_mem _ List.mem_cons_self)) hini
  have hU' : vx_Zq Bundle.tN "UNASSIGNED_STACK" Bundle.steD A s' s'.heap := by rw [hhp]; exact vx_Zq.moved hW0.alike (hU.kept hS.2.1)
  have hN' : vx_Zq Bundle.tN "SUPPRESSED_SENTINEL" Bundle.listD A s' s'.heap := by rw [hhp]; exact vx_Zq.moved hW0.alike (hN.kept hS.2.1)
  have h : ∀ w ∈ Bundle.ownAtoms0 own ic cls names, w.before args s' = true := vx_own hat' (vx_isRefq hU'.1) (vx_isRefq hN'.1) hU'.2.word hN'.2.word
  have hown' : s'.vm.findClass own = some m.cls := by rw [hvm]; exact hown
  have hins : (Cond.instantiable cls 6).before args s' = true := h _ (by simp [Bundle.ownAtoms0])
  obtain ⟨vm₁, cX, kX, hfX, hkX, -, -, X₁, st1⟩ := Y.newCold hexec (own := own) (C := cls) (index := ik) (n := 6) hown' hk' hins hini'
    (g := F0 m pc ls rest) rfl (by rw [hb]; exact d0) (Nat.le_refl _) (Nat.le_refl _)
  generalize hT1 : (T.setVm vm₁).pushCell { cls := cX, slots := kX.instanceTypes.map defaultValue, vm := .none } = T1 at X₁ st1
  have hcat : (Value.ref T.heap.size).category = 1 := rfl
  have hcellA : T1.heap[T.heap.size]? = some (freshCell cX kX) := by rw [← hT1]; exact State.heap_pushCell_size _ _
  have d3' : decode c.code (pc + 3) = .ok (.dup, 1) := by rw [hb]; exact d3
  obtain ⟨V, ce, L, Z, hL, hlt, hcl9, hvm9, st⟩ := vx_ctorMade0 X₁ hexec htr (own := own) (cls := cls) (names := names) (ic := ic) hown' hcls hnames h (fun x hx => nomatch hx) hfX hkX hcellA (by rw [hhp]; exact Nat.le_refl _)
    (g := { method := m, pc := pc + 4, locals := ls, stack := .ref T.heap.size :: .ref T.heap.size :: rest, locked := none }) rfl hsize (rest := rest) rfl
    (by rw [hb]; exact d4) hRframes (by simp only [List.map_cons, List.sum_cons, hcat]; omega)
  have Z0 := Stand.forget (locs := []) Z (fun y hy => by rw [hL y hy, hhp]; exact Nat.le_refl _)
  obtain ⟨f1, f2⟩ := vx_frame Z0.same
  rw [hhp] at f1 f2
  have hcid : ce.cls = D.1 ci := by
    rw [hcl9]
    have h1 := (hK.1 ci _ hc).2.1
    rw [hvm] at hfX
    exact Option.some.inj (hfX.symm.trans h1)
  have hh : (V.setCell T.heap.size ce).heap[T.heap.size]? = some ce := heapAt_setCell_self (s := V) ce hlt
  subst hA'
  have X5 := vx_back9 X Y Z0
  have X6 : Stand p l e R s m args below meth c (V.setCell T.heap.size ce) locs (cells + 1) (slots + 6) := { X5 with same := X5.same.mono (by omega) (by omega) }
  have hk9 : ∀ (k : Nat) (x : Nat × va_E), ws[k]? = some x → (V.setCell T.heap.size ce).heap[x.1]? = T.heap[x.1]? := fun k x hx => f2 x.1 ((hP k x hx).lt) (fun z hz => nomatch hz)
  obtain ⟨t, a1, b1⟩ := kk T.heap.size (V.setCell T.heap.size ce).heap ((hP.kept hk9).app (fun k x hx => by
      have hz : k < 1 := (List.getElem?_eq_some_iff.mp hx).1
      rw [show k = 0 by omega] at hx
      cases hx
      exact ⟨_, hc, ce, hh, hcid, hvm9, fun k hk => absurd hk (Nat.not_lt_zero k)⟩)) (hD.push hP rfl (hA _ hS.1)) ⟨Nat.le_trans hS.1 f1, fun q h1 h2 => (f2 q (Nat.lt_of_lt_of_le h1 hS.1) (fun z hz => nomatch hz)).trans (hS.2.1 q h1 h2), hS.2.2⟩ _ rfl X6
  refine ⟨t, st1 _ ?_, b1⟩
  show Steps p.tables e below (T1.setTop { method := m, pc := pc + 3, locals := ls, stack := .ref T.heap.size :: rest, locked := none }) _
  jvm_step X₁.here [X₁.here.top, hexec, d3', Value.category]
  exact st _ a1
/-- 'throw x' of an object that was made before -/
theorem vx_athrow {cc : ByteArray} {pc : Nat} (hexec : p.tables.exec = Jvm.exec) (hb : c.code = cc) {q : Addr} (hdg : decode cc pc = .ok (.athrow, 1)) (k : vx_W p l e R s m args below meth c H locs cells slots Q (F0 m pc ls rest) q) : W p l e R s m args below meth c H locs cells slots Q (F0 m pc ls (.ref q :: rest)) := by
  intro T hT X
  obtain ⟨t, st, hq⟩ := k T hT X
  refine ⟨t, ?_, hq⟩
  have hdg' : decode c.code pc = .ok (.athrow, 1) := by rw [hb]; exact hdg
  jvm_step X.here [X.here.top, hexec, hdg', athrow.wp_sem]
  exact st
end VXK2
/-! ===== END ===== -/
/-! ===== BEGIN a constructor that throws (launches without stack traces) ===== -/
section VXIA
variable {p : Program} {l : Launch} {e : Env} {R : Room} {s : State} {m : MethodId} {args : Array Value} {below : List Frame} {meth : Method} {c : Code} {T : State} {locs : List Loc} {cells slots : Nat}
theorem vx_callI (X : Stand p l e R s m args below meth c T locs cells slots) (hexec : p.tables.exec = Jvm.exec) {own : String} {index : Nat} {y : MethodName} {bytes : ByteArray} {maxL : Nat}
    (hown : s.vm.findClass own = some m.cls) (hy1 : y.name = "<init>") (hlink : (Cond.methodLink own index y).before args s = true) (hinst : (Cond.instanceMethod y).before args s = true)
    (hcode : (Cond.code y bytes maxL none).before args s = true) (hy : y.cls ≠ "java/lang/invoke/MethodHandle" ∧ y.cls ≠ "java/lang/invoke/VarHandle")
    {W9 : Nat} {Pre : Pt → Array Value → Prop} {Post : Pt → Array Value → Option Value → Pt → Prop} {PostX : Pt → Array Value → Addr → Pt → Prop} (hK : vx_Back l R p e below s args y 3 W9 Pre Post PostX)
    {g : JFrame} (hg : g.method = m) (hsize : g.locals.size = c.maxLocals) {a : Addr} {argsL rest : List Value} (hlen : ∀ sig, parseMethodDescriptor y.desc = some sig → argsL.length = sig.parameters.length)
    (hstack : g.stack = argsL.reverse ++ .ref a :: rest) (hW : 2 * g.monitorRoom + (rest.map fun v => v.category).sum ≤ W9) (hdg : decode c.code g.pc = .ok (.invokespecial index, 3))
    (hpre : ∀ vm₁, s.WarmedH vm₁ → Pre ⟨T.setVm vm₁, locs, cells, slots⟩ (Value.ref a :: argsL).toArray) :
    (∃ (v : Option Value) (vm₁ : Vm) (B : Pt), s.WarmedH vm₁ ∧ Stand p l e R s m args below meth c B.U B.locs B.cells B.slots ∧ Post ⟨T.setVm vm₁, locs, cells, slots⟩ (Value.ref a :: argsL).toArray v B ∧
      ∀ target, Steps p.tables e below (B.U.setTop { g with pc := g.pc + 3, stack := v.toList ++ rest }) target → Steps p.tables e below (T.setTop g) target) ∨
    (∃ (q : Addr) (vm₁ : Vm) (B : Pt), s.WarmedH vm₁ ∧ Stand p l e R s m args below meth c B.U B.locs B.cells B.slots ∧ PostX ⟨T.setVm vm₁, locs, cells, slots⟩ (Value.ref a :: argsL).toArray q B ∧
      Steps p.tables e below (T.setTop g) ((B.U.setTop { g with stack := rest }).pushFrame (.throwing q))) := by
  subst hg
  have hpl : e.platform.magicAccessors = ({} : Platform).magicAccessors := by rw [X.admits.platform]
  obtain ⟨mk, methM, cM, kP, vm₁, hnamed, hmethM, hcodeM, -, hlocalsM, -, hkP, -, hW₁, hstep₁⟩ := Steps.initColdArgs (e := e) X.here hexec X.warmed hpl hown hy1 hy hlink hinst hcode (f := g) rfl hlen hstack hdg
  have X₁ := X.noted hW₁
  rcases hK g.method meth c ⟨T.setVm vm₁, locs, cells, slots⟩ { g with stack := rest } (.invokespecial index) mk (Value.ref a :: argsL).toArray X₁ rfl hsize hdg hW (X₁.named hnamed) (hpre vm₁ X₁.warmed) with ⟨v, B, X', hpost, hsteps⟩ | ⟨q, B, X', hpost, hsteps⟩
  · exact Or.inl ⟨v, vm₁, B, X₁.warmed, X', hpost, fun target h => hstep₁ _ fun acts => by rw [doInvoke_state]; exact hsteps.trans h⟩
  · exact Or.inr ⟨q, vm₁, B, X₁.warmed, X', hpost, hstep₁ _ fun acts => by rw [doInvoke_state]; exact hsteps⟩
end VXIA
section VXIB
variable {p : Program} {l : Launch} {e : Env} {R : Room} {s : State} {m : MethodId} {args : Array Value} {below : List Frame} {meth : Method} {c : Code} {H : Heap} {locs : List Loc} {cells slots : Nat}
variable {y : MethodName} {bytes cc : ByteArray} {maxL nL mc ms n index : Nat} {ret : Option FieldType} {ws : List Cond} {rm : Room} {Pc : Array Value → State → Prop} {Qc : Array Value → State → Outcome → State → Prop} {XC : String → State → State → Prop} {free : Addr → Prop} {Ts : List Cond} {own C : String} {b : Addr} {As rest : List Value} {g : JFrame}
theorem vx_runI (S : CallFix p m c cc nL s args Ts own) (hM : vx_Met l y ws rm Pc Qc XC mc ms free) (cw : CallB R s args own index y bytes maxL none ws rm mc ms n ∧ y.name = "<init>" ∧ (Cond.instanceMethod y).before args s = true) (hp : PreS s H Pc (.ref b :: As))
    (hg : g.method = m) (hn : As.length = n) (hsize : g.locals.size = nL) (hstack : g.stack = As.reverse ++ .ref b :: rest) (hW : 2 * g.monitorRoom + (rest.map fun v => v.category).sum ≤ 8) (hdg : decode cc g.pc = .ok (.invokespecial index, 3)) (hf : cells + mc ≤ R.cells ∧ slots + ms ≤ R.slots) :
    vx_Run p l e R s m args below meth c H locs cells slots mc ms g rest (Qc (Value.ref b :: As).toArray) XC free := by
  have hK : vx_Back l R p e below s args y 3 8 (PreOf R mc ms Pc) (PostOf Qc mc ms free) (vx_Post XC mc ms free) := vx_callBack cw.1 hM hp.1
  obtain ⟨⟨-, -, -, -, -, -, hcode, -, hy, hlen, hl⟩, hy1, hin⟩ := cw
  obtain ⟨hx, hb, hml, ho, -⟩ := S
  have hPc := hp.2
  intro T hT X
  rcases vx_callI X hx (bytes := bytes) (maxL := maxL) ho hy1 hl hin hcode hy hK hg (hsize.trans hml.symm) (a := b) (argsL := As) (rest := rest) (fun sig h => hn.trans (hlen sig h)) hstack hW (by rw [hb]; exact hdg)
    (fun vm₁ hW₁ => ⟨hf.1, hf.2, hPc (T.setVm vm₁) hT hW₁⟩) with ⟨v, vm₁, ⟨U', l2, c2, s2⟩, hW₁, X', ⟨g', mk, t, L, e1, e2, hq, h1, hL, h2, h3⟩, st⟩ | ⟨q, vm₁, ⟨U', l2, c2, s2⟩, hW₁, X', ⟨g', mk, t, L, E, ce, e1, e2, hq, hce, hcv, hcl, h1, hL, h2, h3⟩, st⟩
  · dsimp only [Pt.U, Pt.locs, Pt.cells, Pt.slots] at X' e1 e2 h1 h2 h3 st
    subst h1; subst h2; subst h3
    exact Or.inl ⟨v, (T.setVm vm₁).calling g' mk (Value.ref b :: As).toArray, t, U', L, hT, X', hL, e1, e2, hq, st⟩
  · dsimp only [Pt.U, Pt.locs, Pt.cells, Pt.slots] at X' e1 e2 h1 h2 h3 st hcl
    subst h1; subst h2; subst h3
    exact Or.inr ⟨q, (T.setVm vm₁).calling g' mk (Value.ref b :: As).toArray, t, U', L, E, ce, hT, X', hL, e1, e2, hq, hce, hcv, vx_cls hW₁ hcl, st⟩
end VXIB
/-! ===== END ===== -/
/-! ===== BEGIN a private constructor of a nest mate that throws ===== -/
section VXIC
variable {p : Program} {l : Launch} {e : Env} {R : Room} {s : State} {m : MethodId} {args : Array Value} {below : List Frame} {meth : Method} {c : Code} {T : State} {locs : List Loc} {cells slots : Nat}
theorem vx_callIN (X : Stand p l e R s m args below meth c T locs cells slots) (hexec : p.tables.exec = Jvm.exec) {own : String} {index : Nat} {host : String} {y : MethodName} {bytes : ByteArray} {maxL : Nat}
    (hown : s.vm.findClass own = some m.cls) (hy1 : y.name = "<init>") (hlink : (Cond.methodLinkNest own index y host).before args s = true) (hinst : (Cond.instanceMethod y).before args s = true)
    (hcode : (Cond.code y bytes maxL none).before args s = true) (hy : y.cls ≠ "java/lang/invoke/MethodHandle" ∧ y.cls ≠ "java/lang/invoke/VarHandle")
    {W9 : Nat} {Pre : Pt → Array Value → Prop} {Post : Pt → Array Value → Option Value → Pt → Prop} {PostX : Pt → Array Value → Addr → Pt → Prop} (hK : vx_Back l R p e below s args y 3 W9 Pre Post PostX)
    {g : JFrame} (hg : g.method = m) (hsize : g.locals.size = c.maxLocals) {a : Addr} {argsL rest : List Value} (hlen : ∀ sig, parseMethodDescriptor y.desc = some sig → argsL.length = sig.parameters.length)
    (hstack : g.stack = argsL.reverse ++ .ref a :: rest) (hW : 2 * g.monitorRoom + (rest.map fun v => v.category).sum ≤ W9) (hdg : decode c.code g.pc = .ok (.invokespecial index, 3))
    (hpre : ∀ vm₁, s.WarmedH vm₁ → Pre ⟨T.setVm vm₁, locs, cells, slots⟩ (Value.ref a :: argsL).toArray) :
    (∃ (v : Option Value) (vm₁ : Vm) (B : Pt), s.WarmedH vm₁ ∧ Stand p l e R s m args below meth c B.U B.locs B.cells B.slots ∧ Post ⟨T.setVm vm₁, locs, cells, slots⟩ (Value.ref a :: argsL).toArray v B ∧
      ∀ target, Steps p.tables e below (B.U.setTop { g with pc := g.pc + 3, stack := v.toList ++ rest }) target → Steps p.tables e below (T.setTop g) target) ∨
    (∃ (q : Addr) (vm₁ : Vm) (B : Pt), s.WarmedH vm₁ ∧ Stand p l e R s m args below meth c B.U B.locs B.cells B.slots ∧ PostX ⟨T.setVm vm₁, locs, cells, slots⟩ (Value.ref a :: argsL).toArray q B ∧
      Steps p.tables e below (T.setTop g) ((B.U.setTop { g with stack := rest }).pushFrame (.throwing q))) := by
  subst hg
  have hpl : e.platform.magicAccessors = ({} : Platform).magicAccessors := by rw [X.admits.platform]
  obtain ⟨mk, methM, cM, kP, vm₁, hnamed, hmethM, hcodeM, -, hlocalsM, -, hkP, -, hW₁, hstep₁⟩ := Steps.initColdArgsNest (e := e) X.here hexec X.warmed hpl hown hy1 hy hlink hinst hcode (f := g) rfl hlen hstack hdg
  have X₁ := X.noted hW₁
  rcases hK g.method meth c ⟨T.setVm vm₁, locs, cells, slots⟩ { g with stack := rest } (.invokespecial index) mk (Value.ref a :: argsL).toArray X₁ rfl hsize hdg hW (X₁.named hnamed) (hpre vm₁ X₁.warmed) with ⟨v, B, X', hpost, hsteps⟩ | ⟨q, B, X', hpost, hsteps⟩
  · exact Or.inl ⟨v, vm₁, B, X₁.warmed, X', hpost, fun target h => hstep₁ _ fun acts => by rw [doInvoke_state]; exact hsteps.trans h⟩
  · exact Or.inr ⟨q, vm₁, B, X₁.warmed, X', hpost, hstep₁ _ fun acts => by rw [doInvoke_state]; exact hsteps⟩
end VXIC
section VXID
variable {p : Program} {l : Launch} {e : Env} {R : Room} {s : State} {m : MethodId} {args : Array Value} {below : List Frame} {meth : Method} {c : Code} {H : Heap} {locs : List Loc} {cells slots : Nat}
theorem vx_runIN {y : MethodName} {bytes cc : ByteArray} {maxL nL mc ms n index : Nat} {ws : List Cond} {rm : Room} {Pc : Array Value → State → Prop} {Qc : Array Value → State → Outcome → State → Prop} {XC : String → State → State → Prop} {free : Addr → Prop} {Ts : List Cond} {own host : String} {b : Addr} {As rest : List Value} {g : JFrame}
    (S : CallFix p m c cc nL s args Ts own) (hM : vx_Met l y ws rm Pc Qc XC mc ms free) (cw : va_CN R s args own index y host bytes maxL none ws rm mc ms n ∧ y.name = "<init>" ∧ (Cond.instanceMethod y).before args s = true) (hp : PreS s H Pc (.ref b :: As))
    (hg : g.method = m) (hn : As.length = n) (hsize : g.locals.size = nL) (hstack : g.stack = As.reverse ++ .ref b :: rest) (hW : 2 * g.monitorRoom + (rest.map fun v => v.category).sum ≤ 8) (hdg : decode cc g.pc = .ok (.invokespecial index, 3)) (hf : cells + mc ≤ R.cells ∧ slots + ms ≤ R.slots) :
    vx_Run p l e R s m args below meth c H locs cells slots mc ms g rest (Qc (Value.ref b :: As).toArray) XC free := by
  obtain ⟨⟨⟨hrc, hrs, hfr, hlo, hws, hcw⟩, hcode, hini, hy, hlen, hl⟩, hx1, hx2⟩ := cw
  have hK : vx_Back l R p e below s args y 3 8 (PreOf R mc ms Pc) (PostOf Qc mc ms free) (vx_Post XC mc ms free) := vx_back (bytes := bytes) (maxL := maxL) (ret := none) hM hp.1 hrc hrs hfr hlo hws hcw (fun a' U hW => word_at hW (Or.inl (by first | rfl | simp [Cond.onTables, Cond.keeps, Cond.steady])) hini)
  obtain ⟨hx, hb, hml, ho, -⟩ := S
  have hPc := hp.2
  intro T hT X
  rcases vx_callIN X hx (bytes := bytes) (maxL := maxL) ho hx1 hl hx2 hcode hy hK hg (hsize.trans hml.symm) (a := b) (argsL := As) (rest := rest) (fun sig h => hn.trans (hlen sig h)) hstack hW (by rw [hb]; exact hdg)
    (fun vm₁ hW₁ => ⟨hf.1, hf.2, hPc (T.setVm vm₁) hT hW₁⟩) with ⟨v, vm₁, ⟨U', l2, c2, s2⟩, hW₁, X', ⟨g', mk, t, L, e1, e2, hq, h1, hL, h2, h3⟩, st⟩ | ⟨q, vm₁, ⟨U', l2, c2, s2⟩, hW₁, X', ⟨g', mk, t, L, E, ce, e1, e2, hq, hce, hcv, hcl, h1, hL, h2, h3⟩, st⟩
  · dsimp only [Pt.U, Pt.locs, Pt.cells, Pt.slots] at X' e1 e2 h1 h2 h3 st
    subst h1; subst h2; subst h3
    exact Or.inl ⟨v, (T.setVm vm₁).calling g' mk (Value.ref b :: As).toArray, t, U', L, hT, X', hL, e1, e2, hq, st⟩
  · dsimp only [Pt.U, Pt.locs, Pt.cells, Pt.slots] at X' e1 e2 h1 h2 h3 st hcl
    subst h1; subst h2; subst h3
    exact Or.inr ⟨q, (T.setVm vm₁).calling g' mk (Value.ref b :: As).toArray, t, U', L, E, ce, hT, X', hL, e1, e2, hq, hce, hcv, vx_cls hW₁ hcl, st⟩
end VXID
/-! ===== END ===== -/
/-! ===== BEGIN a method of a class above, found by the receiver, that may throw (follows va_callVU, va_runU of this kit) ===== -/
section
variable {p : Program} {l : Launch} {e : Env} {R : Room} {s : State} {m : MethodId} {args : Array Value} {below : List Frame} {meth : Method} {c : Code} {H : Heap} {locs : List Loc} {cells slots : Nat}
theorem vx_callVU {T : State} {locs : List Loc} {cells slots : Nat} (X : Stand p l e R s m args below meth c T locs cells slots) (hexec : p.tables.exec = Jvm.exec) {own C owner : String} {index : Nat} {x y : MethodName} {bytes : ByteArray} {maxL : Nat} {ret : Option FieldType}
    (hown : s.vm.findClass own = some m.cls) (hlink : (Cond.methodLink own index x).before args s = true) (hsame : (Cond.sameMethod x.cls owner x.name x.desc).before args s = true)
    (hd0 : va_Decl s ⟨owner, x.name, x.desc⟩) (howner : owner ≠ "java/lang/invoke/MethodHandle" ∧ owner ≠ "java/lang/invoke/VarHandle")
    (hsel : (Cond.selects C x y).before args s = true) (hinst : (Cond.instanceMethod y).before args s = true) (hcode : (Cond.code y bytes maxL ret).before args s = true)
    {W : Nat} {Pre : Pt → Array Value → Prop} {Post : Pt → Array Value → Option Value → Pt → Prop} {PostX : Pt → Array Value → Addr → Pt → Prop} (hK : vx_Back l R p e below s args y 3 W Pre Post PostX)
    {b : Addr} {cellB : Cell} (hcell : T.heap[b]? = some cellB) (hobj : cellB.vm.isStatics = false) (hcls : s.vm.findClass C = some cellB.cls)
    {g : JFrame} (hg : g.method = m) (hsize : g.locals.size = c.maxLocals) {argsL rest : List Value} (hlen : ∀ sig, parseMethodDescriptor x.desc = some sig → argsL.length = sig.parameters.length)
    (hstack : g.stack = argsL.reverse ++ .ref b :: rest) (hW : 2 * g.monitorRoom + (rest.map fun v => v.category).sum ≤ W) (hdg : decode c.code g.pc = .ok (.invokevirtual index, 3))
    (hpre : ∀ vm₁, s.WarmedH vm₁ → Pre ⟨T.setVm vm₁, locs, cells, slots⟩ (Value.ref b :: argsL).toArray) :
    (∃ (v : Option Value) (vm₁ : Vm) (B : Pt), s.WarmedH vm₁ ∧ Stand p l e R s m args below meth c B.U B.locs B.cells B.slots ∧ Post ⟨T.setVm vm₁, locs, cells, slots⟩ (Value.ref b :: argsL).toArray v B ∧
      ∀ target, Steps p.tables e below (B.U.setTop { g with pc := g.pc + 3, stack := v.toList ++ rest }) target → Steps p.tables e below (T.setTop g) target) ∨
    (∃ (q : Addr) (vm₁ : Vm) (B : Pt), s.WarmedH vm₁ ∧ Stand p l e R s m args below meth c B.U B.locs B.cells B.slots ∧ PostX ⟨T.setVm vm₁, locs, cells, slots⟩ (Value.ref b :: argsL).toArray q B ∧
      Steps p.tables e below (T.setTop g) ((B.U.setTop { g with stack := rest }).pushFrame (.throwing q))) := by
  obtain ⟨r0, r, hn, hrm, hstR, hsigR⟩ := hd0
  obtain ⟨cn, ck, r1, hcn, hck, hni, hf, hn1⟩ := Cond.sameMethod_found hsame
  cases hn.symm.trans hn1
  obtain ⟨mk, methM, hnamed, hmethM, -, habM⟩ := Cond.instanceMethod_spec hinst
  obtain ⟨c2, r2, m2, q1, q2, q3, q4, kP, hkP, hkPi⟩ := Cond.selects_spec hsel
  cases hcls.symm.trans q1
  cases hf.symm.trans q2
  cases hnamed.symm.trans q3
  have hselP : selectMethod e.platform s.vm cellB.cls r0 = .method mk := by rw [Launch.admits_selectMethod X.admits]; exact q4
  obtain ⟨vm₁, X₁, hstep₁⟩ := X.invokevirtualUp hexec hown hlink hsame howner hn hrm hstR (a := b) (cell := cellB) hcell
    (fun z h => by rw [h] at hobj; cases hobj) hselP hmethM habM hkP hkPi (g := g) hg (argsL := argsL) (rest := rest) (hlen _ hsigR) hstack hdg
  rcases hK m meth c ⟨T.setVm vm₁, locs, cells, slots⟩ { g with stack := rest } (.invokevirtual index) mk (Value.ref b :: argsL).toArray X₁ hg hsize hdg hW (X₁.named hnamed) (hpre vm₁ X₁.warmed) with ⟨v, B, X', hpost, hsteps⟩ | ⟨q, B, X', hpost, hsteps⟩
  · exact Or.inl ⟨v, vm₁, B, X₁.warmed, X', hpost, fun target h => hstep₁ _ fun acts => by rw [doInvoke_state]; exact hsteps.trans h⟩
  · exact Or.inr ⟨q, vm₁, B, X₁.warmed, X', hpost, hstep₁ _ fun acts => by rw [doInvoke_state]; exact hsteps⟩
theorem vx_runU {x y : MethodName} {bytes cc : ByteArray} {maxL nL mc ms n index : Nat} {ret : Option FieldType} {ws : List Cond} {rm : Room} {Pc : Array Value → State → Prop} {Qc : Array Value → State → Outcome → State → Prop} {XC : String → State → State → Prop} {free : Addr → Prop} {Ts : List Cond} {own C owner : String} {b : Addr} {As rest : List Value} {g : JFrame}
    (S : CallFix p m c cc nL s args Ts own) (hM : vx_Met l y ws rm Pc Qc XC mc ms free) (cw : va_CU R s args own C owner index x y bytes maxL ret ws rm mc ms n) (hp : PreV s H C b Pc As)
    (hg : g.method = m) (hn : As.length = n) (hsize : g.locals.size = nL) (hstack : g.stack = As.reverse ++ .ref b :: rest) (hW : 2 * g.monitorRoom + (rest.map fun v => v.category).sum ≤ 8) (hdg : decode cc g.pc = .ok (.invokevirtual index, 3)) (hf : cells + mc ≤ R.cells ∧ slots + ms ≤ R.slots) :
    vx_Run p l e R s m args below meth c H locs cells slots mc ms g rest (Qc (Value.ref b :: As).toArray) XC free := by
  obtain ⟨hrc, hrs, hfr, hlo, hws, hcw⟩ := cw.back
  have hini := cw.init
  have hK : vx_Back l R p e below s args y 3 8 (PreOf R mc ms Pc) (PostOf Qc mc ms free) (vx_Post XC mc ms free) := vx_back (bytes := bytes) (maxL := maxL) (ret := ret) hM hp.1 hrc hrs hfr hlo hws hcw (fun a' U hW => word_at hW (Or.inl (by first | rfl | simp [Cond.onTables, Cond.keeps, Cond.steady])) hini)
  obtain ⟨hx, hb, hml, ho, -⟩ := S
  obtain ⟨-, ⟨cellB, hcB, hoB, hclB⟩, hPc⟩ := hp
  intro T hT X
  rcases vx_callVU X hx (C := C) (owner := owner) (bytes := bytes) (maxL := maxL) (ret := ret) ho cw.link cw.same cw.decl cw.notMH cw.sel cw.inst cw.code hK (by rw [hT]; exact hcB) hoB hclB hg (hsize.trans hml.symm) (argsL := As) (rest := rest) (fun sig h => hn.trans (cw.len sig h)) hstack hW (by rw [hb]; exact hdg)
    (fun vm₁ hW₁ => ⟨hf.1, hf.2, hPc (T.setVm vm₁) hT hW₁⟩) with ⟨v, vm₁, ⟨U', l2, c2, s2⟩, hW₁, X', ⟨g', mk, t, L, e1, e2, hq, h1, hL, h2, h3⟩, st⟩ | ⟨q, vm₁, ⟨U', l2, c2, s2⟩, hW₁, X', ⟨g', mk, t, L, E, ce, e1, e2, hq, hce, hcv, hcl, h1, hL, h2, h3⟩, st⟩
  · dsimp only [Pt.U, Pt.locs, Pt.cells, Pt.slots] at X' e1 e2 h1 h2 h3 st
    subst h1; subst h2; subst h3
    exact Or.inl ⟨v, (T.setVm vm₁).calling g' mk (Value.ref b :: As).toArray, t, U', L, hT, X', hL, e1, e2, hq, st⟩
  · dsimp only [Pt.U, Pt.locs, Pt.cells, Pt.slots] at X' e1 e2 h1 h2 h3 st hcl
    subst h1; subst h2; subst h3
    exact Or.inr ⟨q, (T.setVm vm₁).calling g' mk (Value.ref b :: As).toArray, t, U', L, E, ce, hT, X', hL, e1, e2, hq, hce, hcv, vx_cls hW₁ hcl, st⟩
end
/-! ===== END ===== -/
/-! ===== BEGIN super.m(..) that may throw (follows va_callSU, va_runSU) ===== -/
section
variable {p : Program} {l : Launch} {e : Env} {R : Room} {s : State} {m : MethodId} {args : Array Value} {below : List Frame} {meth : Method} {c : Code} {H : Heap} {locs : List Loc} {cells slots : Nat}
theorem vx_callSU {T : State} {locs : List Loc} {cells slots : Nat} (X : Stand p l e R s m args below meth c T locs cells slots) (hexec : p.tables.exec = Jvm.exec) {own : String} {index : Nat} {y : MethodName} {bytes : ByteArray} {maxL : Nat} {ret : Option FieldType}
    (hown : s.vm.findClass own = some m.cls) (hlink : (Cond.methodLink own index y).before args s = true) (hsame : (Cond.sameMethod y.cls y.cls y.name y.desc).before args s = true) (hsup : (Cond.superclass own y.cls).before args s = true)
    (hinst : (Cond.instanceMethod y).before args s = true) (hcode : (Cond.code y bytes maxL ret).before args s = true) (hno : y.name ≠ "<init>")
    {W : Nat} {Pre : Pt → Array Value → Prop} {Post : Pt → Array Value → Option Value → Pt → Prop} {PostX : Pt → Array Value → Addr → Pt → Prop} (hK : vx_Back l R p e below s args y 3 W Pre Post PostX)
    {b : Addr} {cellB : Cell} {kB : Class} (hcell : T.heap[b]? = some cellB) (hobj : cellB.vm.isStatics = false) (hkB : s.vm.classes[cellB.cls]? = some kB)
    {g : JFrame} (hg : g.method = m) (hsize : g.locals.size = c.maxLocals) {argsL rest : List Value} (hlen : ∀ sig, parseMethodDescriptor y.desc = some sig → argsL.length = sig.parameters.length)
    (hstack : g.stack = argsL.reverse ++ .ref b :: rest) (hW : 2 * g.monitorRoom + (rest.map fun v => v.category).sum ≤ W) (hdg : decode c.code g.pc = .ok (.invokespecial index, 3))
    (hpre : ∀ vm₁, s.WarmedH vm₁ → Pre ⟨T.setVm vm₁, locs, cells, slots⟩ (Value.ref b :: argsL).toArray) :
    (∃ (v : Option Value) (vm₁ : Vm) (B : Pt), s.WarmedH vm₁ ∧ Stand p l e R s m args below meth c B.U B.locs B.cells B.slots ∧ Post ⟨T.setVm vm₁, locs, cells, slots⟩ (Value.ref b :: argsL).toArray v B ∧
      ∀ target, Steps p.tables e below (B.U.setTop { g with pc := g.pc + 3, stack := v.toList ++ rest }) target → Steps p.tables e below (T.setTop g) target) ∨
    (∃ (q : Addr) (vm₁ : Vm) (B : Pt), s.WarmedH vm₁ ∧ Stand p l e R s m args below meth c B.U B.locs B.cells B.slots ∧ PostX ⟨T.setVm vm₁, locs, cells, slots⟩ (Value.ref b :: argsL).toArray q B ∧
      Steps p.tables e below (T.setTop g) ((B.U.setTop { g with stack := rest }).pushFrame (.throwing q))) := by
  obtain ⟨mk, methM, hnamed, hmethM, hstM, habM⟩ := Cond.instanceMethod_spec hinst
  obtain ⟨methM', cM, hmethM', -, -, -, -, -, -, hsigM⟩ := Cond.code_spec hnamed hcode
  cases hmethM.symm.trans hmethM'
  obtain ⟨ps, dk, kp, hps, hdk, hkp, hsuper, -, -, hnid⟩ := Cond.superclass_spec hown hsup
  have hn : s.methodNamed? ⟨y.cls, y.name, y.desc⟩ = some mk := hnamed
  have hpm : ps = mk.cls := Option.some.inj (hps.symm.trans (findClass_of_methodNamed hnamed))
  have hsub : s.vm.isSubclass ps mk.cls = true := by rw [hpm]; simp [Vm.isSubclass, Vm.isSubclassAux]
  obtain ⟨vm₁, X₁, hstep₁⟩ := X.invokespecialUp hexec hown hlink hsame hn hmethM hstM habM hno hdk hnid hps hsuper hsub (a := b) (cell := cellB) hcell
    (fun z h => by rw [h] at hobj; cases hobj) hkB (g := g) hg (argsL := argsL) (rest := rest) (hlen _ hsigM) hstack hdg
  rcases hK m meth c ⟨T.setVm vm₁, locs, cells, slots⟩ { g with stack := rest } (.invokespecial index) mk (Value.ref b :: argsL).toArray X₁ hg hsize hdg hW (X₁.named hnamed) (hpre vm₁ X₁.warmed) with ⟨v, B, X', hpost, hsteps⟩ | ⟨q, B, X', hpost, hsteps⟩
  · exact Or.inl ⟨v, vm₁, B, X₁.warmed, X', hpost, fun target h => hstep₁ _ (by rw [doInvoke_state]; exact hsteps.trans h)⟩
  · exact Or.inr ⟨q, vm₁, B, X₁.warmed, X', hpost, hstep₁ _ (by rw [doInvoke_state]; exact hsteps)⟩
theorem vx_runSU {y : MethodName} {bytes cc : ByteArray} {maxL nL mc ms n index : Nat} {ret : Option FieldType} {ws : List Cond} {rm : Room} {Pc : Array Value → State → Prop} {Qc : Array Value → State → Outcome → State → Prop} {XC : String → State → State → Prop} {free : Addr → Prop} {Ts : List Cond} {own C : String} {cC : ClassId} {b : Addr} {As rest : List Value} {g : JFrame}
    (hat : ClassAt s C cC) (S : CallFix p m c cc nL s args Ts own) (hM : vx_Met l y ws rm Pc Qc XC mc ms free) (cw : va_CS R s args own index y bytes maxL ret ws rm mc ms n) (hp : PreV s H C b Pc As)
    (hg : g.method = m) (hn : As.length = n) (hsize : g.locals.size = nL) (hstack : g.stack = As.reverse ++ .ref b :: rest) (hW : 2 * g.monitorRoom + (rest.map fun v => v.category).sum ≤ 8) (hdg : decode cc g.pc = .ok (.invokespecial index, 3)) (hf : cells + mc ≤ R.cells ∧ slots + ms ≤ R.slots) :
    vx_Run p l e R s m args below meth c H locs cells slots mc ms g rest (Qc (Value.ref b :: As).toArray) XC free := by
  obtain ⟨⟨hrc, hrs, hfr, hlo, hws, hcw⟩, hl1, hl2, hl3, hl4, hini, hcode, hno, hlen⟩ := cw
  have hK : vx_Back l R p e below s args y 3 8 (PreOf R mc ms Pc) (PostOf Qc mc ms free) (vx_Post XC mc ms free) := vx_back (bytes := bytes) (maxL := maxL) (ret := ret) hM hp.1 hrc hrs hfr hlo hws hcw (fun a' U hW => word_at hW (Or.inl (by first | rfl | simp [Cond.onTables, Cond.keeps, Cond.steady])) hini)
  obtain ⟨hx, hb, hml, ho, -⟩ := S
  obtain ⟨-, ⟨cellB, hcB, hoB, hclB⟩, hPc⟩ := hp
  obtain ⟨hfc, kB, hkB, -⟩ := hat
  cases hfc.symm.trans hclB
  intro T hT X
  rcases vx_callSU X hx (bytes := bytes) (maxL := maxL) (ret := ret) ho hl1 hl2 hl3 hl4 hcode hno hK (by rw [hT]; exact hcB) hoB hkB hg (hsize.trans hml.symm) (argsL := As) (rest := rest) (fun sig h => hn.trans (hlen sig h)) hstack hW (by rw [hb]; exact hdg)
    (fun vm₁ hW₁ => ⟨hf.1, hf.2, hPc (T.setVm vm₁) hT hW₁⟩) with ⟨v, vm₁, ⟨U', l2, c2, s2⟩, hW₁, X', ⟨g', mk, t, L, e1, e2, hq, h1, hL, h2, h3⟩, st⟩ | ⟨q, vm₁, ⟨U', l2, c2, s2⟩, hW₁, X', ⟨g', mk, t, L, E, ce, e1, e2, hq, hce, hcv, hcl, h1, hL, h2, h3⟩, st⟩
  · dsimp only [Pt.U, Pt.locs, Pt.cells, Pt.slots] at X' e1 e2 h1 h2 h3 st
    subst h1; subst h2; subst h3
    exact Or.inl ⟨v, (T.setVm vm₁).calling g' mk (Value.ref b :: As).toArray, t, U', L, hT, X', hL, e1, e2, hq, st⟩
  · dsimp only [Pt.U, Pt.locs, Pt.cells, Pt.slots] at X' e1 e2 h1 h2 h3 st hcl
    subst h1; subst h2; subst h3
    exact Or.inr ⟨q, (T.setVm vm₁).calling g' mk (Value.ref b :: As).toArray, t, U', L, E, ce, hT, X', hL, e1, e2, hq, hce, hcv, vx_cls hW₁ hcl, st⟩
end
/-! ===== END ===== -/
/-! ===== BEGIN a private method of a nest mate that may throw (follows va_callVN, va_callSN, va_runVN, va_runSN) ===== -/
section
variable {p : Program} {l : Launch} {e : Env} {R : Room} {s : State} {m : MethodId} {args : Array Value} {below : List Frame} {meth : Method} {c : Code} {H : Heap} {locs : List Loc} {cells slots : Nat}
variable {T : State}
theorem vx_callVN (X : Stand p l e R s m args below meth c T locs cells slots) (hexec : p.tables.exec = Jvm.exec) {own C : String} {index : Nat} {host : String} {y : MethodName} {bytes : ByteArray} {maxL : Nat} {ret : Option FieldType}
    (hown : s.vm.findClass own = some m.cls) (hlink : (Cond.methodLinkNest own index y host).before args s = true) (hinst : (Cond.instanceMethod y).before args s = true) (hsel : (Cond.selects C y y).before args s = true)
    (hcode : (Cond.code y bytes maxL ret).before args s = true) (hy : y.cls ≠ "java/lang/invoke/MethodHandle" ∧ y.cls ≠ "java/lang/invoke/VarHandle")
    {W : Nat} {Pre : Pt → Array Value → Prop} {Post : Pt → Array Value → Option Value → Pt → Prop} {PostX : Pt → Array Value → Addr → Pt → Prop} (hK : vx_Back l R p e below s args y 3 W Pre Post PostX)
    {b : Addr} {cellB : Cell} (hcell : T.heap[b]? = some cellB) (hobj : cellB.vm.isStatics = false) (hcls : s.vm.findClass C = some cellB.cls)
    {g : JFrame} (hg : g.method = m) (hsize : g.locals.size = c.maxLocals) {argsL rest : List Value} (hlen : ∀ sig, parseMethodDescriptor y.desc = some sig → argsL.length = sig.parameters.length)
    (hstack : g.stack = argsL.reverse ++ .ref b :: rest) (hW : 2 * g.monitorRoom + (rest.map fun v => v.category).sum ≤ W) (hdg : decode c.code g.pc = .ok (.invokevirtual index, 3))
    (hpre : ∀ vm₁, s.WarmedH vm₁ → Pre ⟨T.setVm vm₁, locs, cells, slots⟩ (Value.ref b :: argsL).toArray) :
    (∃ (v : Option Value) (vm₁ : Vm) (B : Pt), s.WarmedH vm₁ ∧ Stand p l e R s m args below meth c B.U B.locs B.cells B.slots ∧ Post ⟨T.setVm vm₁, locs, cells, slots⟩ (Value.ref b :: argsL).toArray v B ∧
      ∀ target, Steps p.tables e below (B.U.setTop { g with pc := g.pc + 3, stack := v.toList ++ rest }) target → Steps p.tables e below (T.setTop g) target) ∨
    (∃ (q : Addr) (vm₁ : Vm) (B : Pt), s.WarmedH vm₁ ∧ Stand p l e R s m args below meth c B.U B.locs B.cells B.slots ∧ PostX ⟨T.setVm vm₁, locs, cells, slots⟩ (Value.ref b :: argsL).toArray q B ∧
      Steps p.tables e below (T.setTop g) ((B.U.setTop { g with stack := rest }).pushFrame (.throwing q))) := by
  obtain ⟨mk, methM, hnamed, hmethM, hstM, habM⟩ := Cond.instanceMethod_spec hinst
  obtain ⟨methM', cM, hmethM', -, -, -, -, -, -, hsigM⟩ := Cond.code_spec hnamed hcode
  cases hmethM.symm.trans hmethM'
  obtain ⟨c2, r2, m2, q1, q2, q3, q4, kP, hkP, hkPi⟩ := Cond.selects_spec hsel
  cases hcls.symm.trans q1
  cases (State.methodFound?_of_named hnamed hy).symm.trans q2
  cases hnamed.symm.trans q3
  have hselP : selectMethod e.platform s.vm cellB.cls mk = .method mk := by rw [Launch.admits_selectMethod X.admits]; exact q4
  obtain ⟨vm₁, X₁, hstep₁⟩ := X.invokevirtualNest hexec hown hlink hnamed hmethM hstM hkP hkPi hy (a := b) (cell := cellB) hcell
    (fun z h => by rw [h] at hobj; cases hobj) hselP hmethM habM hkP hkPi (g := g) hg (argsL := argsL) (rest := rest) (hlen _ hsigM) hstack hdg
  rcases hK m meth c ⟨T.setVm vm₁, locs, cells, slots⟩ { g with stack := rest } (.invokevirtual index) mk (Value.ref b :: argsL).toArray X₁ hg hsize hdg hW (X₁.named hnamed) (hpre vm₁ X₁.warmed) with ⟨v, B, X', hpost, hsteps⟩ | ⟨q, B, X', hpost, hsteps⟩
  · exact Or.inl ⟨v, vm₁, B, X₁.warmed, X', hpost, fun target h => hstep₁ _ fun acts => by rw [doInvoke_state]; exact hsteps.trans h⟩
  · exact Or.inr ⟨q, vm₁, B, X₁.warmed, X', hpost, hstep₁ _ fun acts => by rw [doInvoke_state]; exact hsteps⟩
theorem vx_callSN (X : Stand p l e R s m args below meth c T locs cells slots) (hexec : p.tables.exec = Jvm.exec) {own : String} {index : Nat} {host : String} {y : MethodName} {bytes : ByteArray} {maxL : Nat} {ret : Option FieldType}
    (hown : s.vm.findClass own = some m.cls) (hlink : (Cond.methodLinkNest own index y host).before args s = true) (hstat : (Cond.static y).before args s = true) (hinit : (Cond.initialized y.cls).before args s = true)
    (hcode : (Cond.code y bytes maxL ret).before args s = true) (hy : y.cls ≠ "java/lang/invoke/MethodHandle" ∧ y.cls ≠ "java/lang/invoke/VarHandle")
    {W : Nat} {Pre : Pt → Array Value → Prop} {Post : Pt → Array Value → Option Value → Pt → Prop} {PostX : Pt → Array Value → Addr → Pt → Prop} (hK : vx_Back l R p e below s args y 3 W Pre Post PostX)
    {g : JFrame} (hg : g.method = m) (hsize : g.locals.size = c.maxLocals) {argsL rest : List Value} (hlen : ∀ sig, parseMethodDescriptor y.desc = some sig → argsL.length = sig.parameters.length)
    (hstack : g.stack = argsL.reverse ++ rest) (hW : 2 * g.monitorRoom + (rest.map fun v => v.category).sum ≤ W) (hdg : decode c.code g.pc = .ok (.invokestatic index, 3))
    (hpre : ∀ vm₁, s.WarmedH vm₁ → Pre ⟨T.setVm vm₁, locs, cells, slots⟩ argsL.toArray) :
    (∃ (v : Option Value) (vm₁ : Vm) (B : Pt), s.WarmedH vm₁ ∧ Stand p l e R s m args below meth c B.U B.locs B.cells B.slots ∧ Post ⟨T.setVm vm₁, locs, cells, slots⟩ argsL.toArray v B ∧
      ∀ target, Steps p.tables e below (B.U.setTop { g with pc := g.pc + 3, stack := v.toList ++ rest }) target → Steps p.tables e below (T.setTop g) target) ∨
    (∃ (q : Addr) (vm₁ : Vm) (B : Pt), s.WarmedH vm₁ ∧ Stand p l e R s m args below meth c B.U B.locs B.cells B.slots ∧ PostX ⟨T.setVm vm₁, locs, cells, slots⟩ argsL.toArray q B ∧
      Steps p.tables e below (T.setTop g) ((B.U.setTop { g with stack := rest }).pushFrame (.throwing q))) := by
  obtain ⟨mk, hnamed⟩ := Cond.code_named hcode
  obtain ⟨methM, cM, hmethM, -, -, -, -, -, -, hsigM⟩ := Cond.code_spec hnamed hcode
  have hstatic : methM.isStatic = true := Cond.static_spec hnamed hmethM hstat
  obtain ⟨kP, hkP, -⟩ := className_of_methodNamed hnamed
  have hinitP : kP.init = .initialized := Cond.initialized_spec (findClass_of_methodNamed hnamed) hkP hinit
  obtain ⟨vm₁, X₁, hstep₁⟩ := X.invokestaticNest hexec hown hlink hnamed hmethM hstatic hkP hinitP hy (g := g) hg (argsL := argsL) (rest := rest) (hlen _ hsigM) hstack hdg
  rcases hK m meth c ⟨T.setVm vm₁, locs, cells, slots⟩ { g with stack := rest } (.invokestatic index) mk argsL.toArray X₁ hg hsize hdg hW (X₁.named hnamed) (hpre vm₁ X₁.warmed) with ⟨v, B, X', hpost, hsteps⟩ | ⟨q, B, X', hpost, hsteps⟩
  · exact Or.inl ⟨v, vm₁, B, X₁.warmed, X', hpost, fun target h => hstep₁ _ fun acts => by rw [doInvoke_state]; exact hsteps.trans h⟩
  · exact Or.inr ⟨q, vm₁, B, X₁.warmed, X', hpost, hstep₁ _ fun acts => by rw [doInvoke_state]; exact hsteps⟩
theorem vx_runVN {y : MethodName} {bytes cc : ByteArray} {maxL nL mc ms n index : Nat} {ret : Option FieldType} {ws : List Cond} {rm : Room} {Pc : Array Value → State → Prop} {Qc : Array Value → State → Outcome → State → Prop} {XC : String → State → State → Prop} {free : Addr → Prop} {Ts : List Cond} {own C host : String} {b : Addr} {As rest : List Value} {g : JFrame}
    (S : CallFix p m c cc nL s args Ts own) (hM : vx_Met l y ws rm Pc Qc XC mc ms free) (cw : va_CN R s args own index y host bytes maxL ret ws rm mc ms n ∧ (Cond.instanceMethod y).before args s = true ∧ (Cond.selects C y y).before args s = true) (hp : PreV s H C b Pc As)
    (hg : g.method = m) (hn : As.length = n) (hsize : g.locals.size = nL) (hstack : g.stack = As.reverse ++ .ref b :: rest) (hW : 2 * g.monitorRoom + (rest.map fun v => v.category).sum ≤ 8) (hdg : decode cc g.pc = .ok (.invokevirtual index, 3)) (hf : cells + mc ≤ R.cells ∧ slots + ms ≤ R.slots) :
    vx_Run p l e R s m args below meth c H locs cells slots mc ms g rest (Qc (Value.ref b :: As).toArray) XC free := by
  obtain ⟨⟨⟨hrc, hrs, hfr, hlo, hws, hcw⟩, hcode, hini, hy, hlen, hl⟩, hx1, hx2⟩ := cw
  have hK : vx_Back l R p e below s args y 3 8 (PreOf R mc ms Pc) (PostOf Qc mc ms free) (vx_Post XC mc ms free) := vx_back (bytes := bytes) (maxL := maxL) (ret := ret) hM hp.1 hrc hrs hfr hlo hws hcw (fun a' U hW => word_at hW (Or.inl (by first | rfl | simp [Cond.onTables, Cond.keeps, Cond.steady])) hini)
  obtain ⟨hx, hb, hml, ho, -⟩ := S
  obtain ⟨-, ⟨cellB, hcB, hoB, hclB⟩, hPc⟩ := hp
  intro T hT X
  rcases vx_callVN X hx (C := C) (bytes := bytes) (maxL := maxL) (ret := ret) ho hl hx1 hx2 hcode hy hK (by rw [hT]; exact hcB) hoB hclB hg (hsize.trans hml.symm) (argsL := As) (rest := rest) (fun sig h => hn.trans (hlen sig h)) hstack hW (by rw [hb]; exact hdg)
    (fun vm₁ hW₁ => ⟨hf.1, hf.2, hPc (T.setVm vm₁) hT hW₁⟩) with ⟨v, vm₁, ⟨U', l2, c2, s2⟩, hW₁, X', ⟨g', mk, t, L, e1, e2, hq, h1, hL, h2, h3⟩, st⟩ | ⟨q, vm₁, ⟨U', l2, c2, s2⟩, hW₁, X', ⟨g', mk, t, L, E, ce, e1, e2, hq, hce, hcv, hcl, h1, hL, h2, h3⟩, st⟩
  · dsimp only [Pt.U, Pt.locs, Pt.cells, Pt.slots] at X' e1 e2 h1 h2 h3 st
    subst h1; subst h2; subst h3
    exact Or.inl ⟨v, (T.setVm vm₁).calling g' mk (Value.ref b :: As).toArray, t, U', L, hT, X', hL, e1, e2, hq, st⟩
  · dsimp only [Pt.U, Pt.locs, Pt.cells, Pt.slots] at X' e1 e2 h1 h2 h3 st hcl
    subst h1; subst h2; subst h3
    exact Or.inr ⟨q, (T.setVm vm₁).calling g' mk (Value.ref b :: As).toArray, t, U', L, E, ce, hT, X', hL, e1, e2, hq, hce, hcv, vx_cls hW₁ hcl, st⟩
theorem vx_runSN {y : MethodName} {bytes cc : ByteArray} {maxL nL mc ms n index : Nat} {ret : Option FieldType} {ws : List Cond} {rm : Room} {Pc : Array Value → State → Prop} {Qc : Array Value → State → Outcome → State → Prop} {XC : String → State → State → Prop} {free : Addr → Prop} {Ts : List Cond} {own host : String} {As rest : List Value} {g : JFrame}
    (S : CallFix p m c cc nL s args Ts own) (hM : vx_Met l y ws rm Pc Qc XC mc ms free) (cw : va_CN R s args own index y host bytes maxL ret ws rm mc ms n ∧ (Cond.static y).before args s = true ∧ True) (hp : PreS s H Pc As)
    (hg : g.method = m) (hn : As.length = n) (hsize : g.locals.size = nL) (hstack : g.stack = As.reverse ++ rest) (hW : 2 * g.monitorRoom + (rest.map fun v => v.category).sum ≤ 8) (hdg : decode cc g.pc = .ok (.invokestatic index, 3)) (hf : cells + mc ≤ R.cells ∧ slots + ms ≤ R.slots) :
    vx_Run p l e R s m args below meth c H locs cells slots mc ms g rest (Qc As.toArray) XC free := by
  obtain ⟨⟨⟨hrc, hrs, hfr, hlo, hws, hcw⟩, hcode, hini, hy, hlen, hl⟩, hx1, hx2⟩ := cw
  have hK : vx_Back l R p e below s args y 3 8 (PreOf R mc ms Pc) (PostOf Qc mc ms free) (vx_Post XC mc ms free) := vx_back (bytes := bytes) (maxL := maxL) (ret := ret) hM hp.1 hrc hrs hfr hlo hws hcw (fun a' U hW => word_at hW (Or.inl (by first | rfl | simp [Cond.onTables, Cond.keeps, Cond.steady])) hini)
  obtain ⟨hx, hb, hml, ho, -⟩ := S
  have hPc := hp.2
  intro T hT X
  rcases vx_callSN X hx (bytes := bytes) (maxL := maxL) (ret := ret) ho hl hx1 hini hcode hy hK hg (hsize.trans hml.symm) (argsL := As) (rest := rest) (fun sig h => hn.trans (hlen sig h)) hstack hW (by rw [hb]; exact hdg)
    (fun vm₁ hW₁ => ⟨hf.1, hf.2, hPc (T.setVm vm₁) hT hW₁⟩) with ⟨v, vm₁, ⟨U', l2, c2, s2⟩, hW₁, X', ⟨g', mk, t, L, e1, e2, hq, h1, hL, h2, h3⟩, st⟩ | ⟨q, vm₁, ⟨U', l2, c2, s2⟩, hW₁, X', ⟨g', mk, t, L, E, ce, e1, e2, hq, hce, hcv, hcl, h1, hL, h2, h3⟩, st⟩
  · dsimp only [Pt.U, Pt.locs, Pt.cells, Pt.slots] at X' e1 e2 h1 h2 h3 st
    subst h1; subst h2; subst h3
    exact Or.inl ⟨v, (T.setVm vm₁).calling g' mk As.toArray, t, U', L, hT, X', hL, e1, e2, hq, st⟩
  · dsimp only [Pt.U, Pt.locs, Pt.cells, Pt.slots] at X' e1 e2 h1 h2 h3 st hcl
    subst h1; subst h2; subst h3
    exact Or.inr ⟨q, (T.setVm vm₁).calling g' mk As.toArray, t, U', L, E, ce, hT, X', hL, e1, e2, hq, hce, hcv, vx_cls hW₁ hcl, st⟩
end
/-! ===== END ===== -/
/-! ===== BEGIN calls by an interface of methods that may throw (vx_callIF, vx_runF follow va_callIF, va_runF of this kit) ===== -/
section
variable {p : Program} {l : Launch} {e : Env} {R : Room} {s : State} {m : MethodId} {args : Array Value} {below : List Frame} {meth : Method} {c : Code} {H : Heap} {locs : List Loc} {cells slots : Nat} {Q : State → Prop}
variable {mc ms : Nat} {free : Addr → Prop} {A0 A1 : Nat → Prop} {H0 : Heap} {a : Array Value} {pc : Nat} {ls : Array Slot} {st0 rest : List Value}
def vx_Run5 (p : Program) (l : Launch) (e : Env) (R : Room) (s : State) (m : MethodId) (args : Array Value) (below : List Frame) (meth : Method) (c : Code) (H : Heap) (locs : List Loc) (cells slots mc ms : Nat) (g : JFrame) (rest : List Value) (Qa : State → Outcome → State → Prop) (XC : String → State → State → Prop) (free : Addr → Prop) : Prop :=
  ∀ T : State, T.heap = H → Stand p l e R s m args below meth c T locs cells slots →
    (∃ (v : Option Value) (st₀ t T' : State) (L : List Loc), st₀.heap = H ∧ Stand p l e R s m args below meth c T' (locs ++ L) (cells + mc) (slots + ms) ∧ (∀ q ∈ L, free q.base) ∧ T'.heap = t.heap ∧ T'.vm = t.vm ∧ Qa st₀ (.returned v) t ∧
      Goes p e below T g T' { g with pc := g.pc + 5, stack := v.toList ++ rest }) ∨
    (∃ (q : Addr) (st₀ t T' : State) (L : List Loc) (E : String) (ce : Cell), st₀.heap = H ∧ Stand p l e R s m args below meth c T' (locs ++ L) (cells + mc) (slots + ms) ∧ (∀ z ∈ L, free z.base) ∧ T'.heap = t.heap ∧ T'.vm = t.vm ∧ XC E st₀ t ∧ t.heap[q]? = some ce ∧ ce.vm = .none ∧ s.vm.findClass E = some ce.cls ∧
      Steps p.tables e below (T.setTop g) ((T'.setTop { g with stack := rest }).pushFrame (.throwing q)))
theorem vx_callIF {T : State} (X : Stand p l e R s m args below meth c T locs cells slots) (hexec : p.tables.exec = Jvm.exec) {own C : String} {index count : Nat} {x y : MethodName} {bytes : ByteArray} {maxL : Nat} {ret : Option FieldType}
    (hown : s.vm.findClass own = some m.cls) (hlink : (Cond.methodLink own index x).before args s = true) (hdecl : (Cond.declares x).before args s = true) (hface : (Cond.interfaceMethod x.cls x.cls x.name x.desc).before args s = true)
    (hsel : (Cond.selects C x y).before args s = true) (hinst : (Cond.instanceMethod y).before args s = true) (hpub : (Cond.publicMethod y).before args s = true) (hunh : (Cond.unhidden C x.name x.desc).before args s = true)
    (hcast : (Cond.castable C x.cls).before args s = true) (hcode : (Cond.code y bytes maxL ret).before args s = true) (hx : x.cls ≠ "java/lang/invoke/MethodHandle" ∧ x.cls ≠ "java/lang/invoke/VarHandle")
    {W9 : Nat} {Pre : Pt → Array Value → Prop} {Post : Pt → Array Value → Option Value → Pt → Prop} {PostX : Pt → Array Value → Addr → Pt → Prop} (hK : vx_Back l R p e below s args y 5 W9 Pre Post PostX)
    {b : Addr} {cellB : Cell} {kB : Class} (hcell : T.heap[b]? = some cellB) (hobj : cellB.vm.isStatics = false) (hcls : s.vm.findClass C = some cellB.cls) (hkB : s.vm.classes[cellB.cls]? = some kB)
    {g : JFrame} (hg : g.method = m) (hsize : g.locals.size = c.maxLocals) {argsL rest : List Value} (hlen : ∀ sig, parseMethodDescriptor x.desc = some sig → argsL.length = sig.parameters.length)
    (hstack : g.stack = argsL.reverse ++ .ref b :: rest) (hW : 2 * g.monitorRoom + (rest.map fun v => v.category).sum ≤ W9) (hdg : decode c.code g.pc = .ok (.invokeinterface index count, 5))
    (hpre : ∀ vm₁, s.WarmedH vm₁ → Pre ⟨T.setVm vm₁, locs, cells, slots⟩ (Value.ref b :: argsL).toArray) :
    (∃ (v : Option Value) (vm₁ : Vm) (B : Pt), s.WarmedH vm₁ ∧ Stand p l e R s m args below meth c B.U B.locs B.cells B.slots ∧ Post ⟨T.setVm vm₁, locs, cells, slots⟩ (Value.ref b :: argsL).toArray v B ∧
      ∀ target, Steps p.tables e below (B.U.setTop { g with pc := g.pc + 5, stack := v.toList ++ rest }) target → Steps p.tables e below (T.setTop g) target) ∨
    (∃ (q : Addr) (vm₁ : Vm) (B : Pt), s.WarmedH vm₁ ∧ Stand p l e R s m args below meth c B.U B.locs B.cells B.slots ∧ PostX ⟨T.setVm vm₁, locs, cells, slots⟩ (Value.ref b :: argsL).toArray q B ∧
      Steps p.tables e below (T.setTop g) ((B.U.setTop { g with stack := rest }).pushFrame (.throwing q))) := by
  obtain ⟨r0, r, hn, hrm, hstR, hsigR⟩ := Cond.declares_spec hdecl
  obtain ⟨cL, kL, r1, hcL, hkL, hiL, hfoundL, hn1⟩ := Cond.interfaceMethod_spec hface
  cases hn.symm.trans hn1
  have hr0cls : r0.cls = cL := Option.some.inj ((findClass_of_methodNamed hn).symm.trans hcL)
  obtain ⟨hnameR, hdescR⟩ := name_of_methodNamed hn hrm
  obtain ⟨mk, methM, hnamed, hmethM, -, habM⟩ := Cond.instanceMethod_spec hinst
  obtain ⟨c2, r2, m2, q1, q2, q3, q4, -⟩ := Cond.selects_spec hsel
  cases hcls.symm.trans q1
  cases hfoundL.symm.trans q2
  cases hnamed.symm.trans q3
  have hselP : selectMethod e.platform s.vm cellB.cls r0 = .method mk := by rw [Launch.admits_selectMethod X.admits]; exact q4
  have hpubM : hasFlag methM.accessFlags Acc.public_ = true := Cond.publicMethod_spec hnamed hmethM hpub
  have hway : ((cellB.cls :: s.vm.superclasses cellB.cls).any fun k => (declaredIn s.vm r.name r.desc k).any fun (_, z) => z.isPrivate || z.isStatic) = false := by
    rw [hnameR, hdescR]; exact Cond.unhidden_spec hcls hunh
  obtain ⟨c3, t3, w1, w2, w3⟩ := Cond.castable_spec hcast
  cases hcls.symm.trans w1
  cases hcL.symm.trans w2
  obtain ⟨vm₁, X₁, hstep₁⟩ := X.invokeinterface hexec hown hlink hn hrm hstR (by rw [hr0cls]; exact hkL) hiL hx (a := b) (cell := cellB) (kcell := kB) hcell
    (fun z h => by rw [h] at hobj; cases hobj) hkB (by rw [hr0cls]; exact w3) hselP hmethM hway hpubM habM (g := g) hg (argsL := argsL) (rest := rest) (hlen _ hsigR) hstack hdg
  rcases hK m meth c ⟨T.setVm vm₁, locs, cells, slots⟩ { g with stack := rest } (.invokeinterface index count) mk (Value.ref b :: argsL).toArray X₁ hg hsize hdg hW (X₁.named hnamed) (hpre vm₁ X₁.warmed) with ⟨v, B, X', hpost, hsteps⟩ | ⟨q, B, X', hpost, hsteps⟩
  · exact Or.inl ⟨v, vm₁, B, X₁.warmed, X', hpost, fun target h => hstep₁ _ fun acts => by rw [doInvoke_state]; exact hsteps.trans h⟩
  · exact Or.inr ⟨q, vm₁, B, X₁.warmed, X', hpost, hstep₁ _ fun acts => by rw [doInvoke_state]; exact hsteps⟩
theorem vx_runF {x y : MethodName} {bytes cc : ByteArray} {maxL nL mc ms n index count : Nat} {ret : Option FieldType} {ws : List Cond} {rm : Room} {Pc : Array Value → State → Prop} {Qc : Array Value → State → Outcome → State → Prop} {XC : String → State → State → Prop} {free : Addr → Prop} {Ts : List Cond} {own C : String} {cC : ClassId} {b : Addr} {As rest : List Value} {g : JFrame}
    (hat : ClassAt s C cC) (S : CallFix p m c cc nL s args Ts own) (hM : vx_Met l y ws rm Pc Qc XC mc ms free) (cw : va_CI R s args own C index x y bytes maxL ret ws rm mc ms n) (hp : PreV s H C b Pc As)
    (hg : g.method = m) (hn : As.length = n) (hsize : g.locals.size = nL) (hstack : g.stack = As.reverse ++ .ref b :: rest) (hW : 2 * g.monitorRoom + (rest.map fun v => v.category).sum ≤ 8) (hdg : decode cc g.pc = .ok (.invokeinterface index count, 5)) (hf : cells + mc ≤ R.cells ∧ slots + ms ≤ R.slots) :
    vx_Run5 p l e R s m args below meth c H locs cells slots mc ms g rest (Qc (Value.ref b :: As).toArray) XC free := by
  obtain ⟨hrc, hrs, hfr, hlo, hws, hcw⟩ := cw.back
  have hini := cw.init
  have hK : vx_Back l R p e below s args y 5 8 (PreOf R mc ms Pc) (PostOf Qc mc ms free) (vx_Post XC mc ms free) := vx_back (bytes := bytes) (maxL := maxL) (ret := ret) hM hp.1 hrc hrs hfr hlo hws hcw (fun a' U hW => word_at hW (Or.inl (by first | rfl | simp [Cond.onTables, Cond.keeps, Cond.steady])) hini)
  obtain ⟨hx, hb, hml, ho, -⟩ := S
  obtain ⟨-, ⟨cellB, hcB, hoB, hclB⟩, hPc⟩ := hp
  obtain ⟨hfc, kB, hkB, -⟩ := hat
  cases hfc.symm.trans hclB
  intro T hT X
  rcases vx_callIF X hx (C := C) (bytes := bytes) (maxL := maxL) (ret := ret) ho cw.link cw.decl cw.face cw.sel cw.inst cw.pub cw.unh cw.cast cw.code cw.notMH hK (by rw [hT]; exact hcB) hoB hclB hkB hg (hsize.trans hml.symm) (argsL := As) (rest := rest) (fun sig h => hn.trans (cw.len sig h)) hstack hW (by rw [hb]; exact hdg)
    (fun vm₁ hW₁ => ⟨hf.1, hf.2, hPc (T.setVm vm₁) hT hW₁⟩) with ⟨v, vm₁, ⟨U', l2, c2, s2⟩, hW₁, X', ⟨g', mk, t, L, e1, e2, hq, h1, hL, h2, h3⟩, st⟩ | ⟨q, vm₁, ⟨U', l2, c2, s2⟩, hW₁, X', ⟨g', mk, t, L, E, ce, e1, e2, hq, hce, hcv, hcl, h1, hL, h2, h3⟩, st⟩
  · dsimp only [Pt.U, Pt.locs, Pt.cells, Pt.slots] at X' e1 e2 h1 h2 h3 st
    subst h1; subst h2; subst h3
    exact Or.inl ⟨v, (T.setVm vm₁).calling g' mk (Value.ref b :: As).toArray, t, U', L, hT, X', hL, e1, e2, hq, st⟩
  · dsimp only [Pt.U, Pt.locs, Pt.cells, Pt.slots] at X' e1 e2 h1 h2 h3 st hcl
    subst h1; subst h2; subst h3
    exact Or.inr ⟨q, (T.setVm vm₁).calling g' mk (Value.ref b :: As).toArray, t, U', L, E, ce, hT, X', hL, e1, e2, hq, hce, hcv, vx_cls hW₁ hcl, st⟩
theorem vx_callFv {S SX : Type} {post : S → Prop} {px : SX → Prop} {B : S → State → Prop} {BX : String → SX → State → Prop} {AX : Nat → Prop} (hr : vx_Run5 p l e R s m args below meth c H locs cells slots mc ms (F0 m pc ls st0) rest (va_Qv post B A1 a) (vx_X px BX AX) free) (hS : va_S A0 H0 H locs) (hA : ∀ q, q < H.size → A1 q → A0 q) (hf : ∀ q, free q → A0 q) (hAX : ∀ q, q < H.size → AX q → A0 q)
    (kx : ∀ (E : String) (ce : Cell) (q9 : Addr) (u : SX) (t : State) (H1 : Heap) (locs1 : List Loc), t.heap = H1 → s.vm.Alike t.vm → px u → BX E u t → H.size ≤ H1.size → (∀ q : Nat, q < H.size → ¬ AX q → H1[q]? = H[q]?) → va_S A0 H0 H1 locs1 → H1[q9]? = some ce → ce.vm = .none → s.vm.findClass E = some ce.cls → vx_W p l e R s m args below meth c H1 locs1 (cells + mc) (slots + ms) Q (F0 m pc ls rest) q9)
    (kk : ∀ (u : S) (t : State) (H1 : Heap) (locs1 : List Loc), t.heap = H1 → s.vm.Alike t.vm → post u → B u t → H.size ≤ H1.size → (∀ q : Nat, q < H.size → ¬ A1 q → H1[q]? = H[q]?) → va_S A0 H0 H1 locs1 → W p l e R s m args below meth c H1 locs1 (cells + mc) (slots + ms) Q (F0 m (pc + 5) ls (rest))) : W p l e R s m args below meth c H locs cells slots Q (F0 m pc ls st0) := by
  intro T hT X
  rcases hr T hT X with ⟨v, st₀, t, T', L, h0, X', hL, e1, e2, ⟨⟨u, hv, hp, hb⟩, hF⟩, st⟩ | ⟨q, st₀, t, T', L, E, ce, h0, X', hL, e1, e2, ⟨u, hp, hb, hF⟩, hce, hcv, hcl, st⟩
  · cases hv
    obtain ⟨k1, k2, k3⟩ := vx_keep h0 e1 hS hA hf hL hF
    obtain ⟨t2, a1, b1⟩ := kk u t T'.heap (locs ++ L) e1.symm (by rw [← e2]; exact X'.warmed.alike) hp hb k1 k2 k3 T' rfl X'
    exact ⟨t2, st t2 a1, b1⟩
  · obtain ⟨k1, k2, k3⟩ := vx_keep h0 e1 hS hAX hf hL hF
    obtain ⟨t2, a1, b1⟩ := kx E ce q u t T'.heap (locs ++ L) e1.symm (by rw [← e2]; exact X'.warmed.alike) hp hb k1 k2 k3 (by rw [e1]; exact hce) hcv hcl T' rfl X'
    exact ⟨t2, st.trans a1, b1⟩
theorem vx_callFi {S SX : Type} {post : Int32 → S → Prop} {px : SX → Prop} {B : S → State → Prop} {BX : String → SX → State → Prop} {AX : Nat → Prop} (hr : vx_Run5 p l e R s m args below meth c H locs cells slots mc ms (F0 m pc ls st0) rest (va_Qi post B A1 a) (vx_X px BX AX) free) (hS : va_S A0 H0 H locs) (hA : ∀ q, q < H.size → A1 q → A0 q) (hf : ∀ q, free q → A0 q) (hAX : ∀ q, q < H.size → AX q → A0 q)
    (kx : ∀ (E : String) (ce : Cell) (q9 : Addr) (u : SX) (t : State) (H1 : Heap) (locs1 : List Loc), t.heap = H1 → s.vm.Alike t.vm → px u → BX E u t → H.size ≤ H1.size → (∀ q : Nat, q < H.size → ¬ AX q → H1[q]? = H[q]?) → va_S A0 H0 H1 locs1 → H1[q9]? = some ce → ce.vm = .none → s.vm.findClass E = some ce.cls → vx_W p l e R s m args below meth c H1 locs1 (cells + mc) (slots + ms) Q (F0 m pc ls rest) q9)
    (kk : ∀ (r : Int32) (u : S) (t : State) (H1 : Heap) (locs1 : List Loc), t.heap = H1 → s.vm.Alike t.vm → post r u → B u t → H.size ≤ H1.size → (∀ q : Nat, q < H.size → ¬ A1 q → H1[q]? = H[q]?) → va_S A0 H0 H1 locs1 → W p l e R s m args below meth c H1 locs1 (cells + mc) (slots + ms) Q (F0 m (pc + 5) ls (.int r :: rest))) : W p l e R s m args below meth c H locs cells slots Q (F0 m pc ls st0) := by
  intro T hT X
  rcases hr T hT X with ⟨v, st₀, t, T', L, h0, X', hL, e1, e2, ⟨⟨r, u, hv, hp, hb⟩, hF⟩, st⟩ | ⟨q, st₀, t, T', L, E, ce, h0, X', hL, e1, e2, ⟨u, hp, hb, hF⟩, hce, hcv, hcl, st⟩
  · cases hv
    obtain ⟨k1, k2, k3⟩ := vx_keep h0 e1 hS hA hf hL hF
    obtain ⟨t2, a1, b1⟩ := kk r u t T'.heap (locs ++ L) e1.symm (by rw [← e2]; exact X'.warmed.alike) hp hb k1 k2 k3 T' rfl X'
    exact ⟨t2, st t2 a1, b1⟩
  · obtain ⟨k1, k2, k3⟩ := vx_keep h0 e1 hS hAX hf hL hF
    obtain ⟨t2, a1, b1⟩ := kx E ce q u t T'.heap (locs ++ L) e1.symm (by rw [← e2]; exact X'.warmed.alike) hp hb k1 k2 k3 (by rw [e1]; exact hce) hcv hcl T' rfl X'
    exact ⟨t2, st.trans a1, b1⟩
theorem vx_callFl {S SX : Type} {post : Int64 → S → Prop} {px : SX → Prop} {B : S → State → Prop} {BX : String → SX → State → Prop} {AX : Nat → Prop} (hr : vx_Run5 p l e R s m args below meth c H locs cells slots mc ms (F0 m pc ls st0) rest (va_Ql post B A1 a) (vx_X px BX AX) free) (hS : va_S A0 H0 H locs) (hA : ∀ q, q < H.size → A1 q → A0 q) (hf : ∀ q, free q → A0 q) (hAX : ∀ q, q < H.size → AX q → A0 q)
    (kx : ∀ (E : String) (ce : Cell) (q9 : Addr) (u : SX) (t : State) (H1 : Heap) (locs1 : List Loc), t.heap = H1 → s.vm.Alike t.vm → px u → BX E u t → H.size ≤ H1.size → (∀ q : Nat, q < H.size → ¬ AX q → H1[q]? = H[q]?) → va_S A0 H0 H1 locs1 → H1[q9]? = some ce → ce.vm = .none → s.vm.findClass E = some ce.cls → vx_W p l e R s m args below meth c H1 locs1 (cells + mc) (slots + ms) Q (F0 m pc ls rest) q9)
    (kk : ∀ (r : Int64) (u : S) (t : State) (H1 : Heap) (locs1 : List Loc), t.heap = H1 → s.vm.Alike t.vm → post r u → B u t → H.size ≤ H1.size → (∀ q : Nat, q < H.size → ¬ A1 q → H1[q]? = H[q]?) → va_S A0 H0 H1 locs1 → W p l e R s m args below meth c H1 locs1 (cells + mc) (slots + ms) Q (F0 m (pc + 5) ls (.long r :: rest))) : W p l e R s m args below meth c H locs cells slots Q (F0 m pc ls st0) := by
  intro T hT X
  rcases hr T hT X with ⟨v, st₀, t, T', L, h0, X', hL, e1, e2, ⟨⟨r, u, hv, hp, hb⟩, hF⟩, st⟩ | ⟨q, st₀, t, T', L, E, ce, h0, X', hL, e1, e2, ⟨u, hp, hb, hF⟩, hce, hcv, hcl, st⟩
  · cases hv
    obtain ⟨k1, k2, k3⟩ := vx_keep h0 e1 hS hA hf hL hF
    obtain ⟨t2, a1, b1⟩ := kk r u t T'.heap (locs ++ L) e1.symm (by rw [← e2]; exact X'.warmed.alike) hp hb k1 k2 k3 T' rfl X'
    exact ⟨t2, st t2 a1, b1⟩
  · obtain ⟨k1, k2, k3⟩ := vx_keep h0 e1 hS hAX hf hL hF
    obtain ⟨t2, a1, b1⟩ := kx E ce q u t T'.heap (locs ++ L) e1.symm (by rw [← e2]; exact X'.warmed.alike) hp hb k1 k2 k3 (by rw [e1]; exact hce) hcv hcl T' rfl X'
    exact ⟨t2, st.trans a1, b1⟩
theorem vx_callFf {S SX : Type} {post : UInt32 → S → Prop} {px : SX → Prop} {B : S → State → Prop} {BX : String → SX → State → Prop} {AX : Nat → Prop} (hr : vx_Run5 p l e R s m args below meth c H locs cells slots mc ms (F0 m pc ls st0) rest (va_Qf post B A1 a) (vx_X px BX AX) free) (hS : va_S A0 H0 H locs) (hA : ∀ q, q < H.size → A1 q → A0 q) (hf : ∀ q, free q → A0 q) (hAX : ∀ q, q < H.size → AX q → A0 q)
    (kx : ∀ (E : String) (ce : Cell) (q9 : Addr) (u : SX) (t : State) (H1 : Heap) (locs1 : List Loc), t.heap = H1 → s.vm.Alike t.vm → px u → BX E u t → H.size ≤ H1.size → (∀ q : Nat, q < H.size → ¬ AX q → H1[q]? = H[q]?) → va_S A0 H0 H1 locs1 → H1[q9]? = some ce → ce.vm = .none → s.vm.findClass E = some ce.cls → vx_W p l e R s m args below meth c H1 locs1 (cells + mc) (slots + ms) Q (F0 m pc ls rest) q9)
    (kk : ∀ (r : UInt32) (u : S) (t : State) (H1 : Heap) (locs1 : List Loc), t.heap = H1 → s.vm.Alike t.vm → post r u → B u t → H.size ≤ H1.size → (∀ q : Nat, q < H.size → ¬ A1 q → H1[q]? = H[q]?) → va_S A0 H0 H1 locs1 → W p l e R s m args below meth c H1 locs1 (cells + mc) (slots + ms) Q (F0 m (pc + 5) ls (.float r :: rest))) : W p l e R s m args below meth c H locs cells slots Q (F0 m pc ls st0) := by
  intro T hT X
  rcases hr T hT X with ⟨v, st₀, t, T', L, h0, X', hL, e1, e2, ⟨⟨r, u, hv, hp, hb⟩, hF⟩, st⟩ | ⟨q, st₀, t, T', L, E, ce, h0, X', hL, e1, e2, ⟨u, hp, hb, hF⟩, hce, hcv, hcl, st⟩
  · cases hv
    obtain ⟨k1, k2, k3⟩ := vx_keep h0 e1 hS hA hf hL hF
    obtain ⟨t2, a1, b1⟩ := kk r u t T'.heap (locs ++ L) e1.symm (by rw [← e2]; exact X'.warmed.alike) hp hb k1 k2 k3 T' rfl X'
    exact ⟨t2, st t2 a1, b1⟩
  · obtain ⟨k1, k2, k3⟩ := vx_keep h0 e1 hS hAX hf hL hF
    obtain ⟨t2, a1, b1⟩ := kx E ce q u t T'.heap (locs ++ L) e1.symm (by rw [← e2]; exact X'.warmed.alike) hp hb k1 k2 k3 (by rw [e1]; exact hce) hcv hcl T' rfl X'
    exact ⟨t2, st.trans a1, b1⟩
theorem vx_callFd {S SX : Type} {post : UInt64 → S → Prop} {px : SX → Prop} {B : S → State → Prop} {BX : String → SX → State → Prop} {AX : Nat → Prop} (hr : vx_Run5 p l e R s m args below meth c H locs cells slots mc ms (F0 m pc ls st0) rest (va_Qd post B A1 a) (vx_X px BX AX) free) (hS : va_S A0 H0 H locs) (hA : ∀ q, q < H.size → A1 q → A0 q) (hf : ∀ q, free q → A0 q) (hAX : ∀ q, q < H.size → AX q → A0 q)
    (kx : ∀ (E : String) (ce : Cell) (q9 : Addr) (u : SX) (t : State) (H1 : Heap) (locs1 : List Loc), t.heap = H1 → s.vm.Alike t.vm → px u → BX E u t → H.size ≤ H1.size → (∀ q : Nat, q < H.size → ¬ AX q → H1[q]? = H[q]?) → va_S A0 H0 H1 locs1 → H1[q9]? = some ce → ce.vm = .none → s.vm.findClass E = some ce.cls → vx_W p l e R s m args below meth c H1 locs1 (cells + mc) (slots + ms) Q (F0 m pc ls rest) q9)
    (kk : ∀ (r : UInt64) (u : S) (t : State) (H1 : Heap) (locs1 : List Loc), t.heap = H1 → s.vm.Alike t.vm → post r u → B u t → H.size ≤ H1.size → (∀ q : Nat, q < H.size → ¬ A1 q → H1[q]? = H[q]?) → va_S A0 H0 H1 locs1 → W p l e R s m args below meth c H1 locs1 (cells + mc) (slots + ms) Q (F0 m (pc + 5) ls (.double r :: rest))) : W p l e R s m args below meth c H locs cells slots Q (F0 m pc ls st0) := by
  intro T hT X
  rcases hr T hT X with ⟨v, st₀, t, T', L, h0, X', hL, e1, e2, ⟨⟨r, u, hv, hp, hb⟩, hF⟩, st⟩ | ⟨q, st₀, t, T', L, E, ce, h0, X', hL, e1, e2, ⟨u, hp, hb, hF⟩, hce, hcv, hcl, st⟩
  · cases hv
    obtain ⟨k1, k2, k3⟩ := vx_keep h0 e1 hS hA hf hL hF
    obtain ⟨t2, a1, b1⟩ := kk r u t T'.heap (locs ++ L) e1.symm (by rw [← e2]; exact X'.warmed.alike) hp hb k1 k2 k3 T' rfl X'
    exact ⟨t2, st t2 a1, b1⟩
  · obtain ⟨k1, k2, k3⟩ := vx_keep h0 e1 hS hAX hf hL hF
    obtain ⟨t2, a1, b1⟩ := kx E ce q u t T'.heap (locs ++ L) e1.symm (by rw [← e2]; exact X'.warmed.alike) hp hb k1 k2 k3 (by rw [e1]; exact hce) hcv hcl T' rfl X'
    exact ⟨t2, st.trans a1, b1⟩
end
/-! ===== END ===== -/
/-! ===== BEGIN by an interface, a method with a table of its own that may throw (follows va_callIFW, va_runFW) ===== -/
section
variable {p : Program} {l : Launch} {e : Env} {R : Room} {s : State} {m : MethodId} {args : Array Value} {below : List Frame} {meth : Method} {c : Code} {H : Heap} {locs : List Loc} {cells slots : Nat}
theorem vx_callIFW {T : State} (X : Stand p l e R s m args below meth c T locs cells slots) (hexec : p.tables.exec = Jvm.exec) {own C : String} {index count : Nat} {x y : MethodName} {bytes : ByteArray} {maxL : Nat} {ret : Option FieldType} {hh : List (Nat × Nat × Nat × Nat)}
    (hown : s.vm.findClass own = some m.cls) (hlink : (Cond.methodLink own index x).before args s = true) (hdecl : (Cond.declares x).before args s = true) (hface : (Cond.interfaceMethod x.cls x.cls x.name x.desc).before args s = true)
    (hsel : (Cond.selects C x y).before args s = true) (hinst : (Cond.instanceMethod y).before args s = true) (hpub : (Cond.publicMethod y).before args s = true) (hunh : (Cond.unhidden C x.name x.desc).before args s = true)
    (hcast : (Cond.castable C x.cls).before args s = true) (hcode : (Cond.codeWith y bytes maxL ret hh).before args s = true) (hx : x.cls ≠ "java/lang/invoke/MethodHandle" ∧ x.cls ≠ "java/lang/invoke/VarHandle")
    {W : Nat} {Pre : Pt → Array Value → Prop} {Post : Pt → Array Value → Option Value → Pt → Prop} {PostX : Pt → Array Value → Addr → Pt → Prop} (hK : vx_Back l R p e below s args y 5 W Pre Post PostX)
    {b : Addr} {cellB : Cell} {kB : Class} (hcell : T.heap[b]? = some cellB) (hobj : cellB.vm.isStatics = false) (hcls : s.vm.findClass C = some cellB.cls) (hkB : s.vm.classes[cellB.cls]? = some kB)
    {g : JFrame} (hg : g.method = m) (hsize : g.locals.size = c.maxLocals) {argsL rest : List Value} (hlen : ∀ sig, parseMethodDescriptor x.desc = some sig → argsL.length = sig.parameters.length)
    (hstack : g.stack = argsL.reverse ++ .ref b :: rest) (hW : 2 * g.monitorRoom + (rest.map fun v => v.category).sum ≤ W) (hdg : decode c.code g.pc = .ok (.invokeinterface index count, 5))
    (hpre : ∀ vm₁, s.WarmedH vm₁ → Pre ⟨T.setVm vm₁, locs, cells, slots⟩ (Value.ref b :: argsL).toArray) :
    (∃ (v : Option Value) (vm₁ : Vm) (B : Pt), s.WarmedH vm₁ ∧ Stand p l e R s m args below meth c B.U B.locs B.cells B.slots ∧ Post ⟨T.setVm vm₁, locs, cells, slots⟩ (Value.ref b :: argsL).toArray v B ∧
      ∀ target, Steps p.tables e below (B.U.setTop { g with pc := g.pc + 5, stack := v.toList ++ rest }) target → Steps p.tables e below (T.setTop g) target) ∨
    (∃ (q : Addr) (vm₁ : Vm) (B : Pt), s.WarmedH vm₁ ∧ Stand p l e R s m args below meth c B.U B.locs B.cells B.slots ∧ PostX ⟨T.setVm vm₁, locs, cells, slots⟩ (Value.ref b :: argsL).toArray q B ∧
      Steps p.tables e below (T.setTop g) ((B.U.setTop { g with stack := rest }).pushFrame (.throwing q))) := by
  obtain ⟨r0, r, hn, hrm, hstR, hsigR⟩ := Cond.declares_spec hdecl
  obtain ⟨cL, kL, r1, hcL, hkL, hiL, hfoundL, hn1⟩ := Cond.interfaceMethod_spec hface
  cases hn.symm.trans hn1
  have hr0cls : r0.cls = cL := Option.some.inj ((findClass_of_methodNamed hn).symm.trans hcL)
  obtain ⟨hnameR, hdescR⟩ := name_of_methodNamed hn hrm
  obtain ⟨mk, methM, hnamed, hmethM, -, habM⟩ := Cond.instanceMethod_spec hinst
  obtain ⟨c2, r2, m2, q1, q2, q3, q4, -⟩ := Cond.selects_spec hsel
  cases hcls.symm.trans q1
  cases hfoundL.symm.trans q2
  cases hnamed.symm.trans q3
  have hselP : selectMethod e.platform s.vm cellB.cls r0 = .method mk := by rw [Launch.admits_selectMethod X.admits]; exact q4
  have hpubM : hasFlag methM.accessFlags Acc.public_ = true := Cond.publicMethod_spec hnamed hmethM hpub
  have hway : ((cellB.cls :: s.vm.superclasses cellB.cls).any fun k => (declaredIn s.vm r.name r.desc k).any fun (_, z) => z.isPrivate || z.isStatic) = false := by
    rw [hnameR, hdescR]; exact Cond.unhidden_spec hcls hunh
  obtain ⟨c3, t3, w1, w2, w3⟩ := Cond.castable_spec hcast
  cases hcls.symm.trans w1
  cases hcL.symm.trans w2
  obtain ⟨vm₁, X₁, hstep₁⟩ := X.invokeinterface hexec hown hlink hn hrm hstR (by rw [hr0cls]; exact hkL) hiL hx (a := b) (cell := cellB) (kcell := kB) hcell
    (fun z h => by rw [h] at hobj; cases hobj) hkB (by rw [hr0cls]; exact w3) hselP hmethM hway hpubM habM (g := g) hg (argsL := argsL) (rest := rest) (hlen _ hsigR) hstack hdg
  rcases hK m meth c ⟨T.setVm vm₁, locs, cells, slots⟩ { g with stack := rest } (.invokeinterface index count) mk (Value.ref b :: argsL).toArray X₁ hg hsize hdg hW (X₁.named hnamed) (hpre vm₁ X₁.warmed) with ⟨v, B, X', hpost, hsteps⟩ | ⟨q, B, X', hpost, hsteps⟩
  · exact Or.inl ⟨v, vm₁, B, X₁.warmed, X', hpost, fun target h => hstep₁ _ fun acts => by rw [doInvoke_state]; exact hsteps.trans h⟩
  · exact Or.inr ⟨q, vm₁, B, X₁.warmed, X', hpost, hstep₁ _ fun acts => by rw [doInvoke_state]; exact hsteps⟩
theorem vx_runFW {x y : MethodName} {bytes cc : ByteArray} {maxL nL mc ms n index count : Nat} {ret : Option FieldType} {hh : List (Nat × Nat × Nat × Nat)} {ws : List Cond} {rm : Room} {Pc : Array Value → State → Prop} {Qc : Array Value → State → Outcome → State → Prop} {XC : String → State → State → Prop} {free : Addr → Prop} {Ts : List Cond} {own C : String} {cC : ClassId} {b : Addr} {As rest : List Value} {g : JFrame}
    (hat : ClassAt s C cC) (S : CallFix p m c cc nL s args Ts own) (hM : vx_Met l y ws rm Pc Qc XC mc ms free) (cw : va_CIW R s args own C index x y bytes maxL ret hh ws rm mc ms n) (hp : PreV s H C b Pc As)
    (hg : g.method = m) (hn : As.length = n) (hsize : g.locals.size = nL) (hstack : g.stack = As.reverse ++ .ref b :: rest) (hW : 2 * g.monitorRoom + (rest.map fun v => v.category).sum ≤ 8) (hdg : decode cc g.pc = .ok (.invokeinterface index count, 5)) (hf : cells + mc ≤ R.cells ∧ slots + ms ≤ R.slots) :
    vx_Run5 p l e R s m args below meth c H locs cells slots mc ms g rest (Qc (Value.ref b :: As).toArray) XC free := by
  obtain ⟨hrc, hrs, hfr, hlo, hws, hcw⟩ := cw.back
  have hini := cw.init
  have hK : vx_Back l R p e below s args y 5 8 (PreOf R mc ms Pc) (PostOf Qc mc ms free) (vx_Post XC mc ms free) := vx_backW (hh := hh) (bytes := bytes) (maxL := maxL) (ret := ret) hM hp.1 hrc hrs hfr hlo hws hcw (fun a' U hW => word_at hW (Or.inl (by first | rfl | simp [Cond.onTables, Cond.keeps, Cond.steady])) hini)
  obtain ⟨hx, hb, hml, ho, -⟩ := S
  obtain ⟨-, ⟨cellB, hcB, hoB, hclB⟩, hPc⟩ := hp
  obtain ⟨hfc, kB, hkB, -⟩ := hat
  cases hfc.symm.trans hclB
  intro T hT X
  rcases vx_callIFW X hx (C := C) (hh := hh) (bytes := bytes) (maxL := maxL) (ret := ret) ho cw.link cw.decl cw.face cw.sel cw.inst cw.pub cw.unh cw.cast cw.code cw.notMH hK (by rw [hT]; exact hcB) hoB hclB hkB hg (hsize.trans hml.symm) (argsL := As) (rest := rest) (fun sig h => hn.trans (cw.len sig h)) hstack hW (by rw [hb]; exact hdg)
    (fun vm₁ hW₁ => ⟨hf.1, hf.2, hPc (T.setVm vm₁) hT hW₁⟩) with ⟨v, vm₁, ⟨U', l2, c2, s2⟩, hW₁, X', ⟨g', mk, t, L, e1, e2, hq, h1, hL, h2, h3⟩, st⟩ | ⟨q, vm₁, ⟨U', l2, c2, s2⟩, hW₁, X', ⟨g', mk, t, L, E, ce, e1, e2, hq, hce, hcv, hcl, h1, hL, h2, h3⟩, st⟩
  · dsimp only [Pt.U, Pt.locs, Pt.cells, Pt.slots] at X' e1 e2 h1 h2 h3 st
    subst h1; subst h2; subst h3
    exact Or.inl ⟨v, (T.setVm vm₁).calling g' mk (Value.ref b :: As).toArray, t, U', L, hT, X', hL, e1, e2, hq, st⟩
  · dsimp only [Pt.U, Pt.locs, Pt.cells, Pt.slots] at X' e1 e2 h1 h2 h3 st hcl
    subst h1; subst h2; subst h3
    exact Or.inr ⟨q, (T.setVm vm₁).calling g' mk (Value.ref b :: As).toArray, t, U', L, E, ce, hT, X', hL, e1, e2, hq, hce, hcv, vx_cls hW₁ hcl, st⟩
end
/-! ===== END ===== -/
/-! ===== BEGIN .. of methods that hand back an object of the pool ===== -/
section
variable {p : Program} {l : Launch} {e : Env} {R : Room} {s : State} {m : MethodId} {args : Array Value} {below : List Frame} {meth : Method} {c : Code} {H : Heap} {locs : List Loc} {cells slots : Nat} {Q : State → Prop}
variable {mc ms : Nat} {free : Addr → Prop} {A0 A1 : Nat → Prop} {H0 : Heap} {a : Array Value} {pc : Nat} {ls : Array Slot} {st0 rest : List Value}
theorem vx_callq {S SX : Type} {post : Option Nat → S → Prop} {px : SX → Prop} {B : S → State → Prop} {BX : String → SX → State → Prop} {AX : Nat → Prop} (hr : vx_Run p l e R s m args below meth c H locs cells slots mc ms (F0 m pc ls st0) rest (va_Qq post B A1 a) (vx_X px BX AX) free) (hS : va_S A0 H0 H locs) (hA : ∀ q, q < H.size → A1 q → A0 q) (hf : ∀ q, free q → A0 q) (hAX : ∀ q, q < H.size → AX q → A0 q)
    (kx : ∀ (E : String) (ce : Cell) (q9 : Addr) (u : SX) (t : State) (H1 : Heap) (locs1 : List Loc), t.heap = H1 → s.vm.Alike t.vm → px u → BX E u t → H.size ≤ H1.size → (∀ q : Nat, q < H.size → ¬ AX q → H1[q]? = H[q]?) → va_S A0 H0 H1 locs1 → H1[q9]? = some ce → ce.vm = .none → s.vm.findClass E = some ce.cls → vx_W p l e R s m args below meth c H1 locs1 (cells + mc) (slots + ms) Q (F0 m pc ls rest) q9)
    (kk : ∀ (r : Option Nat) (u : S) (t : State) (H1 : Heap) (locs1 : List Loc), t.heap = H1 → s.vm.Alike t.vm → post r u → B u t → H.size ≤ H1.size → (∀ q : Nat, q < H.size → ¬ A1 q → H1[q]? = H[q]?) → va_S A0 H0 H1 locs1 → W p l e R s m args below meth c H1 locs1 (cells + mc) (slots + ms) Q (F0 m (pc + 3) ls (va_rf r :: rest))) : W p l e R s m args below meth c H locs cells slots Q (F0 m pc ls st0) := by
  intro T hT X
  rcases hr T hT X with ⟨v, st₀, t, T', L, h0, X', hL, e1, e2, ⟨⟨r, u, hv, hp, hb⟩, hF⟩, st⟩ | ⟨q, st₀, t, T', L, E, ce, h0, X', hL, e1, e2, ⟨u, hp, hb, hF⟩, hce, hcv, hcl, st⟩
  · cases hv
    obtain ⟨k1, k2, k3⟩ := vx_keep h0 e1 hS hA hf hL hF
    obtain ⟨t2, a1, b1⟩ := kk r u t T'.heap (locs ++ L) e1.symm (by rw [← e2]; exact X'.warmed.alike) hp hb k1 k2 k3 T' rfl X'
    exact ⟨t2, st t2 a1, b1⟩
  · obtain ⟨k1, k2, k3⟩ := vx_keep h0 e1 hS hAX hf hL hF
    obtain ⟨t2, a1, b1⟩ := kx E ce q u t T'.heap (locs ++ L) e1.symm (by rw [← e2]; exact X'.warmed.alike) hp hb k1 k2 k3 (by rw [e1]; exact hce) hcv hcl T' rfl X'
    exact ⟨t2, st.trans a1, b1⟩
end
/-! ===== END ===== -/
/-! ===== BEGIN .. a constant ===== -/
section
variable {p : Program} {l : Launch} {e : Env} {R : Room} {s : State} {m : MethodId} {args : Array Value} {below : List Frame} {meth : Method} {c : Code} {H : Heap} {locs : List Loc} {cells slots : Nat} {Q : State → Prop}
variable {mc ms : Nat} {free : Addr → Prop} {A0 A1 : Nat → Prop} {H0 : Heap} {a : Array Value} {pc : Nat} {ls : Array Slot} {st0 rest : List Value}
theorem vx_calle {ad : Nat → Nat} {S SX : Type} {post : Option Nat → S → Prop} {px : SX → Prop} {B : S → State → Prop} {BX : String → SX → State → Prop} {AX : Nat → Prop} (hr : vx_Run p l e R s m args below meth c H locs cells slots mc ms (F0 m pc ls st0) rest (va_Qe ad post B A1 a) (vx_X px BX AX) free) (hS : va_S A0 H0 H locs) (hA : ∀ q, q < H.size → A1 q → A0 q) (hf : ∀ q, free q → A0 q) (hAX : ∀ q, q < H.size → AX q → A0 q)
    (kx : ∀ (E : String) (ce : Cell) (q9 : Addr) (u : SX) (t : State) (H1 : Heap) (locs1 : List Loc), t.heap = H1 → s.vm.Alike t.vm → px u → BX E u t → H.size ≤ H1.size → (∀ q : Nat, q < H.size → ¬ AX q → H1[q]? = H[q]?) → va_S A0 H0 H1 locs1 → H1[q9]? = some ce → ce.vm = .none → s.vm.findClass E = some ce.cls → vx_W p l e R s m args below meth c H1 locs1 (cells + mc) (slots + ms) Q (F0 m pc ls rest) q9)
    (kk : ∀ (r : Option Nat) (u : S) (t : State) (H1 : Heap) (locs1 : List Loc), t.heap = H1 → s.vm.Alike t.vm → post r u → B u t → H.size ≤ H1.size → (∀ q : Nat, q < H.size → ¬ A1 q → H1[q]? = H[q]?) → va_S A0 H0 H1 locs1 → W p l e R s m args below meth c H1 locs1 (cells + mc) (slots + ms) Q (F0 m (pc + 3) ls (va_re ad r :: rest))) : W p l e R s m args below meth c H locs cells slots Q (F0 m pc ls st0) := by
  intro T hT X
  rcases hr T hT X with ⟨v, st₀, t, T', L, h0, X', hL, e1, e2, ⟨⟨r, u, hv, hp, hb⟩, hF⟩, st⟩ | ⟨q, st₀, t, T', L, E, ce, h0, X', hL, e1, e2, ⟨u, hp, hb, hF⟩, hce, hcv, hcl, st⟩
  · cases hv
    obtain ⟨k1, k2, k3⟩ := vx_keep h0 e1 hS hA hf hL hF
    obtain ⟨t2, a1, b1⟩ := kk r u t T'.heap (locs ++ L) e1.symm (by rw [← e2]; exact X'.warmed.alike) hp hb k1 k2 k3 T' rfl X'
    exact ⟨t2, st t2 a1, b1⟩
  · obtain ⟨k1, k2, k3⟩ := vx_keep h0 e1 hS hAX hf hL hF
    obtain ⟨t2, a1, b1⟩ := kx E ce q u t T'.heap (locs ++ L) e1.symm (by rw [← e2]; exact X'.warmed.alike) hp hb k1 k2 k3 (by rw [e1]; exact hce) hcv hcl T' rfl X'
    exact ⟨t2, st.trans a1, b1⟩
end
/-! ===== END ===== -/
/-! ===== BEGIN .. by an interface, an object ===== -/
section
variable {p : Program} {l : Launch} {e : Env} {R : Room} {s : State} {m : MethodId} {args : Array Value} {below : List Frame} {meth : Method} {c : Code} {H : Heap} {locs : List Loc} {cells slots : Nat} {Q : State → Prop}
variable {mc ms : Nat} {free : Addr → Prop} {A0 A1 : Nat → Prop} {H0 : Heap} {a : Array Value} {pc : Nat} {ls : Array Slot} {st0 rest : List Value}
theorem vx_callFq {S SX : Type} {post : Option Nat → S → Prop} {px : SX → Prop} {B : S → State → Prop} {BX : String → SX → State → Prop} {AX : Nat → Prop} (hr : vx_Run5 p l e R s m args below meth c H locs cells slots mc ms (F0 m pc ls st0) rest (va_Qq post B A1 a) (vx_X px BX AX) free) (hS : va_S A0 H0 H locs) (hA : ∀ q, q < H.size → A1 q → A0 q) (hf : ∀ q, free q → A0 q) (hAX : ∀ q, q < H.size → AX q → A0 q)
    (kx : ∀ (E : String) (ce : Cell) (q9 : Addr) (u : SX) (t : State) (H1 : Heap) (locs1 : List Loc), t.heap = H1 → s.vm.Alike t.vm → px u → BX E u t → H.size ≤ H1.size → (∀ q : Nat, q < H.size → ¬ AX q → H1[q]? = H[q]?) → va_S A0 H0 H1 locs1 → H1[q9]? = some ce → ce.vm = .none → s.vm.findClass E = some ce.cls → vx_W p l e R s m args below meth c H1 locs1 (cells + mc) (slots + ms) Q (F0 m pc ls rest) q9)
    (kk : ∀ (r : Option Nat) (u : S) (t : State) (H1 : Heap) (locs1 : List Loc), t.heap = H1 → s.vm.Alike t.vm → post r u → B u t → H.size ≤ H1.size → (∀ q : Nat, q < H.size → ¬ A1 q → H1[q]? = H[q]?) → va_S A0 H0 H1 locs1 → W p l e R s m args below meth c H1 locs1 (cells + mc) (slots + ms) Q (F0 m (pc + 5) ls (va_rf r :: rest))) : W p l e R s m args below meth c H locs cells slots Q (F0 m pc ls st0) := by
  intro T hT X
  rcases hr T hT X with ⟨v, st₀, t, T', L, h0, X', hL, e1, e2, ⟨⟨r, u, hv, hp, hb⟩, hF⟩, st⟩ | ⟨q, st₀, t, T', L, E, ce, h0, X', hL, e1, e2, ⟨u, hp, hb, hF⟩, hce, hcv, hcl, st⟩
  · cases hv
    obtain ⟨k1, k2, k3⟩ := vx_keep h0 e1 hS hA hf hL hF
    obtain ⟨t2, a1, b1⟩ := kk r u t T'.heap (locs ++ L) e1.symm (by rw [← e2]; exact X'.warmed.alike) hp hb k1 k2 k3 T' rfl X'
    exact ⟨t2, st t2 a1, b1⟩
  · obtain ⟨k1, k2, k3⟩ := vx_keep h0 e1 hS hAX hf hL hF
    obtain ⟨t2, a1, b1⟩ := kx E ce q u t T'.heap (locs ++ L) e1.symm (by rw [← e2]; exact X'.warmed.alike) hp hb k1 k2 k3 (by rw [e1]; exact hce) hcv hcl T' rfl X'
    exact ⟨t2, st.trans a1, b1⟩
end
/-! ===== END ===== -/
/-! ===== BEGIN .. by an interface, a constant ===== -/
section
variable {p : Program} {l : Launch} {e : Env} {R : Room} {s : State} {m : MethodId} {args : Array Value} {below : List Frame} {meth : Method} {c : Code} {H : Heap} {locs : List Loc} {cells slots : Nat} {Q : State → Prop}
variable {mc ms : Nat} {free : Addr → Prop} {A0 A1 : Nat → Prop} {H0 : Heap} {a : Array Value} {pc : Nat} {ls : Array Slot} {st0 rest : List Value}
theorem vx_callFe {ad : Nat → Nat} {S SX : Type} {post : Option Nat → S → Prop} {px : SX → Prop} {B : S → State → Prop} {BX : String → SX → State → Prop} {AX : Nat → Prop} (hr : vx_Run5 p l e R s m args below meth c H locs cells slots mc ms (F0 m pc ls st0) rest (va_Qe ad post B A1 a) (vx_X px BX AX) free) (hS : va_S A0 H0 H locs) (hA : ∀ q, q < H.size → A1 q → A0 q) (hf : ∀ q, free q → A0 q) (hAX : ∀ q, q < H.size → AX q → A0 q)
    (kx : ∀ (E : String) (ce : Cell) (q9 : Addr) (u : SX) (t : State) (H1 : Heap) (locs1 : List Loc), t.heap = H1 → s.vm.Alike t.vm → px u → BX E u t → H.size ≤ H1.size → (∀ q : Nat, q < H.size → ¬ AX q → H1[q]? = H[q]?) → va_S A0 H0 H1 locs1 → H1[q9]? = some ce → ce.vm = .none → s.vm.findClass E = some ce.cls → vx_W p l e R s m args below meth c H1 locs1 (cells + mc) (slots + ms) Q (F0 m pc ls rest) q9)
    (kk : ∀ (r : Option Nat) (u : S) (t : State) (H1 : Heap) (locs1 : List Loc), t.heap = H1 → s.vm.Alike t.vm → post r u → B u t → H.size ≤ H1.size → (∀ q : Nat, q < H.size → ¬ A1 q → H1[q]? = H[q]?) → va_S A0 H0 H1 locs1 → W p l e R s m args below meth c H1 locs1 (cells + mc) (slots + ms) Q (F0 m (pc + 5) ls (va_re ad r :: rest))) : W p l e R s m args below meth c H locs cells slots Q (F0 m pc ls st0) := by
  intro T hT X
  rcases hr T hT X with ⟨v, st₀, t, T', L, h0, X', hL, e1, e2, ⟨⟨r, u, hv, hp, hb⟩, hF⟩, st⟩ | ⟨q, st₀, t, T', L, E, ce, h0, X', hL, e1, e2, ⟨u, hp, hb, hF⟩, hce, hcv, hcl, st⟩
  · cases hv
    obtain ⟨k1, k2, k3⟩ := vx_keep h0 e1 hS hA hf hL hF
    obtain ⟨t2, a1, b1⟩ := kk r u t T'.heap (locs ++ L) e1.symm (by rw [← e2]; exact X'.warmed.alike) hp hb k1 k2 k3 T' rfl X'
    exact ⟨t2, st t2 a1, b1⟩
  · obtain ⟨k1, k2, k3⟩ := vx_keep h0 e1 hS hAX hf hL hF
    obtain ⟨t2, a1, b1⟩ := kx E ce q u t T'.heap (locs ++ L) e1.symm (by rw [← e2]; exact X'.warmed.alike) hp hb k1 k2 k3 (by rw [e1]; exact hce) hcv hcl T' rfl X'
    exact ⟨t2, st.trans a1, b1⟩
end
/-! ===== END ===== -/
/-! ===== BEGIN what the machine throws by itself: null at a field, at athrow ===== -/
section VXM2
variable {p : Program} {l : Launch} {e : Env} {R : Room} {s : State} {m : MethodId} {args : Array Value} {below : List Frame} {meth : Method} {c : Code} {H : Heap} {locs : List Loc} {cells slots : Nat}
variable {Q : State → Prop} {cc : ByteArray} {pc : Nat} {ls : Array Slot} {rest : List Value}
theorem vx_getfN {D cl tys} {own ref C : String} {T : u_T} {N ci index : Nat} {Ts : List Cond} (hexec : p.tables.exec = Jvm.exec) (hb : c.code = cc) (hts : ∀ w ∈ Ts, w.before args s = true) (hin : ∀ w ∈ u_ws C T N, w ∈ Ts) (hown : s.vm.findClass own = some m.cls) (hK : va_K D cl tys s) (hc : cl[ci]? = some (C, T, N)) (k : Nat) (hk : k < N) (hlink : (Cond.fieldLink own index ref (T k).2.1 (T k).2.2.1).before args s = true) (hsame : ∀ x, s.fieldFound? (T k).1 (T k).2.1 (T k).2.2.1 = some x → s.fieldFound? ref (T k).2.1 (T k).2.2.1 = some x) (hdg : decode cc pc = .ok (.getfield index, 3)) (kk : vx_NoteN p l e R s m args below meth c H locs cells slots Q (F0 m pc ls rest)) : W p l e R s m args below meth c H locs cells slots Q (F0 m pc ls (.null :: rest)) := by
  obtain ⟨hS, hfc, kC, hkC, -⟩ := hK.1 ci _ hc
  obtain ⟨cf, kf, fi, f, hi, -⟩ := hS k hk
  intro U hU X
  obtain ⟨vm', X1, st1⟩ := X.getfieldNull hexec hown hlink (hsame _ hi) (u_facts hfc hkC (u_lays hts hin hk) hi).1 (g := F0 m pc ls (.null :: rest)) rfl (rest := rest) rfl (by rw [hb]; exact hdg)
  obtain ⟨t, st, q⟩ := kk (U.setVm vm') hU X1
  exact ⟨t, st1 t st, q⟩
theorem vx_getfNN {D cl tys} {own ref C host : String} {T : u_T} {N ci index : Nat} {Ts : List Cond} (hexec : p.tables.exec = Jvm.exec) (hb : c.code = cc) (hts : ∀ w ∈ Ts, w.before args s = true) (hin : ∀ w ∈ u_ws C T N, w ∈ Ts) (hown : s.vm.findClass own = some m.cls) (hK : va_K D cl tys s) (hc : cl[ci]? = some (C, T, N)) (k : Nat) (hk : k < N) (hlink : (Cond.fieldLinkNest own index ref (T k).2.1 (T k).2.2.1 host).before args s = true) (hsame : ∀ x, s.fieldFound? (T k).1 (T k).2.1 (T k).2.2.1 = some x → s.fieldFound? ref (T k).2.1 (T k).2.2.1 = some x) (hdg : decode cc pc = .ok (.getfield index, 3)) (kk : vx_NoteN p l e R s m args below meth c H locs cells slots Q (F0 m pc ls rest)) : W p l e R s m args below meth c H locs cells slots Q (F0 m pc ls (.null :: rest)) := by
  obtain ⟨hS, hfc, kC, hkC, -⟩ := hK.1 ci _ hc
  obtain ⟨cf, kf, fi, f, hi, -⟩ := hS k hk
  intro U hU X
  obtain ⟨vm', X1, st1⟩ := X.getfieldNullNest hexec hown hlink (hsame _ hi) (u_facts hfc hkC (u_lays hts hin hk) hi).1 (g := F0 m pc ls (.null :: rest)) rfl (rest := rest) rfl (by rw [hb]; exact hdg)
  obtain ⟨t, st, q⟩ := kk (U.setVm vm') hU X1
  exact ⟨t, st1 t st, q⟩
theorem vx_putfN {D cl tys} {own ref C : String} {T : u_T} {N ci index : Nat} {Ts : List Cond} (hexec : p.tables.exec = Jvm.exec) (hb : c.code = cc) (hts : ∀ w ∈ Ts, w.before args s = true) (hin : ∀ w ∈ u_ws C T N, w ∈ Ts) (hown : s.vm.findClass own = some m.cls) (hK : va_K D cl tys s) (hc : cl[ci]? = some (C, T, N)) (k : Nat) (hk : k < N) (hlink : (Cond.fieldLink own index ref (T k).2.1 (T k).2.2.1).before args s = true) (hsame : ∀ x, s.fieldFound? (T k).1 (T k).2.1 (T k).2.2.1 = some x → s.fieldFound? ref (T k).2.1 (T k).2.2.1 = some x) (hfin : (T k).2.2.2 = false) {v : Value} (hdg : decode cc pc = .ok (.putfield index, 3)) (kk : vx_NoteN p l e R s m args below meth c H locs cells slots Q (F0 m pc ls rest)) : W p l e R s m args below meth c H locs cells slots Q (F0 m pc ls (v :: .null :: rest)) := by
  obtain ⟨hS, hfc, kC, hkC, -⟩ := hK.1 ci _ hc
  obtain ⟨cf, kf, fi, f, hi, -⟩ := hS k hk
  have hlay := hts _ (hin _ (u_in_lay hk))
  unfold u_lay at hlay
  rw [if_neg (by rw [hfin]; decide)] at hlay
  obtain ⟨c9, k9, cf9, kf9, fi9, f9, -, -, hi9, hst9, hnf9, -⟩ := Cond.lays_spec hlay
  cases hi.symm.trans hi9
  intro U hU X
  obtain ⟨vm', X1, st1⟩ := X.putfieldNull hexec hown hlink (hsame _ hi) hst9 hnf9 (g := F0 m pc ls (v :: .null :: rest)) rfl (v := v) (rest := rest) rfl (by rw [hb]; exact hdg)
  obtain ⟨t, st, q⟩ := kk (U.setVm vm') hU X1
  exact ⟨t, st1 t st, q⟩
theorem vx_putfNN {D cl tys} {own ref C host : String} {T : u_T} {N ci index : Nat} {Ts : List Cond} (hexec : p.tables.exec = Jvm.exec) (hb : c.code = cc) (hts : ∀ w ∈ Ts, w.before args s = true) (hin : ∀ w ∈ u_ws C T N, w ∈ Ts) (hown : s.vm.findClass own = some m.cls) (hK : va_K D cl tys s) (hc : cl[ci]? = some (C, T, N)) (k : Nat) (hk : k < N) (hlink : (Cond.fieldLinkNest own index ref (T k).2.1 (T k).2.2.1 host).before args s = true) (hsame : ∀ x, s.fieldFound? (T k).1 (T k).2.1 (T k).2.2.1 = some x → s.fieldFound? ref (T k).2.1 (T k).2.2.1 = some x) (hfin : (T k).2.2.2 = false) {v : Value} (hdg : decode cc pc = .ok (.putfield index, 3)) (kk : vx_NoteN p l e R s m args below meth c H locs cells slots Q (F0 m pc ls rest)) : W p l e R s m args below meth c H locs cells slots Q (F0 m pc ls (v :: .null :: rest)) := by
  obtain ⟨hS, hfc, kC, hkC, -⟩ := hK.1 ci _ hc
  obtain ⟨cf, kf, fi, f, hi, -⟩ := hS k hk
  have hlay := hts _ (hin _ (u_in_lay hk))
  unfold u_lay at hlay
  rw [if_neg (by rw [hfin]; decide)] at hlay
  obtain ⟨c9, k9, cf9, kf9, fi9, f9, -, -, hi9, hst9, hnf9, -⟩ := Cond.lays_spec hlay
  cases hi.symm.trans hi9
  intro U hU X
  obtain ⟨vm', X1, st1⟩ := X.putfieldNullNest hexec hown hlink (hsame _ hi) hst9 hnf9 (g := F0 m pc ls (v :: .null :: rest)) rfl (v := v) (rest := rest) rfl (by rw [hb]; exact hdg)
  obtain ⟨t, st, q⟩ := kk (U.setVm vm') hU X1
  exact ⟨t, st1 t st, q⟩
theorem vx_athrowN (hexec : p.tables.exec = Jvm.exec) (hb : c.code = cc) (hdg : decode cc pc = .ok (.athrow, 1)) (k : vx_NoteN p l e R s m args below meth c H locs cells slots Q (F0 m pc ls rest)) : W p l e R s m args below meth c H locs cells slots Q (F0 m pc ls (.null :: rest)) := by
  intro T hT X
  obtain ⟨t, st, q⟩ := k T hT X
  exact ⟨t, X.athrowNull hexec (g := F0 m pc ls (.null :: rest)) rfl (rest := rest) rfl (by rw [hb]; exact hdg) t st, q⟩
end VXM2
/-! ===== END ===== -/
end
section
/-! the classes, the methods, their instructions: laid by wip/gen/tables.py out of the printed names -/
def rc_D : String := "Modrings$Digits"
def rc_A : String := "Modrings$Laws"
def rc_R : String := "Modrings$Residues"
def rc_W : String := "Modrings$Whole"
def rc_X : String := "Modrings"
def rc_M : String := "ModringsModel"
def rc_O : String := "ModringsLaw$Out"
def rc_K : String := "ModringsLaw"
def rc_SB : String := "java/lang/StringBuilde\x72"
def rc_ASB : String := "java/lang/AbstractStringBuilde\x72"
def rc_STR : String := "java/lang/String"
def rc_INT : String := "java/lang/Intege\x72"
def rc_LNG : String := "java/lang/Long"
def rc_MA : String := "java/lang/Math"
def rc_ARR : String := "java/util/Arrays"
def rc_AS : String := "jdk/internal/util/ArraysSupport"
def rc_L1 : String := "java/lang/StringLatin1"
def tT0 : u_T := fun k => match k with
  | 0 => ("java/lang/String", "value", "[B", true)
  | 1 => ("java/lang/String", "code\x72", "B", true)
  | 2 => ("java/lang/String", "hash", "I", false)
  | _ => ("java/lang/String", "hashIsZero", "Z", false)
def yT0 : Nat → FieldType := fun k => match k with
  | 0 => (.array .byte)
  | 1 => .byte
  | 2 => .int
  | _ => .boolean
theorem nT0 : ∀ a, a < 4 → ∀ b, b < 4 → a ≠ b → (tT0 a).2.1 ≠ (tT0 b).2.1 := by decide +kernel
theorem oT0 : ∀ k, k < 4 → parseFieldDescriptor (tT0 k).2.2.1 = some (yT0 k) := by decide +kernel
def tT1 : u_T := fun k => match k with
  | 0 => ("java/lang/AbstractStringBuilde\x72", "value", "[B", false)
  | 1 => ("java/lang/AbstractStringBuilde\x72", "code\x72", "B", false)
  | 2 => ("java/lang/AbstractStringBuilde\x72", "maybeLatin1", "Z", false)
  | _ => ("java/lang/AbstractStringBuilde\x72", "count", "I", false)
def yT1 : Nat → FieldType := fun k => match k with
  | 0 => (.array .byte)
  | 1 => .byte
  | 2 => .boolean
  | _ => .int
theorem nT1 : ∀ a, a < 4 → ∀ b, b < 4 → a ≠ b → (tT1 a).2.1 ≠ (tT1 b).2.1 := by decide +kernel
theorem oT1 : ∀ k, k < 4 → parseFieldDescriptor (tT1 k).2.2.1 = some (yT1 k) := by decide +kernel
def tT2 : u_T := fun k => match k with
  | 0 => ("Modrings", "ints", "[J", true)
  | 1 => ("Modrings", "longs", "[J", true)
  | 2 => ("Modrings", "moduli", "[I", true)
  | 3 => ("Modrings", "residues", "[I", true)
  | 4 => ("Modrings", "refusals", "I", false)
  | _ => ("Modrings", "knocks", "I", false)
def yT2 : Nat → FieldType := fun k => match k with
  | 0 => (.array .long)
  | 1 => (.array .long)
  | 2 => (.array .int)
  | 3 => (.array .int)
  | 4 => .int
  | _ => .int
theorem nT2 : ∀ a, a < 6 → ∀ b, b < 6 → a ≠ b → (tT2 a).2.1 ≠ (tT2 b).2.1 := by decide +kernel
theorem oT2 : ∀ k, k < 6 → parseFieldDescriptor (tT2 k).2.2.1 = some (yT2 k) := by decide +kernel
def tT3 : u_T := fun k => match k with
  | 0 => ("ModringsLaw$Out", "n", "J", false)
  | _ => ("ModringsLaw$Out", "s", "Ljava/lang/String;", false)
def yT3 : Nat → FieldType := fun k => match k with
  | 0 => .long
  | _ => (.object "java/lang/String")
theorem nT3 : ∀ a, a < 2 → ∀ b, b < 2 → a ≠ b → (tT3 a).2.1 ≠ (tT3 b).2.1 := by decide +kernel
theorem oT3 : ∀ k, k < 2 → parseFieldDescriptor (tT3 k).2.2.1 = some (yT3 k) := by decide +kernel
def tT4 : u_T := fun k => match k with
  | 0 => ("ModringsModel", "thrown", "I", false)
  | 1 => ("ModringsModel", "ints", "[J", true)
  | 2 => ("ModringsModel", "longs", "[J", true)
  | 3 => ("ModringsModel", "moduli", "[I", true)
  | 4 => ("ModringsModel", "slots", "[[I", true)
  | 5 => ("ModringsModel", "refused", "I", false)
  | _ => ("ModringsModel", "knocks", "I", false)
def yT4 : Nat → FieldType := fun k => match k with
  | 0 => .int
  | 1 => (.array .long)
  | 2 => (.array .long)
  | 3 => (.array .int)
  | 4 => (.array (.array .int))
  | 5 => .int
  | _ => .int
theorem nT4 : ∀ a, a < 7 → ∀ b, b < 7 → a ≠ b → (tT4 a).2.1 ≠ (tT4 b).2.1 := by decide +kernel
theorem oT4 : ∀ k, k < 7 → parseFieldDescriptor (tT4 k).2.2.1 = some (yT4 k) := by decide +kernel
abbrev mCl : List vw_C := [(rc_STR, tT0, 4), (rc_SB, tT1, 4), (rc_X, tT2, 6), (rc_O, tT3, 2), (rc_M, tT4, 7)]
def kI : List Int32 := [(-1), 0, 1, 2, 3, 4, 5, 45, 48, 20, 31, 1000, 32, 7, 10, (-12), 12, 58, (-9), 2147483647, (-100), 100, (-10), 19, 16, 255, 2147483639, 6, 63]
def kJ : List Int64 := [0, 1, 5, 10, 30, (-1), (-9223372036854775808), (-2147483648), 9223372036854775807, 2147483647, 4294967295, 7837, 31, 4294967296, 100, (-10)]
def kS : List (List (Int32 × Nat)) := [[(0, 44), (1, 51), (2, 55), (3, 62)], [(0, 32), (1, 37), (2, 42)], [(0, 56), (1, 62), (2, 66), (3, 73)], [(0, 228), (1, 337), (2, 405), (3, 445), (4, 485), (5, 565), (6, 645), (7, 713), (8, 753), (9, 805), (10, 857), (11, 937), (12, 993), (13, 1089), (14, 1185), (15, 1253), (16, 1349), (17, 1445), (18, 1509), (19, 1573), (20, 1641), (21, 1709), (22, 1765), (23, 1833), (24, 1901), (25, 1969), (26, 2009), (27, 2089), (28, 2169), (29, 2249), (30, 2301), (31, 2353), (32, 2393), (33, 2433), (34, 2473), (35, 2501), (36, 2581), (37, 2657), (38, 2725), (39, 2753), (40, 2766), (41, 2779)]]
abbrev Ent : Type := Nat × Instr × Nat × Nat × Nat × Nat × Bool
abbrev Chk : Type := Nat × Nat × List Ent
/-- class, name, code, locals, answer, whether it has a table of its own, that table, the instructions -/
abbrev MD : Type := String × MethodName × ByteArray × Nat × Option FieldType × List (Nat × Nat × Nat × Nat) × List Chk
abbrev n_D_ofSigned : Nat := 0
def e0_0 : List Ent := [(0, .new 7, 3, 1, 4, 0, false), (3, .dup, 1, 0, 0, 0, false), (4, .invokespecial 9, 3, 190, 0, 5, false), (7, .astore_n 2, 1, 2, 0, 0, false), (8, .aload_n 2, 1, 2, 0, 0, false), (9, .lload_n 0, 1, 0, 0, 0, false), (10, .lconst 0, 1, 0, 0, 0, false), (11, .lcmp, 1, 0, 0, 0, false), (12, .ifCond .ge 8, 3, 20, 0, 0, false), (15, .lload_n 0, 1, 0, 0, 0, false), (16, .lneg, 1, 0, 0, 0, false), (17, .goto 4, 3, 21, 0, 0, false), (20, .lload_n 0, 1, 0, 0, 0, false), (21, .invokestatic 10, 3, 2, 2, 0, false), (24, .lload_n 0, 1, 0, 0, 0, false), (25, .lconst 0, 1, 0, 0, 0, false), (26, .lcmp, 1, 0, 0, 0, false), (27, .ifCond .ge 10, 3, 37, 0, 0, false), (30, .aload_n 2, 1, 2, 0, 0, false), (31, .bipush 45, 2, 7, 0, 0, false), (33, .invokevirtual 16, 3, 192, 1, 17, false), (36, .pop, 1, 0, 0, 0, false), (37, .aload_n 2, 1, 2, 0, 0, false), (38, .invokevirtual 20, 3, 195, 0, 17, false), (41, .invokevirtual 24, 3, 196, 0, 17, false), (44, .areturn, 1, 0, 0, 0, false)]
def y_D_ofSigned : MethodName := ⟨rc_D, "ofSigned", "(J)Ljava/lang/String;"⟩
def md_D_ofSigned : MD := (rc_D, y_D_ofSigned, prog_2_method_2_code, 3, (some (.object "java/lang/String")), [], [(0, 44, e0_0)])
abbrev n_D_ofUnsigned : Nat := 1
def e1_0 : List Ent := [(0, .new 7, 3, 1, 4, 0, false), (3, .dup, 1, 0, 0, 0, false), (4, .invokespecial 9, 3, 190, 0, 5, false), (7, .astore_n 2, 1, 2, 0, 0, false), (8, .aload_n 2, 1, 2, 0, 0, false), (9, .lload_n 0, 1, 0, 0, 0, false), (10, .invokestatic 10, 3, 2, 2, 0, false), (13, .aload_n 2, 1, 2, 0, 0, false), (14, .invokevirtual 20, 3, 195, 0, 17, false), (17, .invokevirtual 24, 3, 196, 0, 17, false), (20, .areturn, 1, 0, 0, 0, false)]
def y_D_ofUnsigned : MethodName := ⟨rc_D, "ofUnsigned", "(J)Ljava/lang/String;"⟩
def md_D_ofUnsigned : MD := (rc_D, y_D_ofUnsigned, prog_2_method_3_code, 3, (some (.object "java/lang/String")), [], [(0, 20, e1_0)])
abbrev n_D_appendBackwards : Nat := 2
def e2_0 : List Ent := [(0, .lload_n 1, 1, 1, 0, 0, false), (1, .lstore_n 3, 1, 3, 0, 0, false), (2, .iconst 0, 1, 1, 0, 0, false), (3, .istore 5, 2, 5, 0, 0, false), (5, .lload_n 3, 1, 3, 0, 0, true), (6, .iconst 1, 1, 2, 0, 0, false), (7, .lushr, 1, 0, 0, 0, false), (8, .ldc2_w 28, 3, 2, 0, 0, false), (11, .ldiv, 1, 0, 0, 0, false), (12, .lstore 6, 2, 6, 0, 0, false), (14, .aload_n 0, 1, 0, 0, 0, false), (15, .bipush 48, 2, 8, 0, 0, false), (17, .lload_n 3, 1, 3, 0, 0, false), (18, .lload 6, 2, 6, 0, 0, false), (20, .ldc2_w 30, 3, 3, 0, 0, false), (23, .lmul, 1, 0, 0, 0, false), (24, .lsub, 1, 0, 0, 0, false), (25, .l2i, 1, 0, 0, 0, false), (26, .iadd, 1, 0, 0, 0, false), (27, .i2c, 1, 0, 0, 0, false), (28, .invokevirtual 16, 3, 192, 1, 17, false), (31, .pop, 1, 0, 0, 0, false), (32, .lload 6, 2, 6, 0, 0, false), (34, .lstore_n 3, 1, 3, 0, 0, false), (35, .iinc 5 1, 3, 5, 2, 0, false), (38, .lload_n 3, 1, 3, 0, 0, false), (39, .lconst 0, 1, 0, 0, 0, false), (40, .lcmp, 1, 0, 0, 0, false), (41, .ifCond .eq 10, 3, 51, 0, 0, false), (44, .iload 5, 2, 5, 0, 0, false), (46, .bipush 20, 2, 9, 0, 0, false), (48, .if_icmp .lt (-43), 3, 5, 0, 0, false), (51, .return_, 1, 0, 0, 0, false)]
def y_D_appendBackwards : MethodName := ⟨rc_D, "appendBackwards", "(Ljava/lang/StringBuilder;J)V"⟩
def md_D_appendBackwards : MD := (rc_D, y_D_appendBackwards, prog_2_method_4_code, 8, none, [], [(0, 51, e2_0)])
abbrev n_D_countOf : Nat := 3
def e3_0 : List Ent := [(0, .lload_n 0, 1, 0, 0, 0, false), (1, .lconst 0, 1, 0, 0, 0, false), (2, .lcmp, 1, 0, 0, 0, false), (3, .ifCond .ge 7, 3, 10, 0, 0, false), (6, .iconst 1, 1, 2, 0, 0, false), (7, .goto 4, 3, 11, 0, 0, false), (10, .iconst 0, 1, 1, 0, 0, false), (11, .istore_n 2, 1, 2, 0, 0, false), (12, .lload_n 0, 1, 0, 0, 0, false), (13, .lstore_n 3, 1, 3, 0, 0, false), (14, .lload_n 3, 1, 3, 0, 0, true), (15, .ldc2_w 30, 3, 3, 0, 0, false), (18, .ldiv, 1, 0, 0, 0, false), (19, .lstore_n 3, 1, 3, 0, 0, false), (20, .iinc 2 1, 3, 2, 2, 0, false), (23, .lload_n 3, 1, 3, 0, 0, false), (24, .lconst 0, 1, 0, 0, 0, false), (25, .lcmp, 1, 0, 0, 0, false), (26, .ifCond .eq 9, 3, 35, 0, 0, false), (29, .iload_n 2, 1, 2, 0, 0, false), (30, .bipush 20, 2, 9, 0, 0, false), (32, .if_icmp .lt (-18), 3, 14, 0, 0, false), (35, .iload_n 2, 1, 2, 0, 0, false), (36, .ireturn, 1, 0, 0, 0, false)]
def y_D_countOf : MethodName := ⟨rc_D, "countOf", "(J)I"⟩
def md_D_countOf : MD := (rc_D, y_D_countOf, prog_2_method_5_code, 5, (some .int), [], [(0, 36, e3_0)])
abbrev n_A_holdForPair : Nat := 4
def e4_0 : List Ent := [(0, .lload_n 1, 1, 1, 0, 0, false), (1, .lload_n 3, 1, 3, 0, 0, false), (2, .invokestatic 7, 3, 5, 2, 0, false), (5, .ifCond .eq 62, 3, 67, 0, 0, false), (8, .lload_n 3, 1, 3, 0, 0, false), (9, .lconst 0, 1, 0, 0, 0, false), (10, .lcmp, 1, 0, 0, 0, false), (11, .ifCond .eq 21, 3, 32, 0, 0, false), (14, .iload_n 0, 1, 0, 0, 0, false), (15, .lload_n 1, 1, 1, 0, 0, false), (16, .lload_n 3, 1, 3, 0, 0, false), (17, .invokestatic 13, 3, 6, 3, 0, false), (20, .ifCond .eq 47, 3, 67, 0, 0, false), (23, .iload_n 0, 1, 0, 0, 0, false), (24, .lload_n 1, 1, 1, 0, 0, false), (25, .lload_n 3, 1, 3, 0, 0, false), (26, .invokestatic 17, 3, 7, 3, 0, false), (29, .ifCond .eq 38, 3, 67, 0, 0, false), (32, .iload_n 0, 1, 0, 0, 0, false), (33, .lload_n 1, 1, 1, 0, 0, false), (34, .lload_n 3, 1, 3, 0, 0, false), (35, .invokestatic 20, 3, 8, 3, 0, false), (38, .ifCond .eq 29, 3, 67, 0, 0, false), (41, .iload_n 0, 1, 0, 0, 0, false), (42, .ifCond .eq 21, 3, 63, 0, 0, false), (45, .lload_n 1, 1, 1, 0, 0, false), (46, .iconst 2, 1, 3, 0, 0, false), (47, .iconst 3, 1, 4, 0, 0, false), (48, .iconst 5, 1, 6, 0, 0, false), (49, .invokestatic 23, 3, 33, 4, 0, false), (52, .lload_n 1, 1, 1, 0, 0, false), (53, .ldc2_w 29, 3, 4, 0, 0, false), (56, .invokestatic 31, 3, 29, 2, 0, false), (59, .lcmp, 1, 0, 0, 0, false), (60, .ifCond .ne 7, 3, 67, 0, 0, false), (63, .iconst 1, 1, 2, 0, 0, false), (64, .goto 4, 3, 68, 0, 0, false), (67, .iconst 0, 1, 1, 0, 0, false), (68, .ireturn, 1, 0, 0, 0, false)]
def y_A_holdForPair : MethodName := ⟨rc_A, "holdForPai\x72", "(ZJJ)Z"⟩
def md_A_holdForPair : MD := (rc_A, y_A_holdForPair, prog_3_method_2_code, 5, (some .boolean), [], [(0, 68, e4_0)])
abbrev n_A_holdForAverages : Nat := 5
def e5_0 : List Ent := [(0, .lload_n 0, 1, 0, 0, 0, false), (1, .lload_n 2, 1, 2, 0, 0, false), (2, .iconst 0, 1, 1, 0, 0, false), (3, .invokestatic 35, 3, 28, 3, 0, false), (6, .lstore 4, 2, 4, 0, 0, false), (8, .lload_n 0, 1, 0, 0, 0, false), (9, .lload_n 2, 1, 2, 0, 0, false), (10, .iconst 1, 1, 2, 0, 0, false), (11, .invokestatic 35, 3, 28, 3, 0, false), (14, .lstore 6, 2, 6, 0, 0, false), (16, .lload 4, 2, 4, 0, 0, false), (18, .lload 6, 2, 6, 0, 0, false), (20, .ladd, 1, 0, 0, 0, false), (21, .lload_n 0, 1, 0, 0, 0, false), (22, .lload_n 2, 1, 2, 0, 0, false), (23, .ladd, 1, 0, 0, 0, false), (24, .lcmp, 1, 0, 0, 0, false), (25, .ifCond .ne 43, 3, 68, 0, 0, false), (28, .lload 6, 2, 6, 0, 0, false), (30, .lload 4, 2, 4, 0, 0, false), (32, .lsub, 1, 0, 0, 0, false), (33, .lload_n 0, 1, 0, 0, 0, false), (34, .lload_n 2, 1, 2, 0, 0, false), (35, .lxor, 1, 0, 0, 0, false), (36, .lconst 1, 1, 1, 0, 0, false), (37, .land, 1, 0, 0, 0, false), (38, .lcmp, 1, 0, 0, 0, false), (39, .ifCond .ne 29, 3, 68, 0, 0, false), (42, .lload 4, 2, 4, 0, 0, false), (44, .lload_n 0, 1, 0, 0, 0, false), (45, .lload_n 2, 1, 2, 0, 0, false), (46, .invokestatic 39, 3, 184, 2, 0, false), (49, .lcmp, 1, 0, 0, 0, false), (50, .ifCond .lt 18, 3, 68, 0, 0, false), (53, .lload 6, 2, 6, 0, 0, false), (55, .lload_n 0, 1, 0, 0, 0, false), (56, .lload_n 2, 1, 2, 0, 0, false), (57, .invokestatic 44, 3, 182, 2, 0, false), (60, .lcmp, 1, 0, 0, 0, false), (61, .ifCond .gt 7, 3, 68, 0, 0, false), (64, .iconst 1, 1, 2, 0, 0, false), (65, .goto 4, 3, 69, 0, 0, false), (68, .iconst 0, 1, 1, 0, 0, false), (69, .ireturn, 1, 0, 0, 0, false)]
def y_A_holdForAverages : MethodName := ⟨rc_A, "holdForAverages", "(JJ)Z"⟩
def md_A_holdForAverages : MD := (rc_A, y_A_holdForAverages, prog_3_method_3_code, 8, (some .boolean), [], [(0, 69, e5_0)])
abbrev n_A_holdForFloor : Nat := 6
def e6_0 : List Ent := [(0, .iload_n 0, 1, 0, 0, 0, false), (1, .lload_n 1, 1, 1, 0, 0, false), (2, .lload_n 3, 1, 3, 0, 0, false), (3, .invokestatic 31, 3, 29, 2, 0, false), (6, .invokestatic 47, 3, 22, 2, 0, false), (9, .lstore 5, 2, 5, 0, 0, false), (11, .lload_n 1, 1, 1, 0, 0, false), (12, .lload_n 3, 1, 3, 0, 0, false), (13, .invokestatic 51, 3, 30, 2, 0, false), (16, .lstore 7, 2, 7, 0, 0, false), (18, .lload_n 3, 1, 3, 0, 0, false), (19, .lconst 0, 1, 0, 0, 0, false), (20, .lcmp, 1, 0, 0, 0, false), (21, .ifCond .ge 25, 3, 46, 0, 0, false), (24, .lload 7, 2, 7, 0, 0, false), (26, .lconst 0, 1, 0, 0, 0, false), (27, .lcmp, 1, 0, 0, 0, false), (28, .ifCond .gt 14, 3, 42, 0, 0, false), (31, .lload 7, 2, 7, 0, 0, false), (33, .lload_n 3, 1, 3, 0, 0, false), (34, .lcmp, 1, 0, 0, 0, false), (35, .ifCond .le 7, 3, 42, 0, 0, false), (38, .iconst 1, 1, 2, 0, 0, false), (39, .goto 26, 3, 65, 0, 0, false), (42, .iconst 0, 1, 1, 0, 0, false), (43, .goto 22, 3, 65, 0, 0, false), (46, .lload 7, 2, 7, 0, 0, false), (48, .lconst 0, 1, 0, 0, 0, false), (49, .lcmp, 1, 0, 0, 0, false), (50, .ifCond .lt 14, 3, 64, 0, 0, false), (53, .lload 7, 2, 7, 0, 0, false), (55, .lload_n 3, 1, 3, 0, 0, false), (56, .lcmp, 1, 0, 0, 0, false), (57, .ifCond .ge 7, 3, 64, 0, 0, false), (60, .iconst 1, 1, 2, 0, 0, false), (61, .goto 4, 3, 65, 0, 0, false), (64, .iconst 0, 1, 1, 0, 0, false), (65, .istore 9, 2, 9, 0, 0, false), (67, .iload 9, 2, 9, 0, 0, false), (69, .ifCond .eq 23, 3, 92, 0, 0, false), (72, .iload_n 0, 1, 0, 0, 0, false), (73, .lload 5, 2, 5, 0, 0, false), (75, .lload_n 3, 1, 3, 0, 0, false), (76, .lmul, 1, 0, 0, 0, false), (77, .lload 7, 2, 7, 0, 0, false), (79, .ladd, 1, 0, 0, 0, false), (80, .invokestatic 47, 3, 22, 2, 0, false), (83, .lload_n 1, 1, 1, 0, 0, false), (84, .lcmp, 1, 0, 0, 0, false), (85, .ifCond .ne 7, 3, 92, 0, 0, false), (88, .iconst 1, 1, 2, 0, 0, false), (89, .goto 4, 3, 93, 0, 0, false), (92, .iconst 0, 1, 1, 0, 0, false), (93, .ireturn, 1, 0, 0, 0, false)]
def y_A_holdForFloor : MethodName := ⟨rc_A, "holdForFloo\x72", "(ZJJ)Z"⟩
def md_A_holdForFloor : MD := (rc_A, y_A_holdForFloor, prog_3_method_4_code, 10, (some .boolean), [], [(0, 93, e6_0)])
abbrev n_A_holdForTowards : Nat := 7
def e7_0 : List Ent := [(0, .iload_n 0, 1, 0, 0, 0, false), (1, .lload_n 1, 1, 1, 0, 0, false), (2, .lload_n 3, 1, 3, 0, 0, false), (3, .invokestatic 54, 3, 31, 2, 0, false), (6, .invokestatic 47, 3, 22, 2, 0, false), (9, .lstore 5, 2, 5, 0, 0, false), (11, .iload_n 0, 1, 0, 0, 0, false), (12, .lload 5, 2, 5, 0, 0, false), (14, .lload_n 3, 1, 3, 0, 0, false), (15, .lmul, 1, 0, 0, 0, false), (16, .lload_n 1, 1, 1, 0, 0, false), (17, .lload_n 3, 1, 3, 0, 0, false), (18, .invokestatic 57, 3, 32, 2, 0, false), (21, .ladd, 1, 0, 0, 0, false), (22, .invokestatic 47, 3, 22, 2, 0, false), (25, .lload_n 1, 1, 1, 0, 0, false), (26, .lcmp, 1, 0, 0, 0, false), (27, .ifCond .ne 7, 3, 34, 0, 0, false), (30, .iconst 1, 1, 2, 0, 0, false), (31, .goto 4, 3, 35, 0, 0, false), (34, .iconst 0, 1, 1, 0, 0, false), (35, .ireturn, 1, 0, 0, 0, false)]
def y_A_holdForTowards : MethodName := ⟨rc_A, "holdForTowards", "(ZJJ)Z"⟩
def md_A_holdForTowards : MD := (rc_A, y_A_holdForTowards, prog_3_method_5_code, 7, (some .boolean), [], [(0, 35, e7_0)])
abbrev n_A_holdForProduct : Nat := 8
def e8_0 : List Ent := [(0, .iload_n 0, 1, 0, 0, 0, false), (1, .lload_n 1, 1, 1, 0, 0, false), (2, .lload_n 3, 1, 3, 0, 0, false), (3, .lmul, 1, 0, 0, 0, false), (4, .invokestatic 47, 3, 22, 2, 0, false), (7, .lstore 5, 2, 5, 0, 0, false), (9, .lload 5, 2, 5, 0, 0, false), (11, .lconst 0, 1, 0, 0, 0, false), (12, .lcmp, 1, 0, 0, 0, false), (13, .ifCond .ge 9, 3, 22, 0, 0, false), (16, .ldc2_w 60, 3, 5, 0, 0, false), (19, .goto 4, 3, 23, 0, 0, false), (22, .lconst 0, 1, 0, 0, 0, false), (23, .lstore 7, 2, 7, 0, 0, false), (25, .iload_n 0, 1, 0, 0, 0, false), (26, .lload_n 1, 1, 1, 0, 0, false), (27, .lload_n 3, 1, 3, 0, 0, false), (28, .invokestatic 62, 3, 27, 3, 0, false), (31, .lload 7, 2, 7, 0, 0, false), (33, .lcmp, 1, 0, 0, 0, false), (34, .ifCond .ne 7, 3, 41, 0, 0, false), (37, .iconst 1, 1, 2, 0, 0, false), (38, .goto 4, 3, 42, 0, 0, false), (41, .iconst 0, 1, 1, 0, 0, false), (42, .istore 9, 2, 9, 0, 0, false), (44, .iload 9, 2, 9, 0, 0, false), (46, .iload_n 0, 1, 0, 0, 0, false), (47, .lload_n 1, 1, 1, 0, 0, false), (48, .lload_n 3, 1, 3, 0, 0, false), (49, .iconst 2, 1, 3, 0, 0, false), (50, .invokestatic 66, 3, 25, 4, 0, false), (53, .if_icmp .ne 7, 3, 60, 0, 0, false), (56, .iconst 1, 1, 2, 0, 0, false), (57, .goto 4, 3, 61, 0, 0, false), (60, .iconst 0, 1, 1, 0, 0, false), (61, .ireturn, 1, 0, 0, 0, false)]
def y_A_holdForProduct : MethodName := ⟨rc_A, "holdForProduct", "(ZJJ)Z"⟩
def md_A_holdForProduct : MD := (rc_A, y_A_holdForProduct, prog_3_method_6_code, 10, (some .boolean), [], [(0, 61, e8_0)])
abbrev n_A_holdForResidue : Nat := 9
def e9_0 : List Ent := [(0, .iload_n 0, 1, 0, 0, 0, false), (1, .i2l, 1, 0, 0, 0, false), (2, .iload_n 1, 1, 1, 0, 0, false), (3, .invokestatic 70, 3, 13, 2, 0, false), (6, .iload_n 0, 1, 0, 0, 0, false), (7, .if_icmp .eq 5, 3, 12, 0, 0, false), (10, .iconst 0, 1, 1, 0, 0, false), (11, .ireturn, 1, 0, 0, 0, false), (12, .iload_n 0, 1, 0, 0, 0, false), (13, .iload_n 1, 1, 1, 0, 0, false), (14, .invokestatic 76, 3, 16, 2, 0, false), (17, .ifCond .ne 5, 3, 22, 0, 0, false), (20, .iconst 1, 1, 2, 0, 0, false), (21, .ireturn, 1, 0, 0, 0, false), (22, .iload_n 0, 1, 0, 0, 0, false), (23, .i2l, 1, 0, 0, 0, false), (24, .iload_n 0, 1, 0, 0, 0, false), (25, .iload_n 1, 1, 1, 0, 0, false), (26, .invokestatic 80, 3, 17, 2, 0, false), (29, .i2l, 1, 0, 0, 0, false), (30, .lmul, 1, 0, 0, 0, false), (31, .lstore_n 2, 1, 2, 0, 0, false), (32, .lload_n 2, 1, 2, 0, 0, false), (33, .iload_n 1, 1, 1, 0, 0, false), (34, .invokestatic 70, 3, 13, 2, 0, false), (37, .lconst 1, 1, 1, 0, 0, false), (38, .iload_n 1, 1, 1, 0, 0, false), (39, .invokestatic 70, 3, 13, 2, 0, false), (42, .if_icmp .ne 7, 3, 49, 0, 0, false), (45, .iconst 1, 1, 2, 0, 0, false), (46, .goto 4, 3, 50, 0, 0, false), (49, .iconst 0, 1, 1, 0, 0, false), (50, .ireturn, 1, 0, 0, 0, false)]
def y_A_holdForResidue : MethodName := ⟨rc_A, "holdForResidue", "(II)Z"⟩
def md_A_holdForResidue : MD := (rc_A, y_A_holdForResidue, prog_3_method_7_code, 4, (some .boolean), [], [(0, 50, e9_0)])
abbrev n_A_keepResidues : Nat := 10
def e10_0 : List Ent := [(0, .lload_n 0, 1, 0, 0, 0, false), (1, .iload 4, 2, 4, 0, 0, false), (3, .invokestatic 70, 3, 13, 2, 0, false), (6, .i2l, 1, 0, 0, 0, false), (7, .lstore 5, 2, 5, 0, 0, false), (9, .lload_n 2, 1, 2, 0, 0, false), (10, .iload 4, 2, 4, 0, 0, false), (12, .invokestatic 70, 3, 13, 2, 0, false), (15, .i2l, 1, 0, 0, 0, false), (16, .lstore 7, 2, 7, 0, 0, false), (18, .lload_n 0, 1, 0, 0, 0, false), (19, .lload_n 2, 1, 2, 0, 0, false), (20, .ladd, 1, 0, 0, 0, false), (21, .iload 4, 2, 4, 0, 0, false), (23, .invokestatic 70, 3, 13, 2, 0, false), (26, .lload 5, 2, 5, 0, 0, false), (28, .lload 7, 2, 7, 0, 0, false), (30, .ladd, 1, 0, 0, 0, false), (31, .iload 4, 2, 4, 0, 0, false), (33, .invokestatic 70, 3, 13, 2, 0, false), (36, .if_icmp .ne 28, 3, 64, 0, 0, false), (39, .lload_n 0, 1, 0, 0, 0, false), (40, .lload_n 2, 1, 2, 0, 0, false), (41, .lmul, 1, 0, 0, 0, false), (42, .iload 4, 2, 4, 0, 0, false), (44, .invokestatic 70, 3, 13, 2, 0, false), (47, .lload 5, 2, 5, 0, 0, false), (49, .lload 7, 2, 7, 0, 0, false), (51, .lmul, 1, 0, 0, 0, false), (52, .iload 4, 2, 4, 0, 0, false), (54, .invokestatic 70, 3, 13, 2, 0, false), (57, .if_icmp .ne 7, 3, 64, 0, 0, false), (60, .iconst 1, 1, 2, 0, 0, false), (61, .goto 4, 3, 65, 0, 0, false), (64, .iconst 0, 1, 1, 0, 0, false), (65, .ireturn, 1, 0, 0, 0, false)]
def y_A_keepResidues : MethodName := ⟨rc_A, "keepResidues", "(JJI)Z"⟩
def md_A_keepResidues : MD := (rc_A, y_A_keepResidues, prog_3_method_8_code, 9, (some .boolean), [], [(0, 65, e10_0)])
abbrev n_A_holdForMeeting : Nat := 11
def e11_0 : List Ent := [(0, .iload_n 0, 1, 0, 0, 0, false), (1, .iload_n 1, 1, 1, 0, 0, false), (2, .iload_n 2, 1, 2, 0, 0, false), (3, .iload_n 3, 1, 3, 0, 0, false), (4, .invokestatic 84, 3, 19, 4, 0, false), (7, .lstore 4, 2, 4, 0, 0, false), (9, .lload 4, 2, 4, 0, 0, false), (11, .ldc2_w 60, 3, 5, 0, 0, false), (14, .lcmp, 1, 0, 0, 0, false), (15, .ifCond .eq 23, 3, 38, 0, 0, false), (18, .lload 4, 2, 4, 0, 0, false), (20, .iload_n 1, 1, 1, 0, 0, false), (21, .invokestatic 70, 3, 13, 2, 0, false), (24, .iload_n 0, 1, 0, 0, 0, false), (25, .if_icmp .ne 17, 3, 42, 0, 0, false), (28, .lload 4, 2, 4, 0, 0, false), (30, .iload_n 3, 1, 3, 0, 0, false), (31, .invokestatic 70, 3, 13, 2, 0, false), (34, .iload_n 2, 1, 2, 0, 0, false), (35, .if_icmp .ne 7, 3, 42, 0, 0, false), (38, .iconst 1, 1, 2, 0, 0, false), (39, .goto 4, 3, 43, 0, 0, false), (42, .iconst 0, 1, 1, 0, 0, false), (43, .ireturn, 1, 0, 0, 0, false)]
def y_A_holdForMeeting : MethodName := ⟨rc_A, "holdForMeeting", "(IIII)Z"⟩
def md_A_holdForMeeting : MD := (rc_A, y_A_holdForMeeting, prog_3_method_9_code, 6, (some .boolean), [], [(0, 43, e11_0)])
abbrev n_R_sizeOf : Nat := 12
def e12_0 : List Ent := [(0, .iload_n 0, 1, 0, 0, 0, false), (1, .i2l, 1, 0, 0, 0, false), (2, .invokestatic 7, 3, 180, 1, 0, false), (5, .lreturn, 1, 0, 0, 0, false)]
def y_R_sizeOf : MethodName := ⟨rc_R, "sizeOf", "(I)J"⟩
def md_R_sizeOf : MD := (rc_R, y_R_sizeOf, prog_4_method_2_code, 1, (some .long), [], [(0, 5, e12_0)])
abbrev n_R_residueOf : Nat := 13
def e13_0 : List Ent := [(0, .lload_n 0, 1, 0, 0, 0, false), (1, .iload_n 2, 1, 2, 0, 0, false), (2, .i2l, 1, 0, 0, 0, false), (3, .invokestatic 13, 3, 30, 2, 0, false), (6, .l2i, 1, 0, 0, 0, false), (7, .ireturn, 1, 0, 0, 0, false)]
def y_R_residueOf : MethodName := ⟨rc_R, "residueOf", "(JI)I"⟩
def md_R_residueOf : MD := (rc_R, y_R_residueOf, prog_4_method_3_code, 3, (some .int), [], [(0, 7, e13_0)])
abbrev n_R_raised : Nat := 14
def e14_0 : List Ent := [(0, .lconst 1, 1, 1, 0, 0, false), (1, .iload_n 2, 1, 2, 0, 0, false), (2, .invokestatic 19, 3, 13, 2, 0, false), (5, .istore_n 3, 1, 3, 0, 0, false), (6, .iload_n 0, 1, 0, 0, 0, false), (7, .istore 4, 2, 4, 0, 0, false), (9, .iconst 0, 1, 1, 0, 0, false), (10, .istore 5, 2, 5, 0, 0, false), (12, .iload 5, 2, 5, 0, 0, true), (14, .bipush 31, 2, 10, 0, 0, false), (16, .if_icmp .ge 43, 3, 59, 0, 0, false), (19, .iload_n 1, 1, 1, 0, 0, false), (20, .iload 5, 2, 5, 0, 0, false), (22, .ishr, 1, 0, 0, 0, false), (23, .iconst 1, 1, 2, 0, 0, false), (24, .iand, 1, 0, 0, 0, false), (25, .iconst 1, 1, 2, 0, 0, false), (26, .if_icmp .ne 14, 3, 40, 0, 0, false), (29, .iload_n 3, 1, 3, 0, 0, false), (30, .i2l, 1, 0, 0, 0, false), (31, .iload 4, 2, 4, 0, 0, false), (33, .i2l, 1, 0, 0, 0, false), (34, .lmul, 1, 0, 0, 0, false), (35, .iload_n 2, 1, 2, 0, 0, false), (36, .invokestatic 19, 3, 13, 2, 0, false), (39, .istore_n 3, 1, 3, 0, 0, false), (40, .iload 4, 2, 4, 0, 0, false), (42, .i2l, 1, 0, 0, 0, false), (43, .iload 4, 2, 4, 0, 0, false), (45, .i2l, 1, 0, 0, 0, false), (46, .lmul, 1, 0, 0, 0, false), (47, .iload_n 2, 1, 2, 0, 0, false), (48, .invokestatic 19, 3, 13, 2, 0, false), (51, .istore 4, 2, 4, 0, 0, false), (53, .iinc 5 1, 3, 5, 2, 0, false), (56, .goto (-44), 3, 12, 0, 0, false), (59, .iload_n 3, 1, 3, 0, 0, false), (60, .ireturn, 1, 0, 0, 0, false)]
def y_R_raised : MethodName := ⟨rc_R, "raised", "(III)I"⟩
def md_R_raised : MD := (rc_R, y_R_raised, prog_4_method_4_code, 6, (some .int), [], [(0, 60, e14_0)])
abbrev n_R_greatestDivisor : Nat := 15
def e15_0 : List Ent := [(0, .lload_n 0, 1, 0, 0, 0, false), (1, .lstore 4, 2, 4, 0, 0, false), (3, .lload_n 2, 1, 2, 0, 0, false), (4, .lstore 6, 2, 6, 0, 0, false), (6, .iconst 0, 1, 1, 0, 0, false), (7, .istore 8, 2, 8, 0, 0, false), (9, .iload 8, 2, 8, 0, 0, true), (11, .sipush 1000, 3, 11, 0, 0, false), (14, .if_icmp .ge 31, 3, 45, 0, 0, false), (17, .lload 6, 2, 6, 0, 0, false), (19, .lconst 0, 1, 0, 0, 0, false), (20, .lcmp, 1, 0, 0, 0, false), (21, .ifCond .eq 24, 3, 45, 0, 0, false), (24, .lload 4, 2, 4, 0, 0, false), (26, .lload 6, 2, 6, 0, 0, false), (28, .lrem, 1, 0, 0, 0, false), (29, .lstore 9, 2, 9, 0, 0, false), (31, .lload 6, 2, 6, 0, 0, false), (33, .lstore 4, 2, 4, 0, 0, false), (35, .lload 9, 2, 9, 0, 0, false), (37, .lstore 6, 2, 6, 0, 0, false), (39, .iinc 8 1, 3, 8, 2, 0, false), (42, .goto (-33), 3, 9, 0, 0, false), (45, .lload 4, 2, 4, 0, 0, false), (47, .lreturn, 1, 0, 0, 0, false)]
def y_R_greatestDivisor : MethodName := ⟨rc_R, "greatestDiviso\x72", "(JJ)J"⟩
def md_R_greatestDivisor : MD := (rc_R, y_R_greatestDivisor, prog_4_method_5_code, 11, (some .long), [], [(0, 47, e15_0)])
abbrev n_R_hasInverse : Nat := 16
def e16_0 : List Ent := [(0, .iload_n 0, 1, 0, 0, 0, false), (1, .i2l, 1, 0, 0, 0, false), (2, .iload_n 1, 1, 1, 0, 0, false), (3, .invokestatic 25, 3, 12, 1, 0, false), (6, .invokestatic 29, 3, 18, 2, 0, false), (9, .ldc2_w 32, 3, 5, 0, 0, false), (12, .lcmp, 1, 0, 0, 0, false), (13, .ifCond .eq 7, 3, 20, 0, 0, false), (16, .iconst 1, 1, 2, 0, 0, false), (17, .goto 4, 3, 21, 0, 0, false), (20, .iconst 0, 1, 1, 0, 0, false), (21, .ireturn, 1, 0, 0, 0, false)]
def y_R_hasInverse : MethodName := ⟨rc_R, "hasInverse", "(II)Z"⟩
def md_R_hasInverse : MD := (rc_R, y_R_hasInverse, prog_4_method_6_code, 2, (some .boolean), [], [(0, 21, e16_0)])
abbrev n_R_inverseOf : Nat := 17
def e17_0 : List Ent := [(0, .iload_n 0, 1, 0, 0, 0, false), (1, .i2l, 1, 0, 0, 0, false), (2, .iload_n 1, 1, 1, 0, 0, false), (3, .invokestatic 25, 3, 12, 1, 0, false), (6, .invokestatic 29, 3, 18, 2, 0, false), (9, .iload_n 1, 1, 1, 0, 0, false), (10, .invokestatic 19, 3, 13, 2, 0, false), (13, .ireturn, 1, 0, 0, 0, false)]
def y_R_inverseOf : MethodName := ⟨rc_R, "inverseOf", "(II)I"⟩
def md_R_inverseOf : MD := (rc_R, y_R_inverseOf, prog_4_method_7_code, 2, (some .int), [], [(0, 13, e17_0)])
abbrev n_R_inverseBelow : Nat := 18
def e18_0 : List Ent := [(0, .lload_n 2, 1, 2, 0, 0, false), (1, .lstore 4, 2, 4, 0, 0, false), (3, .lload_n 0, 1, 0, 0, 0, false), (4, .lload_n 2, 1, 2, 0, 0, false), (5, .invokestatic 13, 3, 30, 2, 0, false), (8, .lstore 6, 2, 6, 0, 0, false), (10, .lconst 0, 1, 0, 0, 0, false), (11, .lstore 8, 2, 8, 0, 0, false), (13, .lconst 1, 1, 1, 0, 0, false), (14, .lstore 10, 2, 10, 0, 0, false), (16, .iconst 0, 1, 1, 0, 0, false), (17, .istore 12, 2, 12, 0, 0, false), (19, .iload 12, 2, 12, 0, 0, true), (21, .sipush 1000, 3, 11, 0, 0, false), (24, .if_icmp .ge 59, 3, 83, 0, 0, false), (27, .lload 6, 2, 6, 0, 0, false), (29, .lconst 0, 1, 0, 0, 0, false), (30, .lcmp, 1, 0, 0, 0, false), (31, .ifCond .eq 52, 3, 83, 0, 0, false), (34, .lload 4, 2, 4, 0, 0, false), (36, .lload 6, 2, 6, 0, 0, false), (38, .ldiv, 1, 0, 0, 0, false), (39, .lstore 13, 2, 13, 0, 0, false), (41, .lload 4, 2, 4, 0, 0, false), (43, .lload 13, 2, 13, 0, 0, false), (45, .lload 6, 2, 6, 0, 0, false), (47, .lmul, 1, 0, 0, 0, false), (48, .lsub, 1, 0, 0, 0, false), (49, .lstore 15, 2, 15, 0, 0, false), (51, .lload 6, 2, 6, 0, 0, false), (53, .lstore 4, 2, 4, 0, 0, false), (55, .lload 15, 2, 15, 0, 0, false), (57, .lstore 6, 2, 6, 0, 0, false), (59, .lload 8, 2, 8, 0, 0, false), (61, .lload 13, 2, 13, 0, 0, false), (63, .lload 10, 2, 10, 0, 0, false), (65, .lmul, 1, 0, 0, 0, false), (66, .lsub, 1, 0, 0, 0, false), (67, .lstore 17, 2, 17, 0, 0, false), (69, .lload 10, 2, 10, 0, 0, false), (71, .lstore 8, 2, 8, 0, 0, false), (73, .lload 17, 2, 17, 0, 0, false), (75, .lstore 10, 2, 10, 0, 0, false), (77, .iinc 12 1, 3, 12, 2, 0, false), (80, .goto (-61), 3, 19, 0, 0, false), (83, .lload 4, 2, 4, 0, 0, false), (85, .lconst 1, 1, 1, 0, 0, false), (86, .lcmp, 1, 0, 0, 0, false), (87, .ifCond .ne 12, 3, 99, 0, 0, false), (90, .lload 8, 2, 8, 0, 0, false), (92, .lload_n 2, 1, 2, 0, 0, false), (93, .invokestatic 13, 3, 30, 2, 0, false), (96, .goto 6, 3, 102, 0, 0, false), (99, .ldc2_w 32, 3, 5, 0, 0, false), (102, .lreturn, 1, 0, 0, 0, false)]
def y_R_inverseBelow : MethodName := ⟨rc_R, "inverseBelow", "(JJ)J"⟩
def md_R_inverseBelow : MD := (rc_R, y_R_inverseBelow, prog_4_method_8_code, 19, (some .long), [], [(0, 102, e18_0)])
abbrev n_R_meetingOf : Nat := 19
def e19_0 : List Ent := [(0, .iload_n 1, 1, 1, 0, 0, false), (1, .invokestatic 25, 3, 12, 1, 0, false), (4, .lstore 4, 2, 4, 0, 0, false), (6, .iload_n 3, 1, 3, 0, 0, false), (7, .invokestatic 25, 3, 12, 1, 0, false), (10, .lstore 6, 2, 6, 0, 0, false), (12, .iload_n 0, 1, 0, 0, 0, false), (13, .i2l, 1, 0, 0, 0, false), (14, .lload 4, 2, 4, 0, 0, false), (16, .invokestatic 13, 3, 30, 2, 0, false), (19, .lstore 8, 2, 8, 0, 0, false), (21, .iload_n 2, 1, 2, 0, 0, false), (22, .i2l, 1, 0, 0, 0, false), (23, .lload 8, 2, 8, 0, 0, false), (25, .lsub, 1, 0, 0, 0, false), (26, .lstore 10, 2, 10, 0, 0, false), (28, .lload 4, 2, 4, 0, 0, false), (30, .lload 6, 2, 6, 0, 0, false), (32, .invokestatic 34, 3, 15, 2, 0, false), (35, .lstore 12, 2, 12, 0, 0, false), (37, .lload 10, 2, 10, 0, 0, false), (39, .lload 12, 2, 12, 0, 0, false), (41, .invokestatic 13, 3, 30, 2, 0, false), (44, .lconst 0, 1, 0, 0, 0, false), (45, .lcmp, 1, 0, 0, 0, false), (46, .ifCond .eq 7, 3, 53, 0, 0, false), (49, .ldc2_w 32, 3, 5, 0, 0, false), (52, .lreturn, 1, 0, 0, 0, false), (53, .lload 4, 2, 4, 0, 0, false), (55, .lload 12, 2, 12, 0, 0, false), (57, .invokestatic 37, 3, 29, 2, 0, false), (60, .lstore 14, 2, 14, 0, 0, false), (62, .lload 6, 2, 6, 0, 0, false), (64, .lload 12, 2, 12, 0, 0, false), (66, .invokestatic 37, 3, 29, 2, 0, false), (69, .lstore 16, 2, 16, 0, 0, false), (71, .lload 10, 2, 10, 0, 0, false), (73, .lload 12, 2, 12, 0, 0, false), (75, .invokestatic 37, 3, 29, 2, 0, false), (78, .lload 14, 2, 14, 0, 0, false), (80, .lload 16, 2, 16, 0, 0, false), (82, .invokestatic 29, 3, 18, 2, 0, false), (85, .lmul, 1, 0, 0, 0, false), (86, .lload 16, 2, 16, 0, 0, false), (88, .invokestatic 13, 3, 30, 2, 0, false), (91, .lstore 18, 2, 18, 0, 0, false), (93, .lload 8, 2, 8, 0, 0, false), (95, .lload 4, 2, 4, 0, 0, false), (97, .lload 18, 2, 18, 0, 0, false), (99, .lmul, 1, 0, 0, 0, false), (100, .ladd, 1, 0, 0, 0, false), (101, .lreturn, 1, 0, 0, 0, false)]
def y_R_meetingOf : MethodName := ⟨rc_R, "meetingOf", "(IIII)J"⟩
def md_R_meetingOf : MD := (rc_R, y_R_meetingOf, prog_4_method_9_code, 20, (some .long), [], [(0, 101, e19_0)])
abbrev n_W_order : Nat := 20
def e20_0 : List Ent := [(0, .lload_n 0, 1, 0, 0, 0, false), (1, .lload_n 2, 1, 2, 0, 0, false), (2, .lcmp, 1, 0, 0, 0, false), (3, .ifCond .ge 7, 3, 10, 0, 0, false), (6, .iconst (-1), 1, 0, 0, 0, false), (7, .goto 14, 3, 21, 0, 0, false), (10, .lload_n 0, 1, 0, 0, 0, false), (11, .lload_n 2, 1, 2, 0, 0, false), (12, .lcmp, 1, 0, 0, 0, false), (13, .ifCond .le 7, 3, 20, 0, 0, false), (16, .iconst 1, 1, 2, 0, 0, false), (17, .goto 4, 3, 21, 0, 0, false), (20, .iconst 0, 1, 1, 0, 0, false), (21, .ireturn, 1, 0, 0, 0, false)]
def y_W_order : MethodName := ⟨rc_W, "orde\x72", "(JJ)I"⟩
def md_W_order : MD := (rc_W, y_W_order, prog_5_method_2_code, 4, (some .int), [], [(0, 21, e20_0)])
abbrev n_W_isWithin : Nat := 21
def e21_0 : List Ent := [(0, .iload_n 0, 1, 0, 0, 0, false), (1, .ifCond .ne 11, 3, 12, 0, 0, false), (4, .lload_n 1, 1, 1, 0, 0, false), (5, .lload_n 1, 1, 1, 0, 0, false), (6, .l2i, 1, 0, 0, 0, false), (7, .i2l, 1, 0, 0, 0, false), (8, .lcmp, 1, 0, 0, 0, false), (9, .ifCond .ne 7, 3, 16, 0, 0, false), (12, .iconst 1, 1, 2, 0, 0, false), (13, .goto 4, 3, 17, 0, 0, false), (16, .iconst 0, 1, 1, 0, 0, false), (17, .ireturn, 1, 0, 0, 0, false)]
def y_W_isWithin : MethodName := ⟨rc_W, "isWithin", "(ZJ)Z"⟩
def md_W_isWithin : MD := (rc_W, y_W_isWithin, prog_5_method_3_code, 3, (some .boolean), [], [(0, 17, e21_0)])
abbrev n_W_goneRound : Nat := 22
def e22_0 : List Ent := [(0, .iload_n 0, 1, 0, 0, 0, false), (1, .ifCond .eq 7, 3, 8, 0, 0, false), (4, .lload_n 1, 1, 1, 0, 0, false), (5, .goto 6, 3, 11, 0, 0, false), (8, .lload_n 1, 1, 1, 0, 0, false), (9, .l2i, 1, 0, 0, 0, false), (10, .i2l, 1, 0, 0, 0, false), (11, .lreturn, 1, 0, 0, 0, false)]
def y_W_goneRound : MethodName := ⟨rc_W, "goneRound", "(ZJ)J"⟩
def md_W_goneRound : MD := (rc_W, y_W_goneRound, prog_5_method_4_code, 3, (some .long), [], [(0, 11, e22_0)])
abbrev n_W_edge : Nat := 23
def e23_0 : List Ent := [(0, .iload_n 0, 1, 0, 0, 0, false), (1, .ifCond .eq 9, 3, 10, 0, 0, false), (4, .ldc2_w 9, 3, 6, 0, 0, false), (7, .goto 6, 3, 13, 0, 0, false), (10, .ldc2_w 13, 3, 7, 0, 0, false), (13, .lstore_n 3, 1, 3, 0, 0, false), (14, .iload_n 0, 1, 0, 0, 0, false), (15, .ifCond .eq 9, 3, 24, 0, 0, false), (18, .ldc2_w 15, 3, 8, 0, 0, false), (21, .goto 6, 3, 27, 0, 0, false), (24, .ldc2_w 17, 3, 9, 0, 0, false), (27, .lstore 5, 2, 5, 0, 0, false), (29, .lload_n 1, 1, 1, 0, 0, false), (30, .lload_n 3, 1, 3, 0, 0, false), (31, .lcmp, 1, 0, 0, 0, false), (32, .ifCond .ne 7, 3, 39, 0, 0, false), (35, .iconst (-1), 1, 0, 0, 0, false), (36, .goto 15, 3, 51, 0, 0, false), (39, .lload_n 1, 1, 1, 0, 0, false), (40, .lload 5, 2, 5, 0, 0, false), (42, .lcmp, 1, 0, 0, 0, false), (43, .ifCond .ne 7, 3, 50, 0, 0, false), (46, .iconst 1, 1, 2, 0, 0, false), (47, .goto 4, 3, 51, 0, 0, false), (50, .iconst 0, 1, 1, 0, 0, false), (51, .ireturn, 1, 0, 0, 0, false)]
def y_W_edge : MethodName := ⟨rc_W, "edge", "(ZJ)I"⟩
def md_W_edge : MD := (rc_W, y_W_edge, prog_5_method_5_code, 7, (some .int), [], [(0, 51, e23_0)])
abbrev n_W_joined : Nat := 24
def e24_0 : List Ent := [(0, .iload 4, 2, 4, 0, 0, false), (2, .ifCond .ne 7, 3, 9, 0, 0, false), (5, .lload_n 0, 1, 0, 0, 0, false), (6, .lload_n 2, 1, 2, 0, 0, false), (7, .ladd, 1, 0, 0, 0, false), (8, .lreturn, 1, 0, 0, 0, false), (9, .iload 4, 2, 4, 0, 0, false), (11, .iconst 1, 1, 2, 0, 0, false), (12, .if_icmp .ne 9, 3, 21, 0, 0, false), (15, .lload_n 0, 1, 0, 0, 0, false), (16, .lload_n 2, 1, 2, 0, 0, false), (17, .lsub, 1, 0, 0, 0, false), (18, .goto 6, 3, 24, 0, 0, false), (21, .lload_n 0, 1, 0, 0, 0, false), (22, .lload_n 2, 1, 2, 0, 0, false), (23, .lmul, 1, 0, 0, 0, false), (24, .lreturn, 1, 0, 0, 0, false)]
def y_W_joined : MethodName := ⟨rc_W, "joined", "(JJI)J"⟩
def md_W_joined : MD := (rc_W, y_W_joined, prog_5_method_6_code, 5, (some .long), [], [(0, 24, e24_0)])
abbrev n_W_isExact : Nat := 25
def e25_0 : List Ent := [(0, .lload_n 1, 1, 1, 0, 0, false), (1, .lload_n 3, 1, 3, 0, 0, false), (2, .iload 5, 2, 5, 0, 0, false), (4, .invokestatic 21, 3, 24, 3, 0, false), (7, .lstore 6, 2, 6, 0, 0, false), (9, .lload_n 1, 1, 1, 0, 0, false), (10, .lload_n 3, 1, 3, 0, 0, false), (11, .iload 5, 2, 5, 0, 0, false), (13, .lload 6, 2, 6, 0, 0, false), (15, .invokestatic 25, 3, 26, 4, 0, false), (18, .ifCond .eq 16, 3, 34, 0, 0, false), (21, .iload_n 0, 1, 0, 0, 0, false), (22, .lload 6, 2, 6, 0, 0, false), (24, .invokestatic 29, 3, 21, 2, 0, false), (27, .ifCond .eq 7, 3, 34, 0, 0, false), (30, .iconst 1, 1, 2, 0, 0, false), (31, .goto 4, 3, 35, 0, 0, false), (34, .iconst 0, 1, 1, 0, 0, false), (35, .ireturn, 1, 0, 0, 0, false)]
def y_W_isExact : MethodName := ⟨rc_W, "isExact", "(ZJJI)Z"⟩
def md_W_isExact : MD := (rc_W, y_W_isExact, prog_5_method_7_code, 8, (some .boolean), [], [(0, 35, e25_0)])
abbrev n_W_isTrue : Nat := 26
def e26_0 : List Ent := [(0, .iload 4, 2, 4, 0, 0, false), (2, .ifCond .ne 23, 3, 25, 0, 0, false), (5, .lload_n 0, 1, 0, 0, 0, false), (6, .lload 5, 2, 5, 0, 0, false), (8, .lxor, 1, 0, 0, 0, false), (9, .lload_n 2, 1, 2, 0, 0, false), (10, .lload 5, 2, 5, 0, 0, false), (12, .lxor, 1, 0, 0, 0, false), (13, .land, 1, 0, 0, 0, false), (14, .lconst 0, 1, 0, 0, 0, false), (15, .lcmp, 1, 0, 0, 0, false), (16, .ifCond .lt 7, 3, 23, 0, 0, false), (19, .iconst 1, 1, 2, 0, 0, false), (20, .goto 4, 3, 24, 0, 0, false), (23, .iconst 0, 1, 1, 0, 0, false), (24, .ireturn, 1, 0, 0, 0, false), (25, .iload 4, 2, 4, 0, 0, false), (27, .iconst 1, 1, 2, 0, 0, false), (28, .if_icmp .ne 22, 3, 50, 0, 0, false), (31, .lload_n 0, 1, 0, 0, 0, false), (32, .lload_n 2, 1, 2, 0, 0, false), (33, .lxor, 1, 0, 0, 0, false), (34, .lload_n 0, 1, 0, 0, 0, false), (35, .lload 5, 2, 5, 0, 0, false), (37, .lxor, 1, 0, 0, 0, false), (38, .land, 1, 0, 0, 0, false), (39, .lconst 0, 1, 0, 0, 0, false), (40, .lcmp, 1, 0, 0, 0, false), (41, .ifCond .lt 7, 3, 48, 0, 0, false), (44, .iconst 1, 1, 2, 0, 0, false), (45, .goto 4, 3, 49, 0, 0, false), (48, .iconst 0, 1, 1, 0, 0, false), (49, .ireturn, 1, 0, 0, 0, false), (50, .lload_n 2, 1, 2, 0, 0, false), (51, .lconst 0, 1, 0, 0, 0, false), (52, .lcmp, 1, 0, 0, 0, false), (53, .ifCond .eq 11, 3, 64, 0, 0, false), (56, .lload_n 2, 1, 2, 0, 0, false), (57, .ldc2_w 33, 3, 5, 0, 0, false), (60, .lcmp, 1, 0, 0, 0, false), (61, .ifCond .ne 23, 3, 84, 0, 0, false), (64, .lload_n 2, 1, 2, 0, 0, false), (65, .lconst 0, 1, 0, 0, 0, false), (66, .lcmp, 1, 0, 0, 0, false), (67, .ifCond .eq 11, 3, 78, 0, 0, false), (70, .lload_n 0, 1, 0, 0, 0, false), (71, .ldc2_w 9, 3, 6, 0, 0, false), (74, .lcmp, 1, 0, 0, 0, false), (75, .ifCond .eq 7, 3, 82, 0, 0, false), (78, .iconst 1, 1, 2, 0, 0, false), (79, .goto 4, 3, 83, 0, 0, false), (82, .iconst 0, 1, 1, 0, 0, false), (83, .ireturn, 1, 0, 0, 0, false), (84, .lload 5, 2, 5, 0, 0, false), (86, .lload_n 2, 1, 2, 0, 0, false), (87, .ldiv, 1, 0, 0, 0, false), (88, .lload_n 0, 1, 0, 0, 0, false), (89, .lcmp, 1, 0, 0, 0, false), (90, .ifCond .ne 7, 3, 97, 0, 0, false), (93, .iconst 1, 1, 2, 0, 0, false), (94, .goto 4, 3, 98, 0, 0, false), (97, .iconst 0, 1, 1, 0, 0, false), (98, .ireturn, 1, 0, 0, 0, false)]
def y_W_isTrue : MethodName := ⟨rc_W, "isTrue", "(JJIJ)Z"⟩
def md_W_isTrue : MD := (rc_W, y_W_isTrue, prog_5_method_8_code, 7, (some .boolean), [], [(0, 98, e26_0)])
abbrev n_W_upperHalf : Nat := 27
def e27_0 : List Ent := [(0, .iload_n 0, 1, 0, 0, 0, false), (1, .ifCond .ne 10, 3, 11, 0, 0, false), (4, .lload_n 1, 1, 1, 0, 0, false), (5, .lload_n 3, 1, 3, 0, 0, false), (6, .lmul, 1, 0, 0, 0, false), (7, .bipush 32, 2, 12, 0, 0, false), (9, .lshr, 1, 0, 0, 0, false), (10, .lreturn, 1, 0, 0, 0, false), (11, .lload_n 1, 1, 1, 0, 0, false), (12, .bipush 32, 2, 12, 0, 0, false), (14, .lshr, 1, 0, 0, 0, false), (15, .lstore 5, 2, 5, 0, 0, false), (17, .lload_n 1, 1, 1, 0, 0, false), (18, .ldc2_w 35, 3, 10, 0, 0, false), (21, .land, 1, 0, 0, 0, false), (22, .lstore 7, 2, 7, 0, 0, false), (24, .lload_n 3, 1, 3, 0, 0, false), (25, .bipush 32, 2, 12, 0, 0, false), (27, .lshr, 1, 0, 0, 0, false), (28, .lstore 9, 2, 9, 0, 0, false), (30, .lload_n 3, 1, 3, 0, 0, false), (31, .ldc2_w 35, 3, 10, 0, 0, false), (34, .land, 1, 0, 0, 0, false), (35, .lstore 11, 2, 11, 0, 0, false), (37, .lload 5, 2, 5, 0, 0, false), (39, .lload 11, 2, 11, 0, 0, false), (41, .lmul, 1, 0, 0, 0, false), (42, .lload 7, 2, 7, 0, 0, false), (44, .lload 11, 2, 11, 0, 0, false), (46, .lmul, 1, 0, 0, 0, false), (47, .bipush 32, 2, 12, 0, 0, false), (49, .lushr, 1, 0, 0, 0, false), (50, .ladd, 1, 0, 0, 0, false), (51, .lstore 13, 2, 13, 0, 0, false), (53, .lload 7, 2, 7, 0, 0, false), (55, .lload 9, 2, 9, 0, 0, false), (57, .lmul, 1, 0, 0, 0, false), (58, .lload 13, 2, 13, 0, 0, false), (60, .ldc2_w 35, 3, 10, 0, 0, false), (63, .land, 1, 0, 0, 0, false), (64, .ladd, 1, 0, 0, 0, false), (65, .lstore 15, 2, 15, 0, 0, false), (67, .lload 5, 2, 5, 0, 0, false), (69, .lload 9, 2, 9, 0, 0, false), (71, .lmul, 1, 0, 0, 0, false), (72, .lload 13, 2, 13, 0, 0, false), (74, .bipush 32, 2, 12, 0, 0, false), (76, .lshr, 1, 0, 0, 0, false), (77, .ladd, 1, 0, 0, 0, false), (78, .lload 15, 2, 15, 0, 0, false), (80, .bipush 32, 2, 12, 0, 0, false), (82, .lshr, 1, 0, 0, 0, false), (83, .ladd, 1, 0, 0, 0, false), (84, .lreturn, 1, 0, 0, 0, false)]
def y_W_upperHalf : MethodName := ⟨rc_W, "upperHalf", "(ZJJ)J"⟩
def md_W_upperHalf : MD := (rc_W, y_W_upperHalf, prog_5_method_9_code, 17, (some .long), [], [(0, 84, e27_0)])
abbrev n_W_averageOf : Nat := 28
def e28_0 : List Ent := [(0, .lload_n 0, 1, 0, 0, 0, false), (1, .lload_n 2, 1, 2, 0, 0, false), (2, .lxor, 1, 0, 0, 0, false), (3, .iconst 1, 1, 2, 0, 0, false), (4, .lshr, 1, 0, 0, 0, false), (5, .lstore 5, 2, 5, 0, 0, false), (7, .iload 4, 2, 4, 0, 0, false), (9, .ifCond .eq 12, 3, 21, 0, 0, false), (12, .lload_n 0, 1, 0, 0, 0, false), (13, .lload_n 2, 1, 2, 0, 0, false), (14, .lor, 1, 0, 0, 0, false), (15, .lload 5, 2, 5, 0, 0, false), (17, .lsub, 1, 0, 0, 0, false), (18, .goto 9, 3, 27, 0, 0, false), (21, .lload_n 0, 1, 0, 0, 0, false), (22, .lload_n 2, 1, 2, 0, 0, false), (23, .land, 1, 0, 0, 0, false), (24, .lload 5, 2, 5, 0, 0, false), (26, .ladd, 1, 0, 0, 0, false), (27, .lreturn, 1, 0, 0, 0, false)]
def y_W_averageOf : MethodName := ⟨rc_W, "averageOf", "(JJZ)J"⟩
def md_W_averageOf : MD := (rc_W, y_W_averageOf, prog_5_method_10_code, 7, (some .long), [], [(0, 27, e28_0)])
abbrev n_W_floorOf : Nat := 29
def e29_0 : List Ent := [(0, .lload_n 2, 1, 2, 0, 0, false), (1, .lconst 0, 1, 0, 0, 0, false), (2, .lcmp, 1, 0, 0, 0, false), (3, .ifCond .ne 7, 3, 10, 0, 0, false), (6, .lconst 0, 1, 0, 0, 0, false), (7, .goto 8, 3, 15, 0, 0, false), (10, .lload_n 0, 1, 0, 0, 0, false), (11, .lload_n 2, 1, 2, 0, 0, false), (12, .invokestatic 37, 3, 179, 2, 0, false), (15, .lreturn, 1, 0, 0, 0, false)]
def y_W_floorOf : MethodName := ⟨rc_W, "floorOf", "(JJ)J"⟩
def md_W_floorOf : MD := (rc_W, y_W_floorOf, prog_5_method_11_code, 4, (some .long), [], [(0, 15, e29_0)])
abbrev n_W_restOf : Nat := 30
def e30_0 : List Ent := [(0, .lload_n 2, 1, 2, 0, 0, false), (1, .lconst 0, 1, 0, 0, 0, false), (2, .lcmp, 1, 0, 0, 0, false), (3, .ifCond .ne 5, 3, 8, 0, 0, false), (6, .lconst 0, 1, 0, 0, 0, false), (7, .lreturn, 1, 0, 0, 0, false), (8, .lload_n 0, 1, 0, 0, 0, false), (9, .lload_n 2, 1, 2, 0, 0, false), (10, .lrem, 1, 0, 0, 0, false), (11, .lstore 4, 2, 4, 0, 0, false), (13, .lload 4, 2, 4, 0, 0, false), (15, .lconst 0, 1, 0, 0, 0, false), (16, .lcmp, 1, 0, 0, 0, false), (17, .ifCond .eq 36, 3, 53, 0, 0, false), (20, .lload 4, 2, 4, 0, 0, false), (22, .lconst 0, 1, 0, 0, 0, false), (23, .lcmp, 1, 0, 0, 0, false), (24, .ifCond .ge 7, 3, 31, 0, 0, false), (27, .iconst 1, 1, 2, 0, 0, false), (28, .goto 4, 3, 32, 0, 0, false), (31, .iconst 0, 1, 1, 0, 0, false), (32, .lload_n 2, 1, 2, 0, 0, false), (33, .lconst 0, 1, 0, 0, 0, false), (34, .lcmp, 1, 0, 0, 0, false), (35, .ifCond .ge 7, 3, 42, 0, 0, false), (38, .iconst 1, 1, 2, 0, 0, false), (39, .goto 4, 3, 43, 0, 0, false), (42, .iconst 0, 1, 1, 0, 0, false), (43, .if_icmp .eq 10, 3, 53, 0, 0, false), (46, .lload 4, 2, 4, 0, 0, false), (48, .lload_n 2, 1, 2, 0, 0, false), (49, .ladd, 1, 0, 0, 0, false), (50, .goto 5, 3, 55, 0, 0, false), (53, .lload 4, 2, 4, 0, 0, false), (55, .lreturn, 1, 0, 0, 0, false)]
def y_W_restOf : MethodName := ⟨rc_W, "restOf", "(JJ)J"⟩
def md_W_restOf : MD := (rc_W, y_W_restOf, prog_5_method_12_code, 6, (some .long), [], [(0, 55, e30_0)])
abbrev n_W_quotientTowards : Nat := 31
def e31_0 : List Ent := [(0, .lload_n 2, 1, 2, 0, 0, false), (1, .lconst 0, 1, 0, 0, 0, false), (2, .lcmp, 1, 0, 0, 0, false), (3, .ifCond .ne 7, 3, 10, 0, 0, false), (6, .lconst 0, 1, 0, 0, 0, false), (7, .goto 6, 3, 13, 0, 0, false), (10, .lload_n 0, 1, 0, 0, 0, false), (11, .lload_n 2, 1, 2, 0, 0, false), (12, .ldiv, 1, 0, 0, 0, false), (13, .lreturn, 1, 0, 0, 0, false)]
def y_W_quotientTowards : MethodName := ⟨rc_W, "quotientTowards", "(JJ)J"⟩
def md_W_quotientTowards : MD := (rc_W, y_W_quotientTowards, prog_5_method_13_code, 4, (some .long), [], [(0, 13, e31_0)])
abbrev n_W_restTowards : Nat := 32
def e32_0 : List Ent := [(0, .lload_n 2, 1, 2, 0, 0, false), (1, .lconst 0, 1, 0, 0, 0, false), (2, .lcmp, 1, 0, 0, 0, false), (3, .ifCond .ne 7, 3, 10, 0, 0, false), (6, .lconst 0, 1, 0, 0, 0, false), (7, .goto 6, 3, 13, 0, 0, false), (10, .lload_n 0, 1, 0, 0, 0, false), (11, .lload_n 2, 1, 2, 0, 0, false), (12, .lrem, 1, 0, 0, 0, false), (13, .lreturn, 1, 0, 0, 0, false)]
def y_W_restTowards : MethodName := ⟨rc_W, "restTowards", "(JJ)J"⟩
def md_W_restTowards : MD := (rc_W, y_W_restTowards, prog_5_method_14_code, 4, (some .long), [], [(0, 13, e32_0)])
abbrev n_W_chained : Nat := 33
def e33_0 : List Ent := [(0, .lload_n 0, 1, 0, 0, 0, false), (1, .iload_n 2, 1, 2, 0, 0, false), (2, .i2l, 1, 0, 0, 0, false), (3, .invokestatic 43, 3, 29, 2, 0, false), (6, .iload_n 3, 1, 3, 0, 0, false), (7, .i2l, 1, 0, 0, 0, false), (8, .invokestatic 43, 3, 29, 2, 0, false), (11, .iload 4, 2, 4, 0, 0, false), (13, .i2l, 1, 0, 0, 0, false), (14, .invokestatic 43, 3, 29, 2, 0, false), (17, .lreturn, 1, 0, 0, 0, false)]
def y_W_chained : MethodName := ⟨rc_W, "chained", "(JIII)J"⟩
def md_W_chained : MD := (rc_W, y_W_chained, prog_5_method_15_code, 5, (some .long), [], [(0, 17, e33_0)])
abbrev n_X_new : Nat := 34
def e34_0 : List Ent := [(0, .aload_n 0, 1, 0, 0, 0, false), (1, .invokespecial 1, 3, 0, 0, 7, false), (4, .aload_n 0, 1, 0, 0, 0, false), (5, .iconst 4, 1, 5, 0, 0, false), (6, .newarray .long, 2, 2, 0, 0, false), (8, .putfield 9, 3, 2, 0, 2, false), (11, .aload_n 0, 1, 0, 0, 0, false), (12, .iconst 4, 1, 5, 0, 0, false), (13, .newarray .long, 2, 2, 0, 0, false), (15, .putfield 13, 3, 2, 1, 2, false), (18, .aload_n 0, 1, 0, 0, 0, false), (19, .iconst 3, 1, 4, 0, 0, false), (20, .newarray .int, 2, 1, 0, 0, false), (22, .dup, 1, 0, 0, 0, false), (23, .iconst 0, 1, 1, 0, 0, false), (24, .bipush 7, 2, 13, 0, 0, false), (26, .iastore, 1, 0, 0, 0, false), (27, .dup, 1, 0, 0, 0, false), (28, .iconst 1, 1, 2, 0, 0, false), (29, .bipush 10, 2, 14, 0, 0, false), (31, .iastore, 1, 0, 0, 0, false), (32, .dup, 1, 0, 0, 0, false), (33, .iconst 2, 1, 3, 0, 0, false), (34, .bipush (-12), 2, 15, 0, 0, false), (36, .iastore, 1, 0, 0, 0, false), (37, .putfield 16, 3, 2, 2, 2, false), (40, .aload_n 0, 1, 0, 0, 0, false), (41, .bipush 12, 2, 16, 0, 0, false), (43, .newarray .int, 2, 1, 0, 0, false), (45, .putfield 20, 3, 2, 3, 2, false), (48, .return_, 1, 0, 0, 0, false)]
def y_X_new : MethodName := ⟨rc_X, "<init>", "()V"⟩
def md_X_new : MD := (rc_X, y_X_new, prog_1_method_1_code, 1, none, [], [(0, 48, e34_0)])
abbrev n_X_put : Nat := 35
def e35_0 : List Ent := [(0, .iload_n 3, 1, 3, 0, 0, false), (1, .i2l, 1, 0, 0, 0, false), (2, .bipush 32, 2, 12, 0, 0, false), (4, .lshl, 1, 0, 0, 0, false), (5, .iload 4, 2, 4, 0, 0, false), (7, .i2l, 1, 0, 0, 0, false), (8, .ldc2_w 25, 3, 10, 0, 0, false), (11, .land, 1, 0, 0, 0, false), (12, .lor, 1, 0, 0, 0, false), (13, .lstore 5, 2, 5, 0, 0, false), (15, .aload_n 0, 1, 0, 0, 0, false), (16, .iload_n 1, 1, 1, 0, 0, false), (17, .iload_n 2, 1, 2, 0, 0, false), (18, .iload_n 1, 1, 1, 0, 0, false), (19, .ifCond .eq 8, 3, 27, 0, 0, false), (22, .lload 5, 2, 5, 0, 0, false), (24, .goto 6, 3, 30, 0, 0, false), (27, .iload 4, 2, 4, 0, 0, false), (29, .i2l, 1, 0, 0, 0, false), (30, .invokevirtual 27, 3, 85, 3, 18, false), (33, .ireturn, 1, 0, 0, 0, false)]
def y_X_put : MethodName := ⟨rc_X, "put", "(ZIII)I"⟩
def md_X_put : MD := (rc_X, y_X_put, prog_1_method_2_code, 7, (some .int), [], [(0, 33, e35_0)])
abbrev n_X_copy : Nat := 36
def e36_0 : List Ent := [(0, .aload_n 0, 1, 0, 0, 0, false), (1, .iload_n 1, 1, 1, 0, 0, false), (2, .iload_n 2, 1, 2, 0, 0, false), (3, .aload_n 0, 1, 0, 0, 0, false), (4, .iload_n 1, 1, 1, 0, 0, false), (5, .iload_n 3, 1, 3, 0, 0, false), (6, .invokevirtual 31, 3, 81, 2, 18, false), (9, .invokevirtual 27, 3, 85, 3, 18, false), (12, .ireturn, 1, 0, 0, 0, false)]
def y_X_copy : MethodName := ⟨rc_X, "copy", "(ZII)I"⟩
def md_X_copy : MD := (rc_X, y_X_copy, prog_1_method_3_code, 4, (some .int), [], [(0, 12, e36_0)])
abbrev n_X_widen : Nat := 37
def e37_0 : List Ent := [(0, .aload_n 0, 1, 0, 0, 0, false), (1, .iconst 1, 1, 2, 0, 0, false), (2, .iload_n 1, 1, 1, 0, 0, false), (3, .aload_n 0, 1, 0, 0, 0, false), (4, .iconst 0, 1, 1, 0, 0, false), (5, .iload_n 2, 1, 2, 0, 0, false), (6, .invokevirtual 31, 3, 81, 2, 18, false), (9, .invokevirtual 27, 3, 85, 3, 18, false), (12, .ireturn, 1, 0, 0, 0, false)]
def y_X_widen : MethodName := ⟨rc_X, "widen", "(II)I"⟩
def md_X_widen : MD := (rc_X, y_X_widen, prog_1_method_4_code, 3, (some .int), [], [(0, 12, e37_0)])
abbrev n_X_narrow : Nat := 38
def e38_0 : List Ent := [(0, .iload_n 1, 1, 1, 0, 0, false), (1, .iconst 4, 1, 5, 0, 0, false), (2, .invokestatic 35, 3, 77, 2, 0, false), (5, .aload_n 0, 1, 0, 0, 0, false), (6, .iconst 1, 1, 2, 0, 0, false), (7, .iload_n 2, 1, 2, 0, 0, false), (8, .invokevirtual 31, 3, 81, 2, 18, false), (11, .lstore_n 3, 1, 3, 0, 0, false), (12, .iconst 0, 1, 1, 0, 0, false), (13, .lload_n 3, 1, 3, 0, 0, false), (14, .invokestatic 39, 3, 21, 2, 0, false), (17, .ifCond .ne 8, 3, 25, 0, 0, false), (20, .aload_n 0, 1, 0, 0, 0, false), (21, .invokevirtual 43, 3, 84, 0, 18, false), (24, .ireturn, 1, 0, 0, 0, false), (25, .aload_n 0, 1, 0, 0, 0, false), (26, .iconst 0, 1, 1, 0, 0, false), (27, .iload_n 1, 1, 1, 0, 0, false), (28, .lload_n 3, 1, 3, 0, 0, false), (29, .invokevirtual 27, 3, 85, 3, 18, false), (32, .ireturn, 1, 0, 0, 0, false)]
def y_X_narrow : MethodName := ⟨rc_X, "narrow", "(II)I"⟩
def md_X_narrow : MD := (rc_X, y_X_narrow, prog_1_method_5_code, 5, (some .int), [], [(0, 32, e38_0)])
abbrev n_X_exact : Nat := 39
def e39_0 : List Ent := [(0, .aload_n 0, 1, 0, 0, 0, false), (1, .iload_n 1, 1, 1, 0, 0, false), (2, .iload_n 2, 1, 2, 0, 0, false), (3, .invokevirtual 31, 3, 81, 2, 18, false), (6, .lstore 5, 2, 5, 0, 0, false), (8, .aload_n 0, 1, 0, 0, 0, false), (9, .iload_n 1, 1, 1, 0, 0, false), (10, .iload_n 3, 1, 3, 0, 0, false), (11, .invokevirtual 31, 3, 81, 2, 18, false), (14, .lstore 7, 2, 7, 0, 0, false), (16, .iload 4, 2, 4, 0, 0, false), (18, .iconst 2, 1, 3, 0, 0, false), (19, .invokestatic 47, 3, 78, 2, 0, false), (22, .aload_n 0, 1, 0, 0, 0, false), (23, .iload_n 1, 1, 1, 0, 0, false), (24, .iload_n 2, 1, 2, 0, 0, false), (25, .lload 5, 2, 5, 0, 0, false), (27, .lload 7, 2, 7, 0, 0, false), (29, .iload 4, 2, 4, 0, 0, false), (31, .invokevirtual 50, 3, 87, 5, 18, false), (34, .ireturn, 1, 0, 0, 0, false)]
def y_X_exact : MethodName := ⟨rc_X, "exact", "(ZIII)I"⟩
def md_X_exact : MD := (rc_X, y_X_exact, prog_1_method_6_code, 9, (some .int), [], [(0, 34, e39_0)])
abbrev n_X_fits : Nat := 40
def e40_0 : List Ent := [(0, .aload_n 0, 1, 0, 0, 0, false), (1, .iload_n 1, 1, 1, 0, 0, false), (2, .iload_n 2, 1, 2, 0, 0, false), (3, .invokevirtual 31, 3, 81, 2, 18, false), (6, .lstore 5, 2, 5, 0, 0, false), (8, .aload_n 0, 1, 0, 0, 0, false), (9, .iload_n 1, 1, 1, 0, 0, false), (10, .iload_n 3, 1, 3, 0, 0, false), (11, .invokevirtual 31, 3, 81, 2, 18, false), (14, .lstore 7, 2, 7, 0, 0, false), (16, .iload 4, 2, 4, 0, 0, false), (18, .iconst 2, 1, 3, 0, 0, false), (19, .invokestatic 47, 3, 78, 2, 0, false), (22, .iload_n 1, 1, 1, 0, 0, false), (23, .lload 5, 2, 5, 0, 0, false), (25, .lload 7, 2, 7, 0, 0, false), (27, .iload 4, 2, 4, 0, 0, false), (29, .invokestatic 54, 3, 25, 4, 0, false), (32, .ireturn, 1, 0, 0, 0, false)]
def y_X_fits : MethodName := ⟨rc_X, "fits", "(ZIII)Z"⟩
def md_X_fits : MD := (rc_X, y_X_fits, prog_1_method_7_code, 9, (some .boolean), [], [(0, 32, e40_0)])
abbrev n_X_alone : Nat := 41
def e41_0 : List Ent := [(0, .aload_n 0, 1, 0, 0, 0, false), (1, .iload_n 1, 1, 1, 0, 0, false), (2, .iload_n 2, 1, 2, 0, 0, false), (3, .invokevirtual 31, 3, 81, 2, 18, false), (6, .lstore 4, 2, 4, 0, 0, false), (8, .iload_n 3, 1, 3, 0, 0, false), (9, .iconst 2, 1, 3, 0, 0, false), (10, .invokestatic 47, 3, 78, 2, 0, false), (13, .iload_n 3, 1, 3, 0, 0, false), (14, .iconst 2, 1, 3, 0, 0, false), (15, .if_icmp .ne 14, 3, 29, 0, 0, false), (18, .aload_n 0, 1, 0, 0, 0, false), (19, .iload_n 1, 1, 1, 0, 0, false), (20, .iload_n 2, 1, 2, 0, 0, false), (21, .lconst 0, 1, 0, 0, 0, false), (22, .lload 4, 2, 4, 0, 0, false), (24, .iconst 1, 1, 2, 0, 0, false), (25, .invokevirtual 50, 3, 87, 5, 18, false), (28, .ireturn, 1, 0, 0, 0, false), (29, .aload_n 0, 1, 0, 0, 0, false), (30, .iload_n 1, 1, 1, 0, 0, false), (31, .iload_n 2, 1, 2, 0, 0, false), (32, .lload 4, 2, 4, 0, 0, false), (34, .lconst 1, 1, 1, 0, 0, false), (35, .iload_n 3, 1, 3, 0, 0, false), (36, .ifCond .ne 7, 3, 43, 0, 0, false), (39, .iconst 0, 1, 1, 0, 0, false), (40, .goto 4, 3, 44, 0, 0, false), (43, .iconst 1, 1, 2, 0, 0, false), (44, .invokevirtual 50, 3, 87, 5, 18, false), (47, .ireturn, 1, 0, 0, 0, false)]
def y_X_alone : MethodName := ⟨rc_X, "alone", "(ZII)I"⟩
def md_X_alone : MD := (rc_X, y_X_alone, prog_1_method_8_code, 6, (some .int), [], [(0, 47, e41_0)])
abbrev n_X_timesInt : Nat := 42
def e42_0 : List Ent := [(0, .aload_n 0, 1, 0, 0, 0, false), (1, .iconst 1, 1, 2, 0, 0, false), (2, .iload_n 1, 1, 1, 0, 0, false), (3, .aload_n 0, 1, 0, 0, 0, false), (4, .iconst 1, 1, 2, 0, 0, false), (5, .iload_n 1, 1, 1, 0, 0, false), (6, .invokevirtual 31, 3, 81, 2, 18, false), (9, .aload_n 0, 1, 0, 0, 0, false), (10, .iconst 0, 1, 1, 0, 0, false), (11, .iload_n 2, 1, 2, 0, 0, false), (12, .invokevirtual 31, 3, 81, 2, 18, false), (15, .iconst 2, 1, 3, 0, 0, false), (16, .invokevirtual 50, 3, 87, 5, 18, false), (19, .ireturn, 1, 0, 0, 0, false)]
def y_X_timesInt : MethodName := ⟨rc_X, "timesInt", "(II)I"⟩
def md_X_timesInt : MD := (rc_X, y_X_timesInt, prog_1_method_9_code, 3, (some .int), [], [(0, 19, e42_0)])
abbrev n_X_full : Nat := 43
def e43_0 : List Ent := [(0, .aload_n 0, 1, 0, 0, 0, false), (1, .iconst 1, 1, 2, 0, 0, false), (2, .iload_n 1, 1, 1, 0, 0, false), (3, .aload_n 0, 1, 0, 0, 0, false), (4, .iconst 0, 1, 1, 0, 0, false), (5, .iload_n 2, 1, 2, 0, 0, false), (6, .invokevirtual 31, 3, 81, 2, 18, false), (9, .aload_n 0, 1, 0, 0, 0, false), (10, .iconst 0, 1, 1, 0, 0, false), (11, .iload_n 3, 1, 3, 0, 0, false), (12, .invokevirtual 31, 3, 81, 2, 18, false), (15, .lmul, 1, 0, 0, 0, false), (16, .invokevirtual 27, 3, 85, 3, 18, false), (19, .ireturn, 1, 0, 0, 0, false)]
def y_X_full : MethodName := ⟨rc_X, "full", "(III)I"⟩
def md_X_full : MD := (rc_X, y_X_full, prog_1_method_10_code, 4, (some .int), [], [(0, 19, e43_0)])
abbrev n_X_high : Nat := 44
def e44_0 : List Ent := [(0, .aload_n 0, 1, 0, 0, 0, false), (1, .iconst 1, 1, 2, 0, 0, false), (2, .iload_n 1, 1, 1, 0, 0, false), (3, .iconst 1, 1, 2, 0, 0, false), (4, .aload_n 0, 1, 0, 0, 0, false), (5, .iconst 1, 1, 2, 0, 0, false), (6, .iload_n 2, 1, 2, 0, 0, false), (7, .invokevirtual 31, 3, 81, 2, 18, false), (10, .aload_n 0, 1, 0, 0, 0, false), (11, .iconst 1, 1, 2, 0, 0, false), (12, .iload_n 3, 1, 3, 0, 0, false), (13, .invokevirtual 31, 3, 81, 2, 18, false), (16, .invokestatic 58, 3, 27, 3, 0, false), (19, .invokevirtual 27, 3, 85, 3, 18, false), (22, .ireturn, 1, 0, 0, 0, false)]
def y_X_high : MethodName := ⟨rc_X, "high", "(III)I"⟩
def md_X_high : MD := (rc_X, y_X_high, prog_1_method_11_code, 4, (some .int), [], [(0, 22, e44_0)])
abbrev n_X_round : Nat := 45
def e45_0 : List Ent := [(0, .aload_n 0, 1, 0, 0, 0, false), (1, .iload_n 1, 1, 1, 0, 0, false), (2, .iload_n 2, 1, 2, 0, 0, false), (3, .invokevirtual 31, 3, 81, 2, 18, false), (6, .lstore 5, 2, 5, 0, 0, false), (8, .aload_n 0, 1, 0, 0, 0, false), (9, .iload_n 1, 1, 1, 0, 0, false), (10, .iload_n 3, 1, 3, 0, 0, false), (11, .invokevirtual 31, 3, 81, 2, 18, false), (14, .lstore 7, 2, 7, 0, 0, false), (16, .iload 4, 2, 4, 0, 0, false), (18, .iconst 2, 1, 3, 0, 0, false), (19, .invokestatic 47, 3, 78, 2, 0, false), (22, .aload_n 0, 1, 0, 0, 0, false), (23, .iload_n 1, 1, 1, 0, 0, false), (24, .iload_n 2, 1, 2, 0, 0, false), (25, .lload 5, 2, 5, 0, 0, false), (27, .lload 7, 2, 7, 0, 0, false), (29, .iload 4, 2, 4, 0, 0, false), (31, .invokestatic 62, 3, 24, 3, 0, false), (34, .invokevirtual 66, 3, 86, 3, 18, false), (37, .ireturn, 1, 0, 0, 0, false)]
def y_X_round : MethodName := ⟨rc_X, "round", "(ZIII)I"⟩
def md_X_round : MD := (rc_X, y_X_round, prog_1_method_12_code, 9, (some .int), [], [(0, 37, e45_0)])
abbrev n_X_abs : Nat := 46
def e46_0 : List Ent := [(0, .aload_n 0, 1, 0, 0, 0, false), (1, .iload_n 1, 1, 1, 0, 0, false), (2, .iload_n 2, 1, 2, 0, 0, false), (3, .invokevirtual 31, 3, 81, 2, 18, false), (6, .lstore_n 3, 1, 3, 0, 0, false), (7, .aload_n 0, 1, 0, 0, 0, false), (8, .iload_n 1, 1, 1, 0, 0, false), (9, .iload_n 2, 1, 2, 0, 0, false), (10, .lload_n 3, 1, 3, 0, 0, false), (11, .lconst 0, 1, 0, 0, 0, false), (12, .lcmp, 1, 0, 0, 0, false), (13, .ifCond .ge 8, 3, 21, 0, 0, false), (16, .lload_n 3, 1, 3, 0, 0, false), (17, .lneg, 1, 0, 0, 0, false), (18, .goto 4, 3, 22, 0, 0, false), (21, .lload_n 3, 1, 3, 0, 0, false), (22, .invokevirtual 66, 3, 86, 3, 18, false), (25, .ireturn, 1, 0, 0, 0, false)]
def y_X_abs : MethodName := ⟨rc_X, "abs", "(ZI)I"⟩
def md_X_abs : MD := (rc_X, y_X_abs, prog_1_method_13_code, 5, (some .int), [], [(0, 25, e46_0)])
abbrev n_X_extreme : Nat := 47
def e47_0 : List Ent := [(0, .aload_n 0, 1, 0, 0, 0, false), (1, .iload_n 1, 1, 1, 0, 0, false), (2, .iload_n 2, 1, 2, 0, 0, false), (3, .invokevirtual 31, 3, 81, 2, 18, false), (6, .lstore 5, 2, 5, 0, 0, false), (8, .aload_n 0, 1, 0, 0, 0, false), (9, .iload_n 1, 1, 1, 0, 0, false), (10, .iload_n 3, 1, 3, 0, 0, false), (11, .invokevirtual 31, 3, 81, 2, 18, false), (14, .lstore 7, 2, 7, 0, 0, false), (16, .iload 4, 2, 4, 0, 0, false), (18, .ifCond .eq 13, 3, 31, 0, 0, false), (21, .lload 5, 2, 5, 0, 0, false), (23, .lload 7, 2, 7, 0, 0, false), (25, .invokestatic 69, 3, 182, 2, 0, false), (28, .goto 10, 3, 38, 0, 0, false), (31, .lload 5, 2, 5, 0, 0, false), (33, .lload 7, 2, 7, 0, 0, false), (35, .invokestatic 75, 3, 184, 2, 0, false), (38, .lstore 9, 2, 9, 0, 0, false), (40, .aload_n 0, 1, 0, 0, 0, false), (41, .iload_n 1, 1, 1, 0, 0, false), (42, .iload_n 2, 1, 2, 0, 0, false), (43, .lload 9, 2, 9, 0, 0, false), (45, .invokevirtual 27, 3, 85, 3, 18, false), (48, .pop, 1, 0, 0, 0, false), (49, .lload 9, 2, 9, 0, 0, false), (51, .lload 5, 2, 5, 0, 0, false), (53, .lcmp, 1, 0, 0, 0, false), (54, .ifCond .ne 7, 3, 61, 0, 0, false), (57, .iconst 0, 1, 1, 0, 0, false), (58, .goto 4, 3, 62, 0, 0, false), (61, .iconst 1, 1, 2, 0, 0, false), (62, .ireturn, 1, 0, 0, 0, false)]
def y_X_extreme : MethodName := ⟨rc_X, "extreme", "(ZIIZ)I"⟩
def md_X_extreme : MD := (rc_X, y_X_extreme, prog_1_method_14_code, 11, (some .int), [], [(0, 62, e47_0)])
abbrev n_X_floor : Nat := 48
def e48_0 : List Ent := [(0, .aload_n 0, 1, 0, 0, 0, false), (1, .iload_n 1, 1, 1, 0, 0, false), (2, .iload_n 2, 1, 2, 0, 0, false), (3, .aload_n 0, 1, 0, 0, 0, false), (4, .iload_n 1, 1, 1, 0, 0, false), (5, .iload_n 3, 1, 3, 0, 0, false), (6, .invokevirtual 31, 3, 81, 2, 18, false), (9, .iload 4, 2, 4, 0, 0, false), (11, .invokevirtual 78, 3, 88, 4, 18, false), (14, .ireturn, 1, 0, 0, 0, false)]
def y_X_floor : MethodName := ⟨rc_X, "floo\x72", "(ZIIZ)I"⟩
def md_X_floor : MD := (rc_X, y_X_floor, prog_1_method_15_code, 5, (some .int), [], [(0, 14, e48_0)])
abbrev n_X_floorInt : Nat := 49
def e49_0 : List Ent := [(0, .aload_n 0, 1, 0, 0, 0, false), (1, .iconst 1, 1, 2, 0, 0, false), (2, .iload_n 1, 1, 1, 0, 0, false), (3, .aload_n 0, 1, 0, 0, 0, false), (4, .iconst 0, 1, 1, 0, 0, false), (5, .iload_n 2, 1, 2, 0, 0, false), (6, .invokevirtual 31, 3, 81, 2, 18, false), (9, .iload_n 3, 1, 3, 0, 0, false), (10, .invokevirtual 78, 3, 88, 4, 18, false), (13, .ireturn, 1, 0, 0, 0, false)]
def y_X_floorInt : MethodName := ⟨rc_X, "floorInt", "(IIZ)I"⟩
def md_X_floorInt : MD := (rc_X, y_X_floorInt, prog_1_method_16_code, 4, (some .int), [], [(0, 13, e49_0)])
abbrev n_X_towards : Nat := 50
def e50_0 : List Ent := [(0, .aload_n 0, 1, 0, 0, 0, false), (1, .iload_n 1, 1, 1, 0, 0, false), (2, .iload_n 2, 1, 2, 0, 0, false), (3, .invokevirtual 31, 3, 81, 2, 18, false), (6, .lstore 5, 2, 5, 0, 0, false), (8, .aload_n 0, 1, 0, 0, 0, false), (9, .iload_n 1, 1, 1, 0, 0, false), (10, .iload_n 3, 1, 3, 0, 0, false), (11, .invokevirtual 31, 3, 81, 2, 18, false), (14, .lstore 7, 2, 7, 0, 0, false), (16, .lload 7, 2, 7, 0, 0, false), (18, .lconst 0, 1, 0, 0, 0, false), (19, .lcmp, 1, 0, 0, 0, false), (20, .ifCond .ne 8, 3, 28, 0, 0, false), (23, .aload_n 0, 1, 0, 0, 0, false), (24, .invokevirtual 43, 3, 84, 0, 18, false), (27, .ireturn, 1, 0, 0, 0, false), (28, .aload_n 0, 1, 0, 0, 0, false), (29, .iload_n 1, 1, 1, 0, 0, false), (30, .iload_n 2, 1, 2, 0, 0, false), (31, .iload 4, 2, 4, 0, 0, false), (33, .ifCond .eq 13, 3, 46, 0, 0, false), (36, .lload 5, 2, 5, 0, 0, false), (38, .lload 7, 2, 7, 0, 0, false), (40, .invokestatic 82, 3, 32, 2, 0, false), (43, .goto 10, 3, 53, 0, 0, false), (46, .lload 5, 2, 5, 0, 0, false), (48, .lload 7, 2, 7, 0, 0, false), (50, .invokestatic 85, 3, 31, 2, 0, false), (53, .invokevirtual 66, 3, 86, 3, 18, false), (56, .ireturn, 1, 0, 0, 0, false)]
def y_X_towards : MethodName := ⟨rc_X, "towards", "(ZIIZ)I"⟩
def md_X_towards : MD := (rc_X, y_X_towards, prog_1_method_17_code, 9, (some .int), [], [(0, 56, e50_0)])
abbrev n_X_average : Nat := 51
def e51_0 : List Ent := [(0, .aload_n 0, 1, 0, 0, 0, false), (1, .iload_n 1, 1, 1, 0, 0, false), (2, .iload_n 2, 1, 2, 0, 0, false), (3, .aload_n 0, 1, 0, 0, 0, false), (4, .iload_n 1, 1, 1, 0, 0, false), (5, .iload_n 2, 1, 2, 0, 0, false), (6, .invokevirtual 31, 3, 81, 2, 18, false), (9, .aload_n 0, 1, 0, 0, 0, false), (10, .iload_n 1, 1, 1, 0, 0, false), (11, .iload_n 3, 1, 3, 0, 0, false), (12, .invokevirtual 31, 3, 81, 2, 18, false), (15, .iload 4, 2, 4, 0, 0, false), (17, .invokestatic 88, 3, 28, 3, 0, false), (20, .invokevirtual 27, 3, 85, 3, 18, false), (23, .ireturn, 1, 0, 0, 0, false)]
def y_X_average : MethodName := ⟨rc_X, "average", "(ZIIZ)I"⟩
def md_X_average : MD := (rc_X, y_X_average, prog_1_method_18_code, 5, (some .int), [], [(0, 23, e51_0)])
abbrev n_X_chain : Nat := 52
def e52_0 : List Ent := [(0, .aload_n 0, 1, 0, 0, 0, false), (1, .iconst 1, 1, 2, 0, 0, false), (2, .iload_n 1, 1, 1, 0, 0, false), (3, .invokevirtual 31, 3, 81, 2, 18, false), (6, .lstore 5, 2, 5, 0, 0, false), (8, .iload_n 2, 1, 2, 0, 0, false), (9, .iload_n 3, 1, 3, 0, 0, false), (10, .iload 4, 2, 4, 0, 0, false), (12, .invokestatic 92, 3, 80, 3, 0, false), (15, .aload_n 0, 1, 0, 0, 0, false), (16, .iconst 1, 1, 2, 0, 0, false), (17, .iload_n 1, 1, 1, 0, 0, false), (18, .lload 5, 2, 5, 0, 0, false), (20, .iload_n 2, 1, 2, 0, 0, false), (21, .iload_n 3, 1, 3, 0, 0, false), (22, .iload 4, 2, 4, 0, 0, false), (24, .invokestatic 96, 3, 33, 4, 0, false), (27, .invokevirtual 27, 3, 85, 3, 18, false), (30, .ireturn, 1, 0, 0, 0, false)]
def y_X_chain : MethodName := ⟨rc_X, "chain", "(IIII)I"⟩
def md_X_chain : MD := (rc_X, y_X_chain, prog_1_method_19_code, 7, (some .int), [], [(0, 30, e52_0)])
abbrev n_X_atOnce : Nat := 53
def e53_0 : List Ent := [(0, .aload_n 0, 1, 0, 0, 0, false), (1, .iconst 1, 1, 2, 0, 0, false), (2, .iload_n 1, 1, 1, 0, 0, false), (3, .invokevirtual 31, 3, 81, 2, 18, false), (6, .lstore 5, 2, 5, 0, 0, false), (8, .iload_n 2, 1, 2, 0, 0, false), (9, .iload_n 3, 1, 3, 0, 0, false), (10, .iload 4, 2, 4, 0, 0, false), (12, .invokestatic 92, 3, 80, 3, 0, false), (15, .iload_n 2, 1, 2, 0, 0, false), (16, .i2l, 1, 0, 0, 0, false), (17, .iload_n 3, 1, 3, 0, 0, false), (18, .i2l, 1, 0, 0, 0, false), (19, .lmul, 1, 0, 0, 0, false), (20, .lstore 7, 2, 7, 0, 0, false), (22, .iconst 1, 1, 2, 0, 0, false), (23, .lload 7, 2, 7, 0, 0, false), (25, .iload 4, 2, 4, 0, 0, false), (27, .i2l, 1, 0, 0, 0, false), (28, .iconst 2, 1, 3, 0, 0, false), (29, .invokestatic 54, 3, 25, 4, 0, false), (32, .ifCond .ne 8, 3, 40, 0, 0, false), (35, .aload_n 0, 1, 0, 0, 0, false), (36, .invokevirtual 43, 3, 84, 0, 18, false), (39, .ireturn, 1, 0, 0, 0, false), (40, .aload_n 0, 1, 0, 0, 0, false), (41, .iconst 1, 1, 2, 0, 0, false), (42, .iload_n 1, 1, 1, 0, 0, false), (43, .lload 5, 2, 5, 0, 0, false), (45, .lload 7, 2, 7, 0, 0, false), (47, .iload 4, 2, 4, 0, 0, false), (49, .i2l, 1, 0, 0, 0, false), (50, .lmul, 1, 0, 0, 0, false), (51, .invokestatic 100, 3, 29, 2, 0, false), (54, .invokevirtual 27, 3, 85, 3, 18, false), (57, .ireturn, 1, 0, 0, 0, false)]
def y_X_atOnce : MethodName := ⟨rc_X, "atOnce", "(IIII)I"⟩
def md_X_atOnce : MD := (rc_X, y_X_atOnce, prog_1_method_20_code, 9, (some .int), [], [(0, 57, e53_0)])
abbrev n_X_distance : Nat := 54
def e54_0 : List Ent := [(0, .aload_n 0, 1, 0, 0, 0, false), (1, .iload_n 1, 1, 1, 0, 0, false), (2, .iload_n 2, 1, 2, 0, 0, false), (3, .invokevirtual 31, 3, 81, 2, 18, false), (6, .lstore 4, 2, 4, 0, 0, false), (8, .aload_n 0, 1, 0, 0, 0, false), (9, .iload_n 1, 1, 1, 0, 0, false), (10, .iload_n 3, 1, 3, 0, 0, false), (11, .invokevirtual 31, 3, 81, 2, 18, false), (14, .lstore 6, 2, 6, 0, 0, false), (16, .lload 4, 2, 4, 0, 0, false), (18, .lload 6, 2, 6, 0, 0, false), (20, .invokestatic 69, 3, 182, 2, 0, false), (23, .lload 4, 2, 4, 0, 0, false), (25, .lload 6, 2, 6, 0, 0, false), (27, .invokestatic 75, 3, 184, 2, 0, false), (30, .lsub, 1, 0, 0, 0, false), (31, .invokestatic 103, 3, 1, 1, 0, false), (34, .areturn, 1, 0, 0, 0, false)]
def y_X_distance : MethodName := ⟨rc_X, "distance", "(ZII)Ljava/lang/String;"⟩
def md_X_distance : MD := (rc_X, y_X_distance, prog_1_method_21_code, 8, (some (.object "java/lang/String")), [], [(0, 34, e54_0)])
abbrev n_X_compare : Nat := 55
def e55_0 : List Ent := [(0, .aload_n 0, 1, 0, 0, 0, false), (1, .iload_n 1, 1, 1, 0, 0, false), (2, .iload_n 2, 1, 2, 0, 0, false), (3, .invokevirtual 31, 3, 81, 2, 18, false), (6, .aload_n 0, 1, 0, 0, 0, false), (7, .iload_n 1, 1, 1, 0, 0, false), (8, .iload_n 3, 1, 3, 0, 0, false), (9, .invokevirtual 31, 3, 81, 2, 18, false), (12, .invokestatic 109, 3, 20, 2, 0, false), (15, .ireturn, 1, 0, 0, 0, false)]
def y_X_compare : MethodName := ⟨rc_X, "compare", "(ZII)I"⟩
def md_X_compare : MD := (rc_X, y_X_compare, prog_1_method_22_code, 4, (some .int), [], [(0, 15, e55_0)])
abbrev n_X_text : Nat := 56
def e56_0 : List Ent := [(0, .aload_n 0, 1, 0, 0, 0, false), (1, .iload_n 1, 1, 1, 0, 0, false), (2, .iload_n 2, 1, 2, 0, 0, false), (3, .invokevirtual 31, 3, 81, 2, 18, false), (6, .invokestatic 113, 3, 0, 1, 0, false), (9, .areturn, 1, 0, 0, 0, false)]
def y_X_text : MethodName := ⟨rc_X, "text", "(ZI)Ljava/lang/String;"⟩
def md_X_text : MD := (rc_X, y_X_text, prog_1_method_23_code, 3, (some (.object "java/lang/String")), [], [(0, 9, e56_0)])
abbrev n_X_ofNumber : Nat := 57
def e57_0 : List Ent := [(0, .aload_n 0, 1, 0, 0, 0, false), (1, .iload_n 1, 1, 1, 0, 0, false), (2, .iload_n 2, 1, 2, 0, 0, false), (3, .invokevirtual 31, 3, 81, 2, 18, false), (6, .lstore 4, 2, 4, 0, 0, false), (8, .iload_n 3, 1, 3, 0, 0, false), (9, .iconst 4, 1, 5, 0, 0, false), (10, .invokestatic 47, 3, 78, 2, 0, false), (13, .iload_n 3, 1, 3, 0, 0, false), (14, .tableswitch 55 0 3 #[30, 37, 41, 48], 30, 69, 0, 0, false), (44, .lload 4, 2, 4, 0, 0, false), (46, .lconst 0, 1, 0, 0, 0, false), (47, .invokestatic 109, 3, 20, 2, 0, false), (50, .ireturn, 1, 0, 0, 0, false), (51, .lload 4, 2, 4, 0, 0, false), (53, .l2i, 1, 0, 0, 0, false), (54, .ireturn, 1, 0, 0, 0, false), (55, .lload 4, 2, 4, 0, 0, false), (57, .bipush 32, 2, 12, 0, 0, false), (59, .lshr, 1, 0, 0, 0, false), (60, .l2i, 1, 0, 0, 0, false), (61, .ireturn, 1, 0, 0, 0, false), (62, .iload_n 1, 1, 1, 0, 0, false), (63, .lload 4, 2, 4, 0, 0, false), (65, .invokestatic 116, 3, 23, 2, 0, false), (68, .ireturn, 1, 0, 0, 0, false), (69, .lload 4, 2, 4, 0, 0, false), (71, .invokestatic 120, 3, 3, 1, 0, false), (74, .ireturn, 1, 0, 0, 0, false)]
def y_X_ofNumber : MethodName := ⟨rc_X, "ofNumbe\x72", "(ZII)I"⟩
def md_X_ofNumber : MD := (rc_X, y_X_ofNumber, prog_1_method_24_code, 6, (some .int), [], [(0, 74, e57_0)])
abbrev n_X_rest : Nat := 58
def e58_0 : List Ent := [(0, .aload_n 0, 1, 0, 0, 0, false), (1, .iload_n 1, 1, 1, 0, 0, false), (2, .iload_n 2, 1, 2, 0, 0, false), (3, .invokevirtual 31, 3, 81, 2, 18, false), (6, .lstore 4, 2, 4, 0, 0, false), (8, .iload_n 3, 1, 3, 0, 0, false), (9, .invokestatic 124, 3, 79, 1, 0, false), (12, .lload 4, 2, 4, 0, 0, false), (14, .iload_n 3, 1, 3, 0, 0, false), (15, .i2l, 1, 0, 0, 0, false), (16, .invokestatic 128, 3, 30, 2, 0, false), (19, .l2i, 1, 0, 0, 0, false), (20, .ireturn, 1, 0, 0, 0, false)]
def y_X_rest : MethodName := ⟨rc_X, "rest", "(ZII)I"⟩
def md_X_rest : MD := (rc_X, y_X_rest, prog_1_method_25_code, 6, (some .int), [], [(0, 20, e58_0)])
abbrev n_X_quotient : Nat := 59
def e59_0 : List Ent := [(0, .aload_n 0, 1, 0, 0, 0, false), (1, .iload_n 1, 1, 1, 0, 0, false), (2, .iload_n 2, 1, 2, 0, 0, false), (3, .invokevirtual 31, 3, 81, 2, 18, false), (6, .lstore 4, 2, 4, 0, 0, false), (8, .iload_n 3, 1, 3, 0, 0, false), (9, .invokestatic 124, 3, 79, 1, 0, false), (12, .iload_n 1, 1, 1, 0, 0, false), (13, .lload 4, 2, 4, 0, 0, false), (15, .iload_n 3, 1, 3, 0, 0, false), (16, .i2l, 1, 0, 0, 0, false), (17, .invokestatic 100, 3, 29, 2, 0, false), (20, .invokestatic 131, 3, 22, 2, 0, false), (23, .invokestatic 113, 3, 0, 1, 0, false), (26, .areturn, 1, 0, 0, 0, false)]
def y_X_quotient : MethodName := ⟨rc_X, "quotient", "(ZII)Ljava/lang/String;"⟩
def md_X_quotient : MD := (rc_X, y_X_quotient, prog_1_method_26_code, 6, (some (.object "java/lang/String")), [], [(0, 26, e59_0)])
abbrev n_X_modulus : Nat := 60
def e60_0 : List Ent := [(0, .aload_n 0, 1, 0, 0, 0, false), (1, .iload_n 1, 1, 1, 0, 0, false), (2, .invokevirtual 135, 3, 82, 1, 18, false), (5, .istore_n 3, 1, 3, 0, 0, false), (6, .iload_n 2, 1, 2, 0, 0, false), (7, .invokestatic 124, 3, 79, 1, 0, false), (10, .aload_n 0, 1, 0, 0, 0, false), (11, .getfield 16, 3, 2, 2, 0, false), (14, .iload_n 1, 1, 1, 0, 0, false), (15, .iload_n 2, 1, 2, 0, 0, false), (16, .iastore, 1, 0, 0, 0, false), (17, .iconst 0, 1, 1, 0, 0, false), (18, .istore 4, 2, 4, 0, 0, false), (20, .iload 4, 2, 4, 0, 0, true), (22, .iconst 4, 1, 5, 0, 0, false), (23, .if_icmp .ge 25, 3, 48, 0, 0, false), (26, .aload_n 0, 1, 0, 0, 0, false), (27, .iload_n 1, 1, 1, 0, 0, false), (28, .iload 4, 2, 4, 0, 0, false), (30, .aload_n 0, 1, 0, 0, 0, false), (31, .iload_n 1, 1, 1, 0, 0, false), (32, .iload 4, 2, 4, 0, 0, false), (34, .invokevirtual 139, 3, 83, 2, 18, false), (37, .i2l, 1, 0, 0, 0, false), (38, .invokevirtual 143, 3, 89, 3, 18, false), (41, .pop, 1, 0, 0, 0, false), (42, .iinc 4 1, 3, 4, 2, 0, false), (45, .goto (-25), 3, 20, 0, 0, false), (48, .iload_n 3, 1, 3, 0, 0, false), (49, .ireturn, 1, 0, 0, 0, false)]
def y_X_modulus : MethodName := ⟨rc_X, "modulus", "(II)I"⟩
def md_X_modulus : MD := (rc_X, y_X_modulus, prog_1_method_27_code, 5, (some .int), [], [(0, 49, e60_0)])
abbrev n_X_bring : Nat := 61
def e61_0 : List Ent := [(0, .aload_n 0, 1, 0, 0, 0, false), (1, .iload_n 1, 1, 1, 0, 0, false), (2, .iload_n 2, 1, 2, 0, 0, false), (3, .aload_n 0, 1, 0, 0, 0, false), (4, .iload_n 3, 1, 3, 0, 0, false), (5, .iload 4, 2, 4, 0, 0, false), (7, .invokevirtual 31, 3, 81, 2, 18, false), (10, .invokevirtual 143, 3, 89, 3, 18, false), (13, .ireturn, 1, 0, 0, 0, false)]
def y_X_bring : MethodName := ⟨rc_X, "bring", "(IIZI)I"⟩
def md_X_bring : MD := (rc_X, y_X_bring, prog_1_method_28_code, 5, (some .int), [], [(0, 13, e61_0)])
abbrev n_X_lift : Nat := 62
def e62_0 : List Ent := [(0, .aload_n 0, 1, 0, 0, 0, false), (1, .iload_n 3, 1, 3, 0, 0, false), (2, .iload 4, 2, 4, 0, 0, false), (4, .aload_n 0, 1, 0, 0, 0, false), (5, .iload_n 1, 1, 1, 0, 0, false), (6, .iload_n 2, 1, 2, 0, 0, false), (7, .invokevirtual 139, 3, 83, 2, 18, false), (10, .i2l, 1, 0, 0, 0, false), (11, .invokevirtual 27, 3, 85, 3, 18, false), (14, .ireturn, 1, 0, 0, 0, false)]
def y_X_lift : MethodName := ⟨rc_X, "lift", "(IIZI)I"⟩
def md_X_lift : MD := (rc_X, y_X_lift, prog_1_method_29_code, 5, (some .int), [], [(0, 14, e62_0)])
abbrev n_X_plus : Nat := 63
def e63_0 : List Ent := [(0, .aload_n 0, 1, 0, 0, 0, false), (1, .iload_n 1, 1, 1, 0, 0, false), (2, .iload_n 2, 1, 2, 0, 0, false), (3, .invokevirtual 139, 3, 83, 2, 18, false), (6, .i2l, 1, 0, 0, 0, false), (7, .lstore 5, 2, 5, 0, 0, false), (9, .aload_n 0, 1, 0, 0, 0, false), (10, .iload_n 1, 1, 1, 0, 0, false), (11, .iload_n 3, 1, 3, 0, 0, false), (12, .invokevirtual 139, 3, 83, 2, 18, false), (15, .i2l, 1, 0, 0, 0, false), (16, .lstore 7, 2, 7, 0, 0, false), (18, .aload_n 0, 1, 0, 0, 0, false), (19, .iload_n 1, 1, 1, 0, 0, false), (20, .iload_n 2, 1, 2, 0, 0, false), (21, .iload 4, 2, 4, 0, 0, false), (23, .ifCond .eq 11, 3, 34, 0, 0, false), (26, .lload 5, 2, 5, 0, 0, false), (28, .lload 7, 2, 7, 0, 0, false), (30, .lsub, 1, 0, 0, 0, false), (31, .goto 8, 3, 39, 0, 0, false), (34, .lload 5, 2, 5, 0, 0, false), (36, .lload 7, 2, 7, 0, 0, false), (38, .ladd, 1, 0, 0, 0, false), (39, .invokevirtual 143, 3, 89, 3, 18, false), (42, .ireturn, 1, 0, 0, 0, false)]
def y_X_plus : MethodName := ⟨rc_X, "plus", "(IIIZ)I"⟩
def md_X_plus : MD := (rc_X, y_X_plus, prog_1_method_30_code, 9, (some .int), [], [(0, 42, e63_0)])
abbrev n_X_times : Nat := 64
def e64_0 : List Ent := [(0, .aload_n 0, 1, 0, 0, 0, false), (1, .iload_n 1, 1, 1, 0, 0, false), (2, .iload_n 2, 1, 2, 0, 0, false), (3, .invokevirtual 139, 3, 83, 2, 18, false), (6, .i2l, 1, 0, 0, 0, false), (7, .lstore 4, 2, 4, 0, 0, false), (9, .aload_n 0, 1, 0, 0, 0, false), (10, .iload_n 1, 1, 1, 0, 0, false), (11, .iload_n 3, 1, 3, 0, 0, false), (12, .invokevirtual 139, 3, 83, 2, 18, false), (15, .i2l, 1, 0, 0, 0, false), (16, .lstore 6, 2, 6, 0, 0, false), (18, .aload_n 0, 1, 0, 0, 0, false), (19, .iload_n 1, 1, 1, 0, 0, false), (20, .iload_n 2, 1, 2, 0, 0, false), (21, .lload 4, 2, 4, 0, 0, false), (23, .lload 6, 2, 6, 0, 0, false), (25, .lmul, 1, 0, 0, 0, false), (26, .invokevirtual 143, 3, 89, 3, 18, false), (29, .ireturn, 1, 0, 0, 0, false)]
def y_X_times : MethodName := ⟨rc_X, "times", "(III)I"⟩
def md_X_times : MD := (rc_X, y_X_times, prog_1_method_31_code, 8, (some .int), [], [(0, 29, e64_0)])
abbrev n_X_power : Nat := 65
def e65_0 : List Ent := [(0, .aload_n 0, 1, 0, 0, 0, false), (1, .iload_n 1, 1, 1, 0, 0, false), (2, .iload_n 2, 1, 2, 0, 0, false), (3, .invokevirtual 139, 3, 83, 2, 18, false), (6, .istore 4, 2, 4, 0, 0, false), (8, .iload_n 3, 1, 3, 0, 0, false), (9, .ifCond .ge 13, 3, 22, 0, 0, false), (12, .new 147, 3, 101, 149, 151, false), (15, .dup, 1, 0, 0, 0, false), (16, .ldc 149, 2, 3, 1, 0, false), (18, .invokespecial 151, 3, 0, 0, 99, false), (21, .athrow, 1, 0, 0, 0, false), (22, .aload_n 0, 1, 0, 0, 0, false), (23, .iload_n 1, 1, 1, 0, 0, false), (24, .iload_n 2, 1, 2, 0, 0, false), (25, .iload 4, 2, 4, 0, 0, false), (27, .iload_n 3, 1, 3, 0, 0, false), (28, .aload_n 0, 1, 0, 0, 0, false), (29, .iload_n 1, 1, 1, 0, 0, false), (30, .invokevirtual 135, 3, 82, 1, 18, false), (33, .invokestatic 154, 3, 14, 3, 0, false), (36, .i2l, 1, 0, 0, 0, false), (37, .invokevirtual 143, 3, 89, 3, 18, false), (40, .ireturn, 1, 0, 0, 0, false)]
def y_X_power : MethodName := ⟨rc_X, "powe\x72", "(III)I"⟩
def md_X_power : MD := (rc_X, y_X_power, prog_1_method_32_code, 5, (some .int), [], [(0, 40, e65_0)])
abbrev n_X_inverse : Nat := 66
def e66_0 : List Ent := [(0, .aload_n 0, 1, 0, 0, 0, false), (1, .iload_n 1, 1, 1, 0, 0, false), (2, .iload_n 2, 1, 2, 0, 0, false), (3, .invokevirtual 139, 3, 83, 2, 18, false), (6, .istore_n 3, 1, 3, 0, 0, false), (7, .aload_n 0, 1, 0, 0, 0, false), (8, .iload_n 1, 1, 1, 0, 0, false), (9, .invokevirtual 135, 3, 82, 1, 18, false), (12, .istore 4, 2, 4, 0, 0, false), (14, .iload_n 3, 1, 3, 0, 0, false), (15, .iload 4, 2, 4, 0, 0, false), (17, .invokestatic 160, 3, 16, 2, 0, false), (20, .ifCond .ne 8, 3, 28, 0, 0, false), (23, .aload_n 0, 1, 0, 0, 0, false), (24, .invokevirtual 43, 3, 84, 0, 18, false), (27, .ireturn, 1, 0, 0, 0, false), (28, .aload_n 0, 1, 0, 0, 0, false), (29, .iload_n 1, 1, 1, 0, 0, false), (30, .iload_n 2, 1, 2, 0, 0, false), (31, .iload_n 3, 1, 3, 0, 0, false), (32, .iload 4, 2, 4, 0, 0, false), (34, .invokestatic 164, 3, 17, 2, 0, false), (37, .i2l, 1, 0, 0, 0, false), (38, .invokevirtual 143, 3, 89, 3, 18, false), (41, .pop, 1, 0, 0, 0, false), (42, .iconst 1, 1, 2, 0, 0, false), (43, .ireturn, 1, 0, 0, 0, false)]
def y_X_inverse : MethodName := ⟨rc_X, "inverse", "(II)I"⟩
def md_X_inverse : MD := (rc_X, y_X_inverse, prog_1_method_33_code, 5, (some .int), [], [(0, 43, e66_0)])
abbrev n_X_isUnit : Nat := 67
def e67_0 : List Ent := [(0, .aload_n 0, 1, 0, 0, 0, false), (1, .iload_n 1, 1, 1, 0, 0, false), (2, .iload_n 2, 1, 2, 0, 0, false), (3, .invokevirtual 139, 3, 83, 2, 18, false), (6, .aload_n 0, 1, 0, 0, 0, false), (7, .iload_n 1, 1, 1, 0, 0, false), (8, .invokevirtual 135, 3, 82, 1, 18, false), (11, .invokestatic 160, 3, 16, 2, 0, false), (14, .ireturn, 1, 0, 0, 0, false)]
def y_X_isUnit : MethodName := ⟨rc_X, "isUnit", "(II)Z"⟩
def md_X_isUnit : MD := (rc_X, y_X_isUnit, prog_1_method_34_code, 3, (some .boolean), [], [(0, 14, e67_0)])
abbrev n_X_residue : Nat := 68
def e68_0 : List Ent := [(0, .aload_n 0, 1, 0, 0, 0, false), (1, .iload_n 1, 1, 1, 0, 0, false), (2, .iload_n 2, 1, 2, 0, 0, false), (3, .invokevirtual 139, 3, 83, 2, 18, false), (6, .ireturn, 1, 0, 0, 0, false)]
def y_X_residue : MethodName := ⟨rc_X, "residue", "(II)I"⟩
def md_X_residue : MD := (rc_X, y_X_residue, prog_1_method_35_code, 3, (some .int), [], [(0, 6, e68_0)])
abbrev n_X_ringText : Nat := 69
def e69_0 : List Ent := [(0, .new 167, 3, 1, 4, 0, false), (3, .dup, 1, 0, 0, 0, false), (4, .invokespecial 169, 3, 190, 0, 5, false), (7, .astore_n 2, 1, 2, 0, 0, false), (8, .aload_n 2, 1, 2, 0, 0, false), (9, .aload_n 0, 1, 0, 0, 0, false), (10, .iload_n 1, 1, 1, 0, 0, false), (11, .invokevirtual 135, 3, 82, 1, 18, false), (14, .invokevirtual 170, 3, 193, 1, 17, false), (17, .bipush 58, 2, 17, 0, 0, false), (19, .invokevirtual 174, 3, 192, 1, 17, false), (22, .pop, 1, 0, 0, 0, false), (23, .iconst 0, 1, 1, 0, 0, false), (24, .istore_n 3, 1, 3, 0, 0, false), (25, .iload_n 3, 1, 3, 0, 0, true), (26, .iconst 4, 1, 5, 0, 0, false), (27, .if_icmp .ge 25, 3, 52, 0, 0, false), (30, .aload_n 2, 1, 2, 0, 0, false), (31, .bipush 32, 2, 12, 0, 0, false), (33, .invokevirtual 174, 3, 192, 1, 17, false), (36, .aload_n 0, 1, 0, 0, 0, false), (37, .iload_n 1, 1, 1, 0, 0, false), (38, .iload_n 3, 1, 3, 0, 0, false), (39, .invokevirtual 139, 3, 83, 2, 18, false), (42, .invokevirtual 170, 3, 193, 1, 17, false), (45, .pop, 1, 0, 0, 0, false), (46, .iinc 3 1, 3, 3, 2, 0, false), (49, .goto (-24), 3, 25, 0, 0, false), (52, .aload_n 2, 1, 2, 0, 0, false), (53, .invokevirtual 177, 3, 196, 0, 17, false), (56, .areturn, 1, 0, 0, 0, false)]
def y_X_ringText : MethodName := ⟨rc_X, "ringText", "(I)Ljava/lang/String;"⟩
def md_X_ringText : MD := (rc_X, y_X_ringText, prog_1_method_36_code, 4, (some (.object "java/lang/String")), [], [(0, 56, e69_0)])
abbrev n_X_areAlike : Nat := 70
def e70_0 : List Ent := [(0, .aload_n 0, 1, 0, 0, 0, false), (1, .iload_n 1, 1, 1, 0, 0, false), (2, .invokevirtual 135, 3, 82, 1, 18, false), (5, .istore 5, 2, 5, 0, 0, false), (7, .aload_n 0, 1, 0, 0, 0, false), (8, .iload_n 2, 1, 2, 0, 0, false), (9, .iload_n 3, 1, 3, 0, 0, false), (10, .invokevirtual 31, 3, 81, 2, 18, false), (13, .lstore 6, 2, 6, 0, 0, false), (15, .aload_n 0, 1, 0, 0, 0, false), (16, .iload_n 2, 1, 2, 0, 0, false), (17, .iload 4, 2, 4, 0, 0, false), (19, .invokevirtual 31, 3, 81, 2, 18, false), (22, .lstore 8, 2, 8, 0, 0, false), (24, .lload 6, 2, 6, 0, 0, false), (26, .iload 5, 2, 5, 0, 0, false), (28, .i2l, 1, 0, 0, 0, false), (29, .invokestatic 128, 3, 30, 2, 0, false), (32, .lload 8, 2, 8, 0, 0, false), (34, .iload 5, 2, 5, 0, 0, false), (36, .i2l, 1, 0, 0, 0, false), (37, .invokestatic 128, 3, 30, 2, 0, false), (40, .lcmp, 1, 0, 0, 0, false), (41, .ifCond .ne 7, 3, 48, 0, 0, false), (44, .iconst 1, 1, 2, 0, 0, false), (45, .goto 4, 3, 49, 0, 0, false), (48, .iconst 0, 1, 1, 0, 0, false), (49, .ireturn, 1, 0, 0, 0, false)]
def y_X_areAlike : MethodName := ⟨rc_X, "areAlike", "(IZII)Z"⟩
def md_X_areAlike : MD := (rc_X, y_X_areAlike, prog_1_method_37_code, 10, (some .boolean), [], [(0, 49, e70_0)])
abbrev n_X_together : Nat := 71
def e71_0 : List Ent := [(0, .iload_n 1, 1, 1, 0, 0, false), (1, .iconst 4, 1, 5, 0, 0, false), (2, .invokestatic 35, 3, 77, 2, 0, false), (5, .aload_n 0, 1, 0, 0, 0, false), (6, .iload_n 2, 1, 2, 0, 0, false), (7, .iload_n 3, 1, 3, 0, 0, false), (8, .invokevirtual 139, 3, 83, 2, 18, false), (11, .istore 6, 2, 6, 0, 0, false), (13, .aload_n 0, 1, 0, 0, 0, false), (14, .iload 4, 2, 4, 0, 0, false), (16, .iload 5, 2, 5, 0, 0, false), (18, .invokevirtual 139, 3, 83, 2, 18, false), (21, .istore 7, 2, 7, 0, 0, false), (23, .iload 6, 2, 6, 0, 0, false), (25, .aload_n 0, 1, 0, 0, 0, false), (26, .iload_n 2, 1, 2, 0, 0, false), (27, .invokevirtual 135, 3, 82, 1, 18, false), (30, .iload 7, 2, 7, 0, 0, false), (32, .aload_n 0, 1, 0, 0, 0, false), (33, .iload 4, 2, 4, 0, 0, false), (35, .invokevirtual 135, 3, 82, 1, 18, false), (38, .invokestatic 181, 3, 19, 4, 0, false), (41, .lstore 8, 2, 8, 0, 0, false), (43, .lload 8, 2, 8, 0, 0, false), (45, .ldc2_w 185, 3, 5, 0, 0, false), (48, .lcmp, 1, 0, 0, 0, false), (49, .ifCond .ne 8, 3, 57, 0, 0, false), (52, .aload_n 0, 1, 0, 0, 0, false), (53, .invokevirtual 43, 3, 84, 0, 18, false), (56, .ireturn, 1, 0, 0, 0, false), (57, .aload_n 0, 1, 0, 0, 0, false), (58, .iconst 1, 1, 2, 0, 0, false), (59, .iload_n 1, 1, 1, 0, 0, false), (60, .lload 8, 2, 8, 0, 0, false), (62, .invokevirtual 27, 3, 85, 3, 18, false), (65, .ireturn, 1, 0, 0, 0, false)]
def y_X_together : MethodName := ⟨rc_X, "togethe\x72", "(IIIII)I"⟩
def md_X_together : MD := (rc_X, y_X_together, prog_1_method_38_code, 10, (some .int), [], [(0, 65, e71_0)])
abbrev n_X_common : Nat := 72
def e72_0 : List Ent := [(0, .aload_n 0, 1, 0, 0, 0, false), (1, .iload_n 1, 1, 1, 0, 0, false), (2, .invokevirtual 135, 3, 82, 1, 18, false), (5, .invokestatic 187, 3, 12, 1, 0, false), (8, .lstore 4, 2, 4, 0, 0, false), (10, .aload_n 0, 1, 0, 0, 0, false), (11, .iload_n 2, 1, 2, 0, 0, false), (12, .invokevirtual 135, 3, 82, 1, 18, false), (15, .invokestatic 187, 3, 12, 1, 0, false), (18, .lstore 6, 2, 6, 0, 0, false), (20, .lload 4, 2, 4, 0, 0, false), (22, .lload 6, 2, 6, 0, 0, false), (24, .invokestatic 191, 3, 15, 2, 0, false), (27, .lstore 8, 2, 8, 0, 0, false), (29, .iload_n 3, 1, 3, 0, 0, false), (30, .ifCond .eq 16, 3, 46, 0, 0, false), (33, .lload 4, 2, 4, 0, 0, false), (35, .lload 8, 2, 8, 0, 0, false), (37, .invokestatic 100, 3, 29, 2, 0, false), (40, .lload 6, 2, 6, 0, 0, false), (42, .lmul, 1, 0, 0, 0, false), (43, .goto 5, 3, 48, 0, 0, false), (46, .lload 8, 2, 8, 0, 0, false), (48, .invokestatic 113, 3, 0, 1, 0, false), (51, .areturn, 1, 0, 0, 0, false)]
def y_X_common : MethodName := ⟨rc_X, "common", "(IIZ)Ljava/lang/String;"⟩
def md_X_common : MD := (rc_X, y_X_common, prog_1_method_39_code, 10, (some (.object "java/lang/String")), [], [(0, 51, e72_0)])
abbrev n_X_house : Nat := 73
def e73_0 : List Ent := [(0, .iload_n 1, 1, 1, 0, 0, false), (1, .iconst 3, 1, 4, 0, 0, false), (2, .invokestatic 47, 3, 78, 2, 0, false), (5, .iload_n 1, 1, 1, 0, 0, false), (6, .tableswitch 52 0 2 #[26, 31, 36], 26, 58, 0, 1, false), (32, .aload_n 0, 1, 0, 0, 0, false), (33, .getfield 194, 3, 2, 4, 0, false), (36, .ireturn, 1, 0, 0, 0, false), (37, .aload_n 0, 1, 0, 0, 0, false), (38, .getfield 198, 3, 2, 5, 0, false), (41, .ireturn, 1, 0, 0, 0, false), (42, .aload_n 0, 1, 0, 0, 0, false), (43, .getfield 9, 3, 2, 0, 0, false), (46, .invokestatic 201, 3, 90, 1, 0, false), (49, .aload_n 0, 1, 0, 0, 0, false), (50, .getfield 13, 3, 2, 1, 0, false), (53, .invokestatic 201, 3, 90, 1, 0, false), (56, .iadd, 1, 0, 0, 0, false), (57, .ireturn, 1, 0, 0, 0, false), (58, .aload_n 0, 1, 0, 0, 0, false), (59, .invokevirtual 205, 3, 91, 0, 18, false), (62, .ireturn, 1, 0, 0, 0, false)]
def y_X_house : MethodName := ⟨rc_X, "house", "(I)I"⟩
def md_X_house : MD := (rc_X, y_X_house, prog_1_method_40_code, 2, (some .int), [], [(0, 62, e73_0)])
abbrev n_X_knock : Nat := 74
def e74_0 : List Ent := [(0, .aload_n 0, 1, 0, 0, 0, false), (1, .dup, 1, 0, 0, 0, false), (2, .getfield 198, 3, 2, 5, 0, false), (5, .iconst 1, 1, 2, 0, 0, false), (6, .iadd, 1, 0, 0, 0, false), (7, .putfield 198, 3, 2, 5, 0, false), (10, .aload_n 0, 1, 0, 0, 0, false), (11, .getfield 198, 3, 2, 5, 0, false), (14, .ireturn, 1, 0, 0, 0, false)]
def y_X_knock : MethodName := ⟨rc_X, "knock", "()I"⟩
def md_X_knock : MD := (rc_X, y_X_knock, prog_1_method_41_code, 1, (some .int), [], [(0, 14, e74_0)])
abbrev n_X_isSound : Nat := 75
def e75_0 : List Ent := [(0, .aload_n 0, 1, 0, 0, 0, false), (1, .iconst 0, 1, 1, 0, 0, false), (2, .invokevirtual 208, 3, 93, 1, 18, false), (5, .ifCond .eq 29, 3, 34, 0, 0, false), (8, .aload_n 0, 1, 0, 0, 0, false), (9, .iconst 1, 1, 2, 0, 0, false), (10, .invokevirtual 208, 3, 93, 1, 18, false), (13, .ifCond .eq 21, 3, 34, 0, 0, false), (16, .aload_n 0, 1, 0, 0, 0, false), (17, .invokevirtual 212, 3, 94, 0, 18, false), (20, .ifCond .eq 14, 3, 34, 0, 0, false), (23, .aload_n 0, 1, 0, 0, 0, false), (24, .invokevirtual 216, 3, 95, 0, 18, false), (27, .ifCond .eq 7, 3, 34, 0, 0, false), (30, .iconst 1, 1, 2, 0, 0, false), (31, .goto 4, 3, 35, 0, 0, false), (34, .iconst 0, 1, 1, 0, 0, false), (35, .ireturn, 1, 0, 0, 0, false)]
def y_X_isSound : MethodName := ⟨rc_X, "isSound", "()Z"⟩
def md_X_isSound : MD := (rc_X, y_X_isSound, prog_1_method_42_code, 1, (some .boolean), [], [(0, 35, e75_0)])
abbrev n_X_digest : Nat := 76
def e76_0 : List Ent := [(0, .ldc2_w 219, 3, 11, 0, 0, false), (3, .lstore_n 1, 1, 1, 0, 0, false), (4, .iconst 0, 1, 1, 0, 0, false), (5, .istore_n 3, 1, 3, 0, 0, false), (6, .iload_n 3, 1, 3, 0, 0, true), (7, .iconst 3, 1, 4, 0, 0, false), (8, .if_icmp .gt 22, 3, 30, 0, 0, false), (11, .lload_n 1, 1, 1, 0, 0, false), (12, .ldc2_w 221, 3, 12, 0, 0, false), (15, .lmul, 1, 0, 0, 0, false), (16, .aload_n 0, 1, 0, 0, 0, false), (17, .iload_n 3, 1, 3, 0, 0, false), (18, .invokevirtual 223, 3, 73, 1, 18, false), (21, .i2l, 1, 0, 0, 0, false), (22, .ladd, 1, 0, 0, 0, false), (23, .lstore_n 1, 1, 1, 0, 0, false), (24, .iinc 3 1, 3, 3, 2, 0, false), (27, .goto (-21), 3, 6, 0, 0, false), (30, .aload_n 0, 1, 0, 0, 0, false), (31, .lload_n 1, 1, 1, 0, 0, false), (32, .iconst 0, 1, 1, 0, 0, false), (33, .invokevirtual 226, 3, 92, 2, 18, false), (36, .lstore_n 1, 1, 1, 0, 0, false), (37, .aload_n 0, 1, 0, 0, 0, false), (38, .lload_n 1, 1, 1, 0, 0, false), (39, .iconst 1, 1, 2, 0, 0, false), (40, .invokevirtual 226, 3, 92, 2, 18, false), (43, .lstore_n 1, 1, 1, 0, 0, false), (44, .iconst 0, 1, 1, 0, 0, false), (45, .istore_n 3, 1, 3, 0, 0, false), (46, .iload_n 3, 1, 3, 0, 0, true), (47, .iconst 3, 1, 4, 0, 0, false), (48, .if_icmp .ge 52, 3, 100, 0, 0, false), (51, .lload_n 1, 1, 1, 0, 0, false), (52, .ldc2_w 221, 3, 12, 0, 0, false), (55, .lmul, 1, 0, 0, 0, false), (56, .aload_n 0, 1, 0, 0, 0, false), (57, .iload_n 3, 1, 3, 0, 0, false), (58, .invokevirtual 135, 3, 82, 1, 18, false), (61, .i2l, 1, 0, 0, 0, false), (62, .ladd, 1, 0, 0, 0, false), (63, .lstore_n 1, 1, 1, 0, 0, false), (64, .iconst 0, 1, 1, 0, 0, false), (65, .istore 4, 2, 4, 0, 0, false), (67, .iload 4, 2, 4, 0, 0, true), (69, .iconst 4, 1, 5, 0, 0, false), (70, .if_icmp .ge 24, 3, 94, 0, 0, false), (73, .lload_n 1, 1, 1, 0, 0, false), (74, .ldc2_w 221, 3, 12, 0, 0, false), (77, .lmul, 1, 0, 0, 0, false), (78, .aload_n 0, 1, 0, 0, 0, false), (79, .iload_n 3, 1, 3, 0, 0, false), (80, .iload 4, 2, 4, 0, 0, false), (82, .invokevirtual 139, 3, 83, 2, 18, false), (85, .i2l, 1, 0, 0, 0, false), (86, .ladd, 1, 0, 0, 0, false), (87, .lstore_n 1, 1, 1, 0, 0, false), (88, .iinc 4 1, 3, 4, 2, 0, false), (91, .goto (-24), 3, 67, 0, 0, false), (94, .iinc 3 1, 3, 3, 2, 0, false), (97, .goto (-51), 3, 46, 0, 0, false), (100, .lload_n 1, 1, 1, 0, 0, false), (101, .ldc2_w 221, 3, 12, 0, 0, false), (104, .lmul, 1, 0, 0, 0, false), (105, .aload_n 0, 1, 0, 0, 0, false), (106, .invokevirtual 230, 3, 75, 0, 18, false), (109, .ifCond .eq 7, 3, 116, 0, 0, false), (112, .iconst 1, 1, 2, 0, 0, false), (113, .goto 4, 3, 117, 0, 0, false), (116, .iconst 0, 1, 1, 0, 0, false), (117, .i2l, 1, 0, 0, 0, false), (118, .ladd, 1, 0, 0, 0, false), (119, .lreturn, 1, 0, 0, 0, false)]
def y_X_digest : MethodName := ⟨rc_X, "digest", "()J"⟩
def md_X_digest : MD := (rc_X, y_X_digest, prog_1_method_43_code, 5, (some .long), [], [(0, 119, e76_0)])
abbrev n_X_needIndex : Nat := 77
def e77_0 : List Ent := [(0, .iload_n 0, 1, 0, 0, 0, false), (1, .ifCond .lt 8, 3, 9, 0, 0, false), (4, .iload_n 0, 1, 0, 0, 0, false), (5, .iload_n 1, 1, 1, 0, 0, false), (6, .if_icmp .lt 13, 3, 19, 0, 0, false), (9, .new 233, 3, 100, 235, 237, false), (12, .dup, 1, 0, 0, 0, false), (13, .ldc 235, 2, 4, 1, 0, false), (15, .invokespecial 237, 3, 0, 0, 99, false), (18, .athrow, 1, 0, 0, 0, false), (19, .return_, 1, 0, 0, 0, false)]
def y_X_needIndex : MethodName := ⟨rc_X, "needIndex", "(II)V"⟩
def md_X_needIndex : MD := (rc_X, y_X_needIndex, prog_1_method_44_code, 2, none, [], [(0, 19, e77_0)])
abbrev n_X_needChoice : Nat := 78
def e78_0 : List Ent := [(0, .iload_n 0, 1, 0, 0, 0, false), (1, .ifCond .lt 8, 3, 9, 0, 0, false), (4, .iload_n 0, 1, 0, 0, 0, false), (5, .iload_n 1, 1, 1, 0, 0, false), (6, .if_icmp .le 13, 3, 19, 0, 0, false), (9, .new 147, 3, 101, 238, 151, false), (12, .dup, 1, 0, 0, 0, false), (13, .ldc 238, 2, 5, 1, 0, false), (15, .invokespecial 151, 3, 0, 0, 99, false), (18, .athrow, 1, 0, 0, 0, false), (19, .return_, 1, 0, 0, 0, false)]
def y_X_needChoice : MethodName := ⟨rc_X, "needChoice", "(II)V"⟩
def md_X_needChoice : MD := (rc_X, y_X_needChoice, prog_1_method_45_code, 2, none, [], [(0, 19, e78_0)])
abbrev n_X_needNotZero : Nat := 79
def e79_0 : List Ent := [(0, .iload_n 0, 1, 0, 0, 0, false), (1, .ifCond .ne 13, 3, 14, 0, 0, false), (4, .new 147, 3, 101, 240, 151, false), (7, .dup, 1, 0, 0, 0, false), (8, .ldc 240, 2, 6, 1, 0, false), (10, .invokespecial 151, 3, 0, 0, 99, false), (13, .athrow, 1, 0, 0, 0, false), (14, .return_, 1, 0, 0, 0, false)]
def y_X_needNotZero : MethodName := ⟨rc_X, "needNotZero", "(I)V"⟩
def md_X_needNotZero : MD := (rc_X, y_X_needNotZero, prog_1_method_46_code, 1, none, [], [(0, 14, e79_0)])
abbrev n_X_needDivisors : Nat := 80
def e80_0 : List Ent := [(0, .iload_n 0, 1, 0, 0, 0, false), (1, .iconst 1, 1, 2, 0, 0, false), (2, .if_icmp .lt 13, 3, 15, 0, 0, false), (5, .iload_n 1, 1, 1, 0, 0, false), (6, .iconst 1, 1, 2, 0, 0, false), (7, .if_icmp .lt 8, 3, 15, 0, 0, false), (10, .iload_n 2, 1, 2, 0, 0, false), (11, .iconst 1, 1, 2, 0, 0, false), (12, .if_icmp .ge 13, 3, 25, 0, 0, false), (15, .new 147, 3, 101, 242, 151, false), (18, .dup, 1, 0, 0, 0, false), (19, .ldc 242, 2, 7, 1, 0, false), (21, .invokespecial 151, 3, 0, 0, 99, false), (24, .athrow, 1, 0, 0, 0, false), (25, .return_, 1, 0, 0, 0, false)]
def y_X_needDivisors : MethodName := ⟨rc_X, "needDivisors", "(III)V"⟩
def md_X_needDivisors : MD := (rc_X, y_X_needDivisors, prog_1_method_47_code, 3, none, [], [(0, 25, e80_0)])
abbrev n_X_numberAt : Nat := 81
def e81_0 : List Ent := [(0, .iload_n 2, 1, 2, 0, 0, false), (1, .iconst 4, 1, 5, 0, 0, false), (2, .invokestatic 35, 3, 77, 2, 0, false), (5, .iload_n 1, 1, 1, 0, 0, false), (6, .ifCond .eq 12, 3, 18, 0, 0, false), (9, .aload_n 0, 1, 0, 0, 0, false), (10, .getfield 13, 3, 2, 1, 0, false), (13, .iload_n 2, 1, 2, 0, 0, false), (14, .laload, 1, 0, 0, 0, false), (15, .goto 9, 3, 24, 0, 0, false), (18, .aload_n 0, 1, 0, 0, 0, false), (19, .getfield 9, 3, 2, 0, 0, false), (22, .iload_n 2, 1, 2, 0, 0, false), (23, .laload, 1, 0, 0, 0, false), (24, .lreturn, 1, 0, 0, 0, false)]
def y_X_numberAt : MethodName := ⟨rc_X, "numberAt", "(ZI)J"⟩
def md_X_numberAt : MD := (rc_X, y_X_numberAt, prog_1_method_48_code, 3, (some .long), [], [(0, 24, e81_0)])
abbrev n_X_modulusAt : Nat := 82
def e82_0 : List Ent := [(0, .iload_n 1, 1, 1, 0, 0, false), (1, .iconst 3, 1, 4, 0, 0, false), (2, .invokestatic 35, 3, 77, 2, 0, false), (5, .aload_n 0, 1, 0, 0, 0, false), (6, .getfield 16, 3, 2, 2, 0, false), (9, .iload_n 1, 1, 1, 0, 0, false), (10, .iaload, 1, 0, 0, 0, false), (11, .ireturn, 1, 0, 0, 0, false)]
def y_X_modulusAt : MethodName := ⟨rc_X, "modulusAt", "(I)I"⟩
def md_X_modulusAt : MD := (rc_X, y_X_modulusAt, prog_1_method_49_code, 2, (some .int), [], [(0, 11, e82_0)])
abbrev n_X_residueAt : Nat := 83
def e83_0 : List Ent := [(0, .iload_n 1, 1, 1, 0, 0, false), (1, .iconst 3, 1, 4, 0, 0, false), (2, .invokestatic 35, 3, 77, 2, 0, false), (5, .iload_n 2, 1, 2, 0, 0, false), (6, .iconst 4, 1, 5, 0, 0, false), (7, .invokestatic 35, 3, 77, 2, 0, false), (10, .aload_n 0, 1, 0, 0, 0, false), (11, .getfield 20, 3, 2, 3, 0, false), (14, .iload_n 1, 1, 1, 0, 0, false), (15, .iconst 4, 1, 5, 0, 0, false), (16, .imul, 1, 0, 0, 0, false), (17, .iload_n 2, 1, 2, 0, 0, false), (18, .iadd, 1, 0, 0, 0, false), (19, .iaload, 1, 0, 0, 0, false), (20, .ireturn, 1, 0, 0, 0, false)]
def y_X_residueAt : MethodName := ⟨rc_X, "residueAt", "(II)I"⟩
def md_X_residueAt : MD := (rc_X, y_X_residueAt, prog_1_method_50_code, 3, (some .int), [], [(0, 20, e83_0)])
abbrev n_X_refuse : Nat := 84
def e84_0 : List Ent := [(0, .aload_n 0, 1, 0, 0, 0, false), (1, .dup, 1, 0, 0, 0, false), (2, .getfield 194, 3, 2, 4, 0, false), (5, .iconst 1, 1, 2, 0, 0, false), (6, .iadd, 1, 0, 0, 0, false), (7, .putfield 194, 3, 2, 4, 0, false), (10, .bipush (-9), 2, 18, 0, 0, false), (12, .ireturn, 1, 0, 0, 0, false)]
def y_X_refuse : MethodName := ⟨rc_X, "refuse", "()I"⟩
def md_X_refuse : MD := (rc_X, y_X_refuse, prog_1_method_51_code, 1, (some .int), [], [(0, 12, e84_0)])
abbrev n_X_keep : Nat := 85
def e85_0 : List Ent := [(0, .iload_n 2, 1, 2, 0, 0, false), (1, .iconst 4, 1, 5, 0, 0, false), (2, .invokestatic 35, 3, 77, 2, 0, false), (5, .iload_n 1, 1, 1, 0, 0, false), (6, .ifCond .eq 13, 3, 19, 0, 0, false), (9, .aload_n 0, 1, 0, 0, 0, false), (10, .getfield 13, 3, 2, 1, 0, false), (13, .iload_n 2, 1, 2, 0, 0, false), (14, .lload_n 3, 1, 3, 0, 0, false), (15, .lastore, 1, 0, 0, 0, false), (16, .goto 10, 3, 26, 0, 0, false), (19, .aload_n 0, 1, 0, 0, 0, false), (20, .getfield 9, 3, 2, 0, 0, false), (23, .iload_n 2, 1, 2, 0, 0, false), (24, .lload_n 3, 1, 3, 0, 0, false), (25, .lastore, 1, 0, 0, 0, false), (26, .lload_n 3, 1, 3, 0, 0, false), (27, .lconst 0, 1, 0, 0, 0, false), (28, .invokestatic 109, 3, 20, 2, 0, false), (31, .ireturn, 1, 0, 0, 0, false)]
def y_X_keep : MethodName := ⟨rc_X, "keep", "(ZIJ)I"⟩
def md_X_keep : MD := (rc_X, y_X_keep, prog_1_method_52_code, 5, (some .int), [], [(0, 31, e85_0)])
abbrev n_X_keepRound : Nat := 86
def e86_0 : List Ent := [(0, .aload_n 0, 1, 0, 0, 0, false), (1, .iload_n 1, 1, 1, 0, 0, false), (2, .iload_n 2, 1, 2, 0, 0, false), (3, .iload_n 1, 1, 1, 0, 0, false), (4, .lload_n 3, 1, 3, 0, 0, false), (5, .invokestatic 131, 3, 22, 2, 0, false), (8, .invokevirtual 27, 3, 85, 3, 18, false), (11, .ireturn, 1, 0, 0, 0, false)]
def y_X_keepRound : MethodName := ⟨rc_X, "keepRound", "(ZIJ)I"⟩
def md_X_keepRound : MD := (rc_X, y_X_keepRound, prog_1_method_53_code, 5, (some .int), [], [(0, 11, e86_0)])
abbrev n_X_keepExact : Nat := 87
def e87_0 : List Ent := [(0, .iload_n 1, 1, 1, 0, 0, false), (1, .lload_n 3, 1, 3, 0, 0, false), (2, .lload 5, 2, 5, 0, 0, false), (4, .iload 7, 2, 7, 0, 0, false), (6, .invokestatic 54, 3, 25, 4, 0, false), (9, .ifCond .ne 8, 3, 17, 0, 0, false), (12, .aload_n 0, 1, 0, 0, 0, false), (13, .invokevirtual 43, 3, 84, 0, 18, false), (16, .ireturn, 1, 0, 0, 0, false), (17, .aload_n 0, 1, 0, 0, 0, false), (18, .iload_n 1, 1, 1, 0, 0, false), (19, .iload_n 2, 1, 2, 0, 0, false), (20, .lload_n 3, 1, 3, 0, 0, false), (21, .lload 5, 2, 5, 0, 0, false), (23, .iload 7, 2, 7, 0, 0, false), (25, .invokestatic 62, 3, 24, 3, 0, false), (28, .invokevirtual 27, 3, 85, 3, 18, false), (31, .ireturn, 1, 0, 0, 0, false)]
def y_X_keepExact : MethodName := ⟨rc_X, "keepExact", "(ZIJJI)I"⟩
def md_X_keepExact : MD := (rc_X, y_X_keepExact, prog_1_method_54_code, 8, (some .int), [], [(0, 31, e87_0)])
abbrev n_X_keepFloor : Nat := 88
def e88_0 : List Ent := [(0, .aload_n 0, 1, 0, 0, 0, false), (1, .iload_n 1, 1, 1, 0, 0, false), (2, .iload_n 2, 1, 2, 0, 0, false), (3, .invokevirtual 31, 3, 81, 2, 18, false), (6, .lstore 6, 2, 6, 0, 0, false), (8, .lload_n 3, 1, 3, 0, 0, false), (9, .lconst 0, 1, 0, 0, 0, false), (10, .lcmp, 1, 0, 0, 0, false), (11, .ifCond .ne 8, 3, 19, 0, 0, false), (14, .aload_n 0, 1, 0, 0, 0, false), (15, .invokevirtual 43, 3, 84, 0, 18, false), (18, .ireturn, 1, 0, 0, 0, false), (19, .aload_n 0, 1, 0, 0, 0, false), (20, .iload_n 1, 1, 1, 0, 0, false), (21, .iload_n 2, 1, 2, 0, 0, false), (22, .iload 5, 2, 5, 0, 0, false), (24, .ifCond .eq 12, 3, 36, 0, 0, false), (27, .lload 6, 2, 6, 0, 0, false), (29, .lload_n 3, 1, 3, 0, 0, false), (30, .invokestatic 128, 3, 30, 2, 0, false), (33, .goto 9, 3, 42, 0, 0, false), (36, .lload 6, 2, 6, 0, 0, false), (38, .lload_n 3, 1, 3, 0, 0, false), (39, .invokestatic 100, 3, 29, 2, 0, false), (42, .invokevirtual 66, 3, 86, 3, 18, false), (45, .ireturn, 1, 0, 0, 0, false)]
def y_X_keepFloor : MethodName := ⟨rc_X, "keepFloo\x72", "(ZIJZ)I"⟩
def md_X_keepFloor : MD := (rc_X, y_X_keepFloor, prog_1_method_55_code, 8, (some .int), [], [(0, 45, e88_0)])
abbrev n_X_keepResidue : Nat := 89
def e89_0 : List Ent := [(0, .lload_n 3, 1, 3, 0, 0, false), (1, .aload_n 0, 1, 0, 0, 0, false), (2, .iload_n 1, 1, 1, 0, 0, false), (3, .invokevirtual 135, 3, 82, 1, 18, false), (6, .invokestatic 244, 3, 13, 2, 0, false), (9, .istore 5, 2, 5, 0, 0, false), (11, .iload_n 2, 1, 2, 0, 0, false), (12, .iconst 4, 1, 5, 0, 0, false), (13, .invokestatic 35, 3, 77, 2, 0, false), (16, .aload_n 0, 1, 0, 0, 0, false), (17, .getfield 20, 3, 2, 3, 0, false), (20, .iload_n 1, 1, 1, 0, 0, false), (21, .iconst 4, 1, 5, 0, 0, false), (22, .imul, 1, 0, 0, 0, false), (23, .iload_n 2, 1, 2, 0, 0, false), (24, .iadd, 1, 0, 0, 0, false), (25, .iload 5, 2, 5, 0, 0, false), (27, .iastore, 1, 0, 0, 0, false), (28, .iload 5, 2, 5, 0, 0, false), (30, .ireturn, 1, 0, 0, 0, false)]
def y_X_keepResidue : MethodName := ⟨rc_X, "keepResidue", "(IIJ)I"⟩
def md_X_keepResidue : MD := (rc_X, y_X_keepResidue, prog_1_method_56_code, 6, (some .int), [], [(0, 30, e89_0)])
abbrev n_X_countZeros : Nat := 90
def e90_0 : List Ent := [(0, .iconst 0, 1, 1, 0, 0, false), (1, .istore_n 1, 1, 1, 0, 0, false), (2, .aload_n 0, 1, 0, 0, 0, false), (3, .astore_n 2, 1, 2, 0, 0, false), (4, .aload_n 2, 1, 2, 0, 0, false), (5, .arraylength, 1, 0, 0, 0, false), (6, .istore_n 3, 1, 3, 0, 0, false), (7, .iconst 0, 1, 1, 0, 0, false), (8, .istore 4, 2, 4, 0, 0, false), (10, .iload 4, 2, 4, 0, 0, true), (12, .iload_n 3, 1, 3, 0, 0, false), (13, .if_icmp .ge 25, 3, 38, 0, 0, false), (16, .aload_n 2, 1, 2, 0, 0, false), (17, .iload 4, 2, 4, 0, 0, false), (19, .laload, 1, 0, 0, 0, false), (20, .lstore 5, 2, 5, 0, 0, false), (22, .lload 5, 2, 5, 0, 0, false), (24, .lconst 0, 1, 0, 0, 0, false), (25, .lcmp, 1, 0, 0, 0, false), (26, .ifCond .ne 6, 3, 32, 0, 0, false), (29, .iinc 1 1, 3, 1, 2, 0, false), (32, .iinc 4 1, 3, 4, 2, 0, false), (35, .goto (-25), 3, 10, 0, 0, false), (38, .iload_n 1, 1, 1, 0, 0, false), (39, .ireturn, 1, 0, 0, 0, false)]
def y_X_countZeros : MethodName := ⟨rc_X, "countZeros", "([J)I"⟩
def md_X_countZeros : MD := (rc_X, y_X_countZeros, prog_1_method_57_code, 7, (some .int), [], [(0, 39, e90_0)])
abbrev n_X_countUnits : Nat := 91
def e91_0 : List Ent := [(0, .iconst 0, 1, 1, 0, 0, false), (1, .istore_n 1, 1, 1, 0, 0, false), (2, .iconst 0, 1, 1, 0, 0, false), (3, .istore_n 2, 1, 2, 0, 0, false), (4, .iload_n 2, 1, 2, 0, 0, true), (5, .iconst 3, 1, 4, 0, 0, false), (6, .if_icmp .ge 34, 3, 40, 0, 0, false), (9, .iconst 0, 1, 1, 0, 0, false), (10, .istore_n 3, 1, 3, 0, 0, false), (11, .iload_n 3, 1, 3, 0, 0, true), (12, .iconst 4, 1, 5, 0, 0, false), (13, .if_icmp .ge 21, 3, 34, 0, 0, false), (16, .aload_n 0, 1, 0, 0, 0, false), (17, .iload_n 2, 1, 2, 0, 0, false), (18, .iload_n 3, 1, 3, 0, 0, false), (19, .invokevirtual 248, 3, 67, 2, 18, false), (22, .ifCond .eq 6, 3, 28, 0, 0, false), (25, .iinc 1 1, 3, 1, 2, 0, false), (28, .iinc 3 1, 3, 3, 2, 0, false), (31, .goto (-20), 3, 11, 0, 0, false), (34, .iinc 2 1, 3, 2, 2, 0, false), (37, .goto (-33), 3, 4, 0, 0, false), (40, .iload_n 1, 1, 1, 0, 0, false), (41, .ireturn, 1, 0, 0, 0, false)]
def y_X_countUnits : MethodName := ⟨rc_X, "countUnits", "()I"⟩
def md_X_countUnits : MD := (rc_X, y_X_countUnits, prog_1_method_58_code, 4, (some .int), [], [(0, 41, e91_0)])
abbrev n_X_digestNumbers : Nat := 92
def e92_0 : List Ent := [(0, .lload_n 1, 1, 1, 0, 0, false), (1, .lstore 4, 2, 4, 0, 0, false), (3, .iconst 0, 1, 1, 0, 0, false), (4, .istore 6, 2, 6, 0, 0, false), (6, .iload 6, 2, 6, 0, 0, true), (8, .iconst 4, 1, 5, 0, 0, false), (9, .if_icmp .ge 43, 3, 52, 0, 0, false), (12, .iconst 0, 1, 1, 0, 0, false), (13, .istore 7, 2, 7, 0, 0, false), (15, .iload 7, 2, 7, 0, 0, true), (17, .iconst 4, 1, 5, 0, 0, false), (18, .if_icmp .gt 28, 3, 46, 0, 0, false), (21, .lload 4, 2, 4, 0, 0, false), (23, .ldc2_w 221, 3, 12, 0, 0, false), (26, .lmul, 1, 0, 0, 0, false), (27, .aload_n 0, 1, 0, 0, 0, false), (28, .iload_n 3, 1, 3, 0, 0, false), (29, .iload 6, 2, 6, 0, 0, false), (31, .iload 7, 2, 7, 0, 0, false), (33, .invokevirtual 251, 3, 57, 3, 18, false), (36, .i2l, 1, 0, 0, 0, false), (37, .ladd, 1, 0, 0, 0, false), (38, .lstore 4, 2, 4, 0, 0, false), (40, .iinc 7 1, 3, 7, 2, 0, false), (43, .goto (-28), 3, 15, 0, 0, false), (46, .iinc 6 1, 3, 6, 2, 0, false), (49, .goto (-43), 3, 6, 0, 0, false), (52, .lload 4, 2, 4, 0, 0, false), (54, .lreturn, 1, 0, 0, 0, false)]
def y_X_digestNumbers : MethodName := ⟨rc_X, "digestNumbers", "(JZ)J"⟩
def md_X_digestNumbers : MD := (rc_X, y_X_digestNumbers, prog_1_method_59_code, 8, (some .long), [], [(0, 54, e92_0)])
abbrev n_X_areNumbersSound : Nat := 93
def e93_0 : List Ent := [(0, .iconst 0, 1, 1, 0, 0, false), (1, .istore_n 2, 1, 2, 0, 0, false), (2, .iload_n 2, 1, 2, 0, 0, true), (3, .iconst 4, 1, 5, 0, 0, false), (4, .if_icmp .ge 34, 3, 38, 0, 0, false), (7, .iload_n 1, 1, 1, 0, 0, false), (8, .aload_n 0, 1, 0, 0, 0, false), (9, .iload_n 1, 1, 1, 0, 0, false), (10, .iload_n 2, 1, 2, 0, 0, false), (11, .invokevirtual 31, 3, 81, 2, 18, false), (14, .aload_n 0, 1, 0, 0, 0, false), (15, .iload_n 1, 1, 1, 0, 0, false), (16, .iload_n 2, 1, 2, 0, 0, false), (17, .iconst 1, 1, 2, 0, 0, false), (18, .iadd, 1, 0, 0, 0, false), (19, .iconst 4, 1, 5, 0, 0, false), (20, .irem, 1, 0, 0, 0, false), (21, .invokevirtual 31, 3, 81, 2, 18, false), (24, .invokestatic 255, 3, 4, 3, 0, false), (27, .ifCond .ne 5, 3, 32, 0, 0, false), (30, .iconst 0, 1, 1, 0, 0, false), (31, .ireturn, 1, 0, 0, 0, false), (32, .iinc 2 1, 3, 2, 2, 0, false), (35, .goto (-33), 3, 2, 0, 0, false), (38, .iconst 1, 1, 2, 0, 0, false), (39, .ireturn, 1, 0, 0, 0, false)]
def y_X_areNumbersSound : MethodName := ⟨rc_X, "areNumbersSound", "(Z)Z"⟩
def md_X_areNumbersSound : MD := (rc_X, y_X_areNumbersSound, prog_1_method_60_code, 3, (some .boolean), [], [(0, 39, e93_0)])
abbrev n_X_areRingsSound : Nat := 94
def e94_0 : List Ent := [(0, .iconst 0, 1, 1, 0, 0, false), (1, .istore_n 1, 1, 1, 0, 0, false), (2, .iload_n 1, 1, 1, 0, 0, true), (3, .iconst 3, 1, 4, 0, 0, false), (4, .if_icmp .ge 81, 3, 85, 0, 0, false), (7, .aload_n 0, 1, 0, 0, 0, false), (8, .iload_n 1, 1, 1, 0, 0, false), (9, .invokevirtual 135, 3, 82, 1, 18, false), (12, .istore_n 2, 1, 2, 0, 0, false), (13, .iconst 0, 1, 1, 0, 0, false), (14, .istore_n 3, 1, 3, 0, 0, false), (15, .iload_n 3, 1, 3, 0, 0, true), (16, .iconst 4, 1, 5, 0, 0, false), (17, .if_icmp .ge 24, 3, 41, 0, 0, false), (20, .aload_n 0, 1, 0, 0, 0, false), (21, .iload_n 1, 1, 1, 0, 0, false), (22, .iload_n 3, 1, 3, 0, 0, false), (23, .invokevirtual 139, 3, 83, 2, 18, false), (26, .iload_n 2, 1, 2, 0, 0, false), (27, .invokestatic 261, 3, 9, 2, 0, false), (30, .ifCond .ne 5, 3, 35, 0, 0, false), (33, .iconst 0, 1, 1, 0, 0, false), (34, .ireturn, 1, 0, 0, 0, false), (35, .iinc 3 1, 3, 3, 2, 0, false), (38, .goto (-23), 3, 15, 0, 0, false), (41, .iconst 0, 1, 1, 0, 0, false), (42, .istore_n 3, 1, 3, 0, 0, false), (43, .iload_n 3, 1, 3, 0, 0, true), (44, .iconst 4, 1, 5, 0, 0, false), (45, .if_icmp .ge 34, 3, 79, 0, 0, false), (48, .aload_n 0, 1, 0, 0, 0, false), (49, .iconst 0, 1, 1, 0, 0, false), (50, .iload_n 3, 1, 3, 0, 0, false), (51, .invokevirtual 31, 3, 81, 2, 18, false), (54, .aload_n 0, 1, 0, 0, 0, false), (55, .iconst 0, 1, 1, 0, 0, false), (56, .iload_n 3, 1, 3, 0, 0, false), (57, .iconst 1, 1, 2, 0, 0, false), (58, .iadd, 1, 0, 0, 0, false), (59, .iconst 4, 1, 5, 0, 0, false), (60, .irem, 1, 0, 0, 0, false), (61, .invokevirtual 31, 3, 81, 2, 18, false), (64, .iload_n 2, 1, 2, 0, 0, false), (65, .invokestatic 264, 3, 10, 3, 0, false), (68, .ifCond .ne 5, 3, 73, 0, 0, false), (71, .iconst 0, 1, 1, 0, 0, false), (72, .ireturn, 1, 0, 0, 0, false), (73, .iinc 3 1, 3, 3, 2, 0, false), (76, .goto (-33), 3, 43, 0, 0, false), (79, .iinc 1 1, 3, 1, 2, 0, false), (82, .goto (-80), 3, 2, 0, 0, false), (85, .iconst 1, 1, 2, 0, 0, false), (86, .ireturn, 1, 0, 0, 0, false)]
def y_X_areRingsSound : MethodName := ⟨rc_X, "areRingsSound", "()Z"⟩
def md_X_areRingsSound : MD := (rc_X, y_X_areRingsSound, prog_1_method_61_code, 4, (some .boolean), [], [(0, 86, e94_0)])
abbrev n_X_areMeetingsSound : Nat := 95
def e95_0 : List Ent := [(0, .iconst 0, 1, 1, 0, 0, false), (1, .istore_n 1, 1, 1, 0, 0, false), (2, .iload_n 1, 1, 1, 0, 0, true), (3, .iconst 3, 1, 4, 0, 0, false), (4, .if_icmp .ge 54, 3, 58, 0, 0, false), (7, .iload_n 1, 1, 1, 0, 0, false), (8, .iconst 1, 1, 2, 0, 0, false), (9, .iadd, 1, 0, 0, 0, false), (10, .istore_n 2, 1, 2, 0, 0, false), (11, .iload_n 2, 1, 2, 0, 0, true), (12, .iconst 3, 1, 4, 0, 0, false), (13, .if_icmp .ge 39, 3, 52, 0, 0, false), (16, .aload_n 0, 1, 0, 0, 0, false), (17, .iload_n 1, 1, 1, 0, 0, false), (18, .iconst 0, 1, 1, 0, 0, false), (19, .invokevirtual 139, 3, 83, 2, 18, false), (22, .aload_n 0, 1, 0, 0, 0, false), (23, .iload_n 1, 1, 1, 0, 0, false), (24, .invokevirtual 135, 3, 82, 1, 18, false), (27, .aload_n 0, 1, 0, 0, 0, false), (28, .iload_n 2, 1, 2, 0, 0, false), (29, .iconst 0, 1, 1, 0, 0, false), (30, .invokevirtual 139, 3, 83, 2, 18, false), (33, .aload_n 0, 1, 0, 0, 0, false), (34, .iload_n 2, 1, 2, 0, 0, false), (35, .invokevirtual 135, 3, 82, 1, 18, false), (38, .invokestatic 268, 3, 11, 4, 0, false), (41, .ifCond .ne 5, 3, 46, 0, 0, false), (44, .iconst 0, 1, 1, 0, 0, false), (45, .ireturn, 1, 0, 0, 0, false), (46, .iinc 2 1, 3, 2, 2, 0, false), (49, .goto (-38), 3, 11, 0, 0, false), (52, .iinc 1 1, 3, 1, 2, 0, false), (55, .goto (-53), 3, 2, 0, 0, false), (58, .iconst 1, 1, 2, 0, 0, false), (59, .ireturn, 1, 0, 0, 0, false)]
def y_X_areMeetingsSound : MethodName := ⟨rc_X, "areMeetingsSound", "()Z"⟩
def md_X_areMeetingsSound : MD := (rc_X, y_X_areMeetingsSound, prog_1_method_62_code, 3, (some .boolean), [], [(0, 59, e95_0)])
abbrev n_O_new : Nat := 96
def e96_0 : List Ent := [(0, .aload_n 0, 1, 0, 0, 0, false), (1, .invokespecial 1, 3, 0, 0, 7, false), (4, .return_, 1, 0, 0, 0, false)]
def y_O_new : MethodName := ⟨rc_O, "<init>", "()V"⟩
def md_O_new : MD := (rc_O, y_O_new, prog_7_method_1_code, 1, none, [], [(0, 4, e96_0)])
abbrev n_M_new : Nat := 97
def e97_0 : List Ent := [(0, .aload_n 0, 1, 0, 0, 0, false), (1, .invokespecial 1, 3, 0, 0, 7, false), (4, .aload_n 0, 1, 0, 0, 0, false), (5, .iconst 4, 1, 5, 0, 0, false), (6, .newarray .long, 2, 2, 0, 0, false), (8, .putfield 7, 3, 4, 1, 2, false), (11, .aload_n 0, 1, 0, 0, 0, false), (12, .iconst 4, 1, 5, 0, 0, false), (13, .newarray .long, 2, 2, 0, 0, false), (15, .putfield 13, 3, 4, 2, 2, false), (18, .aload_n 0, 1, 0, 0, 0, false), (19, .iconst 3, 1, 4, 0, 0, false), (20, .newarray .int, 2, 1, 0, 0, false), (22, .dup, 1, 0, 0, 0, false), (23, .iconst 0, 1, 1, 0, 0, false), (24, .bipush 7, 2, 13, 0, 0, false), (26, .iastore, 1, 0, 0, 0, false), (27, .dup, 1, 0, 0, 0, false), (28, .iconst 1, 1, 2, 0, 0, false), (29, .bipush 10, 2, 14, 0, 0, false), (31, .iastore, 1, 0, 0, 0, false), (32, .dup, 1, 0, 0, 0, false), (33, .iconst 2, 1, 3, 0, 0, false), (34, .bipush (-12), 2, 15, 0, 0, false), (36, .iastore, 1, 0, 0, 0, false), (37, .putfield 16, 3, 4, 3, 2, false), (40, .aload_n 0, 1, 0, 0, 0, false), (41, .iconst 3, 1, 4, 0, 0, false), (42, .iconst 4, 1, 5, 0, 0, false), (43, .multianewarray 20 2, 4, 0, 0, 0, false), (47, .putfield 22, 3, 4, 4, 2, false), (50, .return_, 1, 0, 0, 0, false)]
def y_M_new : MethodName := ⟨rc_M, "<init>", "()V"⟩
def md_M_new : MD := (rc_M, y_M_new, prog_8_method_1_code, 1, none, [], [(0, 50, e97_0)])
abbrev n_M_thrown : Nat := 98
def e98_0 : List Ent := [(0, .aload_n 0, 1, 0, 0, 0, false), (1, .getfield 25, 3, 4, 0, 0, false), (4, .ireturn, 1, 0, 0, 0, false)]
def y_M_thrown : MethodName := ⟨rc_M, "thrown", "()I"⟩
def md_M_thrown : MD := (rc_M, y_M_thrown, prog_8_method_2_code, 1, (some .int), [], [(0, 4, e98_0)])
abbrev n_M_refuse : Nat := 99
def e99_0 : List Ent := [(0, .iload_n 1, 1, 1, 0, 0, false), (1, .ifCond .eq 15, 3, 16, 0, 0, false), (4, .aload_n 0, 1, 0, 0, 0, false), (5, .getfield 25, 3, 4, 0, 0, false), (8, .ifCond .ne 8, 3, 16, 0, 0, false), (11, .aload_n 0, 1, 0, 0, 0, false), (12, .iload_n 2, 1, 2, 0, 0, false), (13, .putfield 25, 3, 4, 0, 0, false), (16, .aload_n 0, 1, 0, 0, 0, false), (17, .getfield 25, 3, 4, 0, 0, false), (20, .ifCond .le 7, 3, 27, 0, 0, false), (23, .iconst 1, 1, 2, 0, 0, false), (24, .goto 4, 3, 28, 0, 0, false), (27, .iconst 0, 1, 1, 0, 0, false), (28, .ireturn, 1, 0, 0, 0, false)]
def y_M_refuse : MethodName := ⟨rc_M, "refuse", "(ZI)Z"⟩
def md_M_refuse : MD := (rc_M, y_M_refuse, prog_8_method_3_code, 3, (some .boolean), [], [(0, 28, e99_0)])
abbrev n_M_start : Nat := 100
def e100_0 : List Ent := [(0, .aload_n 0, 1, 0, 0, 0, false), (1, .iconst 0, 1, 1, 0, 0, false), (2, .putfield 25, 3, 4, 0, 0, false), (5, .aload_n 0, 1, 0, 0, 0, false), (6, .iload_n 1, 1, 1, 0, 0, false), (7, .iload_n 2, 1, 2, 0, 0, false), (8, .invokevirtual 29, 3, 99, 2, 20, false), (11, .ireturn, 1, 0, 0, 0, false)]
def y_M_start : MethodName := ⟨rc_M, "start", "(ZI)Z"⟩
def md_M_start : MD := (rc_M, y_M_start, prog_8_method_4_code, 3, (some .boolean), [], [(0, 11, e100_0)])
abbrev n_M_isNo : Nat := 101
def e101_0 : List Ent := [(0, .iload_n 0, 1, 0, 0, 0, false), (1, .ifCond .lt 8, 3, 9, 0, 0, false), (4, .iload_n 0, 1, 0, 0, 0, false), (5, .iconst 3, 1, 4, 0, 0, false), (6, .if_icmp .le 7, 3, 13, 0, 0, false), (9, .iconst 1, 1, 2, 0, 0, false), (10, .goto 4, 3, 14, 0, 0, false), (13, .iconst 0, 1, 1, 0, 0, false), (14, .ireturn, 1, 0, 0, 0, false)]
def y_M_isNo : MethodName := ⟨rc_M, "isNo", "(I)Z"⟩
def md_M_isNo : MD := (rc_M, y_M_isNo, prog_8_method_5_code, 1, (some .boolean), [], [(0, 14, e101_0)])
abbrev n_M_isNoRing : Nat := 102
def e102_0 : List Ent := [(0, .iload_n 0, 1, 0, 0, 0, false), (1, .ifCond .lt 8, 3, 9, 0, 0, false), (4, .iload_n 0, 1, 0, 0, 0, false), (5, .iconst 2, 1, 3, 0, 0, false), (6, .if_icmp .le 7, 3, 13, 0, 0, false), (9, .iconst 1, 1, 2, 0, 0, false), (10, .goto 4, 3, 14, 0, 0, false), (13, .iconst 0, 1, 1, 0, 0, false), (14, .ireturn, 1, 0, 0, 0, false)]
def y_M_isNoRing : MethodName := ⟨rc_M, "isNoRing", "(I)Z"⟩
def md_M_isNoRing : MD := (rc_M, y_M_isNoRing, prog_8_method_6_code, 1, (some .boolean), [], [(0, 14, e102_0)])
abbrev n_M_no : Nat := 103
def e103_0 : List Ent := [(0, .aload_n 0, 1, 0, 0, 0, false), (1, .dup, 1, 0, 0, 0, false), (2, .getfield 33, 3, 4, 5, 0, false), (5, .iconst 1, 1, 2, 0, 0, false), (6, .iadd, 1, 0, 0, 0, false), (7, .putfield 33, 3, 4, 5, 0, false), (10, .bipush (-9), 2, 18, 0, 0, false), (12, .ireturn, 1, 0, 0, 0, false)]
def y_M_no : MethodName := ⟨rc_M, "no", "()I"⟩
def md_M_no : MD := (rc_M, y_M_no, prog_8_method_7_code, 1, (some .int), [], [(0, 12, e103_0)])
abbrev n_M_sign : Nat := 104
def e104_0 : List Ent := [(0, .lload_n 0, 1, 0, 0, 0, false), (1, .lconst 0, 1, 0, 0, 0, false), (2, .lcmp, 1, 0, 0, 0, false), (3, .ifCond .ge 7, 3, 10, 0, 0, false), (6, .iconst (-1), 1, 0, 0, 0, false), (7, .goto 14, 3, 21, 0, 0, false), (10, .lload_n 0, 1, 0, 0, 0, false), (11, .lconst 0, 1, 0, 0, 0, false), (12, .lcmp, 1, 0, 0, 0, false), (13, .ifCond .le 7, 3, 20, 0, 0, false), (16, .iconst 1, 1, 2, 0, 0, false), (17, .goto 4, 3, 21, 0, 0, false), (20, .iconst 0, 1, 1, 0, 0, false), (21, .ireturn, 1, 0, 0, 0, false)]
def y_M_sign : MethodName := ⟨rc_M, "sign", "(J)I"⟩
def md_M_sign : MD := (rc_M, y_M_sign, prog_8_method_8_code, 2, (some .int), [], [(0, 21, e104_0)])
abbrev n_M_now : Nat := 105
def e105_0 : List Ent := [(0, .iload_n 1, 1, 1, 0, 0, false), (1, .ifCond .eq 12, 3, 13, 0, 0, false), (4, .aload_n 0, 1, 0, 0, 0, false), (5, .getfield 13, 3, 4, 2, 0, false), (8, .iload_n 2, 1, 2, 0, 0, false), (9, .laload, 1, 0, 0, 0, false), (10, .goto 9, 3, 19, 0, 0, false), (13, .aload_n 0, 1, 0, 0, 0, false), (14, .getfield 7, 3, 4, 1, 0, false), (17, .iload_n 2, 1, 2, 0, 0, false), (18, .laload, 1, 0, 0, 0, false), (19, .lreturn, 1, 0, 0, 0, false)]
def y_M_now : MethodName := ⟨rc_M, "now", "(ZI)J"⟩
def md_M_now : MD := (rc_M, y_M_now, prog_8_method_9_code, 3, (some .long), [], [(0, 19, e105_0)])
abbrev n_M_become : Nat := 106
def e106_0 : List Ent := [(0, .iload_n 1, 1, 1, 0, 0, false), (1, .ifCond .eq 13, 3, 14, 0, 0, false), (4, .aload_n 0, 1, 0, 0, 0, false), (5, .getfield 13, 3, 4, 2, 0, false), (8, .iload_n 2, 1, 2, 0, 0, false), (9, .lload_n 3, 1, 3, 0, 0, false), (10, .lastore, 1, 0, 0, 0, false), (11, .goto 12, 3, 23, 0, 0, false), (14, .aload_n 0, 1, 0, 0, 0, false), (15, .getfield 7, 3, 4, 1, 0, false), (18, .iload_n 2, 1, 2, 0, 0, false), (19, .lload_n 3, 1, 3, 0, 0, false), (20, .l2i, 1, 0, 0, 0, false), (21, .i2l, 1, 0, 0, 0, false), (22, .lastore, 1, 0, 0, 0, false), (23, .aload_n 0, 1, 0, 0, 0, false), (24, .iload_n 1, 1, 1, 0, 0, false), (25, .iload_n 2, 1, 2, 0, 0, false), (26, .invokevirtual 36, 3, 105, 2, 20, false), (29, .invokestatic 40, 3, 104, 1, 0, false), (32, .ireturn, 1, 0, 0, 0, false)]
def y_M_become : MethodName := ⟨rc_M, "become", "(ZIJ)I"⟩
def md_M_become : MD := (rc_M, y_M_become, prog_8_method_10_code, 5, (some .int), [], [(0, 32, e106_0)])
abbrev n_M_above : Nat := 107
def e107_0 : List Ent := [(0, .lload_n 0, 1, 0, 0, 0, false), (1, .ldc2_w 44, 3, 10, 0, 0, false), (4, .land, 1, 0, 0, 0, false), (5, .lstore 4, 2, 4, 0, 0, false), (7, .lload_n 2, 1, 2, 0, 0, false), (8, .ldc2_w 44, 3, 10, 0, 0, false), (11, .land, 1, 0, 0, 0, false), (12, .lstore 6, 2, 6, 0, 0, false), (14, .lload_n 0, 1, 0, 0, 0, false), (15, .bipush 32, 2, 12, 0, 0, false), (17, .lshr, 1, 0, 0, 0, false), (18, .lload 6, 2, 6, 0, 0, false), (20, .lmul, 1, 0, 0, 0, false), (21, .lload 4, 2, 4, 0, 0, false), (23, .lload 6, 2, 6, 0, 0, false), (25, .lmul, 1, 0, 0, 0, false), (26, .bipush 32, 2, 12, 0, 0, false), (28, .lushr, 1, 0, 0, 0, false), (29, .ladd, 1, 0, 0, 0, false), (30, .lstore 8, 2, 8, 0, 0, false), (32, .lload 4, 2, 4, 0, 0, false), (34, .lload_n 2, 1, 2, 0, 0, false), (35, .bipush 32, 2, 12, 0, 0, false), (37, .lshr, 1, 0, 0, 0, false), (38, .lmul, 1, 0, 0, 0, false), (39, .lload 8, 2, 8, 0, 0, false), (41, .ldc2_w 44, 3, 10, 0, 0, false), (44, .land, 1, 0, 0, 0, false), (45, .ladd, 1, 0, 0, 0, false), (46, .lstore 10, 2, 10, 0, 0, false), (48, .lload_n 0, 1, 0, 0, 0, false), (49, .bipush 32, 2, 12, 0, 0, false), (51, .lshr, 1, 0, 0, 0, false), (52, .lload_n 2, 1, 2, 0, 0, false), (53, .bipush 32, 2, 12, 0, 0, false), (55, .lshr, 1, 0, 0, 0, false), (56, .lmul, 1, 0, 0, 0, false), (57, .lload 8, 2, 8, 0, 0, false), (59, .bipush 32, 2, 12, 0, 0, false), (61, .lshr, 1, 0, 0, 0, false), (62, .ladd, 1, 0, 0, 0, false), (63, .lload 10, 2, 10, 0, 0, false), (65, .bipush 32, 2, 12, 0, 0, false), (67, .lshr, 1, 0, 0, 0, false), (68, .ladd, 1, 0, 0, 0, false), (69, .lreturn, 1, 0, 0, 0, false)]
def y_M_above : MethodName := ⟨rc_M, "above", "(JJ)J"⟩
def md_M_above : MD := (rc_M, y_M_above, prog_8_method_11_code, 12, (some .long), [], [(0, 69, e107_0)])
abbrev n_M_both : Nat := 108
def e108_0 : List Ent := [(0, .iload 4, 2, 4, 0, 0, false), (2, .ifCond .ne 9, 3, 11, 0, 0, false), (5, .lload_n 0, 1, 0, 0, 0, false), (6, .lload_n 2, 1, 2, 0, 0, false), (7, .ladd, 1, 0, 0, 0, false), (8, .goto 18, 3, 26, 0, 0, false), (11, .iload 4, 2, 4, 0, 0, false), (13, .iconst 1, 1, 2, 0, 0, false), (14, .if_icmp .ne 9, 3, 23, 0, 0, false), (17, .lload_n 0, 1, 0, 0, 0, false), (18, .lload_n 2, 1, 2, 0, 0, false), (19, .lsub, 1, 0, 0, 0, false), (20, .goto 6, 3, 26, 0, 0, false), (23, .lload_n 0, 1, 0, 0, 0, false), (24, .lload_n 2, 1, 2, 0, 0, false), (25, .lmul, 1, 0, 0, 0, false), (26, .lreturn, 1, 0, 0, 0, false)]
def y_M_both : MethodName := ⟨rc_M, "both", "(JJI)J"⟩
def md_M_both : MD := (rc_M, y_M_both, prog_8_method_12_code, 5, (some .long), [], [(0, 26, e108_0)])
abbrev n_M_isWithin : Nat := 109
def e109_0 : List Ent := [(0, .lload_n 1, 1, 1, 0, 0, false), (1, .lload_n 3, 1, 3, 0, 0, false), (2, .iload 5, 2, 5, 0, 0, false), (4, .invokestatic 46, 3, 108, 3, 0, false), (7, .lstore 6, 2, 6, 0, 0, false), (9, .iload_n 0, 1, 0, 0, 0, false), (10, .ifCond .ne 19, 3, 29, 0, 0, false), (13, .lload 6, 2, 6, 0, 0, false), (15, .lload 6, 2, 6, 0, 0, false), (17, .l2i, 1, 0, 0, 0, false), (18, .i2l, 1, 0, 0, 0, false), (19, .lcmp, 1, 0, 0, 0, false), (20, .ifCond .ne 7, 3, 27, 0, 0, false), (23, .iconst 1, 1, 2, 0, 0, false), (24, .goto 4, 3, 28, 0, 0, false), (27, .iconst 0, 1, 1, 0, 0, false), (28, .ireturn, 1, 0, 0, 0, false), (29, .iload 5, 2, 5, 0, 0, false), (31, .ifCond .ne 60, 3, 91, 0, 0, false), (34, .lload_n 1, 1, 1, 0, 0, false), (35, .lconst 0, 1, 0, 0, 0, false), (36, .lcmp, 1, 0, 0, 0, false), (37, .ifCond .ge 7, 3, 44, 0, 0, false), (40, .iconst 1, 1, 2, 0, 0, false), (41, .goto 4, 3, 45, 0, 0, false), (44, .iconst 0, 1, 1, 0, 0, false), (45, .lload_n 3, 1, 3, 0, 0, false), (46, .lconst 0, 1, 0, 0, 0, false), (47, .lcmp, 1, 0, 0, 0, false), (48, .ifCond .ge 7, 3, 55, 0, 0, false), (51, .iconst 1, 1, 2, 0, 0, false), (52, .goto 4, 3, 56, 0, 0, false), (55, .iconst 0, 1, 1, 0, 0, false), (56, .if_icmp .ne 29, 3, 85, 0, 0, false), (59, .lload 6, 2, 6, 0, 0, false), (61, .lconst 0, 1, 0, 0, 0, false), (62, .lcmp, 1, 0, 0, 0, false), (63, .ifCond .ge 7, 3, 70, 0, 0, false), (66, .iconst 1, 1, 2, 0, 0, false), (67, .goto 4, 3, 71, 0, 0, false), (70, .iconst 0, 1, 1, 0, 0, false), (71, .lload_n 1, 1, 1, 0, 0, false), (72, .lconst 0, 1, 0, 0, 0, false), (73, .lcmp, 1, 0, 0, 0, false), (74, .ifCond .ge 7, 3, 81, 0, 0, false), (77, .iconst 1, 1, 2, 0, 0, false), (78, .goto 4, 3, 82, 0, 0, false), (81, .iconst 0, 1, 1, 0, 0, false), (82, .if_icmp .ne 7, 3, 89, 0, 0, false), (85, .iconst 1, 1, 2, 0, 0, false), (86, .goto 4, 3, 90, 0, 0, false), (89, .iconst 0, 1, 1, 0, 0, false), (90, .ireturn, 1, 0, 0, 0, false), (91, .iload 5, 2, 5, 0, 0, false), (93, .iconst 1, 1, 2, 0, 0, false), (94, .if_icmp .ne 60, 3, 154, 0, 0, false), (97, .lload_n 1, 1, 1, 0, 0, false), (98, .lconst 0, 1, 0, 0, 0, false), (99, .lcmp, 1, 0, 0, 0, false), (100, .ifCond .ge 7, 3, 107, 0, 0, false), (103, .iconst 1, 1, 2, 0, 0, false), (104, .goto 4, 3, 108, 0, 0, false), (107, .iconst 0, 1, 1, 0, 0, false), (108, .lload_n 3, 1, 3, 0, 0, false), (109, .lconst 0, 1, 0, 0, 0, false), (110, .lcmp, 1, 0, 0, 0, false), (111, .ifCond .ge 7, 3, 118, 0, 0, false), (114, .iconst 1, 1, 2, 0, 0, false), (115, .goto 4, 3, 119, 0, 0, false), (118, .iconst 0, 1, 1, 0, 0, false), (119, .if_icmp .eq 29, 3, 148, 0, 0, false), (122, .lload 6, 2, 6, 0, 0, false), (124, .lconst 0, 1, 0, 0, 0, false), (125, .lcmp, 1, 0, 0, 0, false), (126, .ifCond .ge 7, 3, 133, 0, 0, false), (129, .iconst 1, 1, 2, 0, 0, false), (130, .goto 4, 3, 134, 0, 0, false), (133, .iconst 0, 1, 1, 0, 0, false), (134, .lload_n 1, 1, 1, 0, 0, false), (135, .lconst 0, 1, 0, 0, 0, false), (136, .lcmp, 1, 0, 0, 0, false), (137, .ifCond .ge 7, 3, 144, 0, 0, false), (140, .iconst 1, 1, 2, 0, 0, false), (141, .goto 4, 3, 145, 0, 0, false), (144, .iconst 0, 1, 1, 0, 0, false), (145, .if_icmp .ne 7, 3, 152, 0, 0, false), (148, .iconst 1, 1, 2, 0, 0, false), (149, .goto 4, 3, 153, 0, 0, false), (152, .iconst 0, 1, 1, 0, 0, false), (153, .ireturn, 1, 0, 0, 0, false), (154, .lload_n 1, 1, 1, 0, 0, false), (155, .lload_n 3, 1, 3, 0, 0, false), (156, .invokestatic 50, 3, 107, 2, 0, false), (159, .lload 6, 2, 6, 0, 0, false), (161, .lconst 0, 1, 0, 0, 0, false), (162, .lcmp, 1, 0, 0, 0, false), (163, .ifCond .ge 7, 3, 170, 0, 0, false), (166, .iconst (-1), 1, 0, 0, 0, false), (167, .goto 4, 3, 171, 0, 0, false), (170, .iconst 0, 1, 1, 0, 0, false), (171, .i2l, 1, 0, 0, 0, false), (172, .lcmp, 1, 0, 0, 0, false), (173, .ifCond .ne 7, 3, 180, 0, 0, false), (176, .iconst 1, 1, 2, 0, 0, false), (177, .goto 4, 3, 181, 0, 0, false), (180, .iconst 0, 1, 1, 0, 0, false), (181, .ireturn, 1, 0, 0, 0, false)]
def y_M_isWithin : MethodName := ⟨rc_M, "isWithin", "(ZJJI)Z"⟩
def md_M_isWithin : MD := (rc_M, y_M_isWithin, prog_8_method_13_code, 8, (some .boolean), [], [(0, 181, e109_0)])
abbrev n_M_floorOf : Nat := 110
def e110_0 : List Ent := [(0, .lload_n 0, 1, 0, 0, 0, false), (1, .lload_n 2, 1, 2, 0, 0, false), (2, .lrem, 1, 0, 0, 0, false), (3, .lconst 0, 1, 0, 0, 0, false), (4, .lcmp, 1, 0, 0, 0, false), (5, .ifCond .eq 36, 3, 41, 0, 0, false), (8, .lload_n 0, 1, 0, 0, 0, false), (9, .lconst 0, 1, 0, 0, 0, false), (10, .lcmp, 1, 0, 0, 0, false), (11, .ifCond .ge 7, 3, 18, 0, 0, false), (14, .iconst 1, 1, 2, 0, 0, false), (15, .goto 4, 3, 19, 0, 0, false), (18, .iconst 0, 1, 1, 0, 0, false), (19, .lload_n 2, 1, 2, 0, 0, false), (20, .lconst 0, 1, 0, 0, 0, false), (21, .lcmp, 1, 0, 0, 0, false), (22, .ifCond .ge 7, 3, 29, 0, 0, false), (25, .iconst 1, 1, 2, 0, 0, false), (26, .goto 4, 3, 30, 0, 0, false), (29, .iconst 0, 1, 1, 0, 0, false), (30, .if_icmp .eq 11, 3, 41, 0, 0, false), (33, .lload_n 0, 1, 0, 0, 0, false), (34, .lload_n 2, 1, 2, 0, 0, false), (35, .ldiv, 1, 0, 0, 0, false), (36, .lconst 1, 1, 1, 0, 0, false), (37, .lsub, 1, 0, 0, 0, false), (38, .goto 6, 3, 44, 0, 0, false), (41, .lload_n 0, 1, 0, 0, 0, false), (42, .lload_n 2, 1, 2, 0, 0, false), (43, .ldiv, 1, 0, 0, 0, false), (44, .lreturn, 1, 0, 0, 0, false)]
def y_M_floorOf : MethodName := ⟨rc_M, "floorOf", "(JJ)J"⟩
def md_M_floorOf : MD := (rc_M, y_M_floorOf, prog_8_method_14_code, 4, (some .long), [], [(0, 44, e110_0)])
abbrev n_M_restOf : Nat := 111
def e111_0 : List Ent := [(0, .lload_n 0, 1, 0, 0, 0, false), (1, .lload_n 2, 1, 2, 0, 0, false), (2, .lrem, 1, 0, 0, 0, false), (3, .lstore 4, 2, 4, 0, 0, false), (5, .lload 4, 2, 4, 0, 0, false), (7, .lconst 0, 1, 0, 0, 0, false), (8, .lcmp, 1, 0, 0, 0, false), (9, .ifCond .eq 36, 3, 45, 0, 0, false), (12, .lload 4, 2, 4, 0, 0, false), (14, .lconst 0, 1, 0, 0, 0, false), (15, .lcmp, 1, 0, 0, 0, false), (16, .ifCond .ge 7, 3, 23, 0, 0, false), (19, .iconst 1, 1, 2, 0, 0, false), (20, .goto 4, 3, 24, 0, 0, false), (23, .iconst 0, 1, 1, 0, 0, false), (24, .lload_n 2, 1, 2, 0, 0, false), (25, .lconst 0, 1, 0, 0, 0, false), (26, .lcmp, 1, 0, 0, 0, false), (27, .ifCond .ge 7, 3, 34, 0, 0, false), (30, .iconst 1, 1, 2, 0, 0, false), (31, .goto 4, 3, 35, 0, 0, false), (34, .iconst 0, 1, 1, 0, 0, false), (35, .if_icmp .eq 10, 3, 45, 0, 0, false), (38, .lload 4, 2, 4, 0, 0, false), (40, .lload_n 2, 1, 2, 0, 0, false), (41, .ladd, 1, 0, 0, 0, false), (42, .goto 5, 3, 47, 0, 0, false), (45, .lload 4, 2, 4, 0, 0, false), (47, .lreturn, 1, 0, 0, 0, false)]
def y_M_restOf : MethodName := ⟨rc_M, "restOf", "(JJ)J"⟩
def md_M_restOf : MD := (rc_M, y_M_restOf, prog_8_method_15_code, 6, (some .long), [], [(0, 47, e111_0)])
abbrev n_M_gcd : Nat := 112
def e112_0 : List Ent := [(0, .lload_n 0, 1, 0, 0, 0, false), (1, .invokestatic 54, 3, 180, 1, 0, false), (4, .lstore 4, 2, 4, 0, 0, false), (6, .lload_n 2, 1, 2, 0, 0, false), (7, .invokestatic 54, 3, 180, 1, 0, false), (10, .lstore 6, 2, 6, 0, 0, false), (12, .lload 6, 2, 6, 0, 0, true), (14, .lconst 0, 1, 0, 0, 0, false), (15, .lcmp, 1, 0, 0, 0, false), (16, .ifCond .le 21, 3, 37, 0, 0, false), (19, .lload 4, 2, 4, 0, 0, false), (21, .lload 6, 2, 6, 0, 0, false), (23, .lrem, 1, 0, 0, 0, false), (24, .lstore 8, 2, 8, 0, 0, false), (26, .lload 6, 2, 6, 0, 0, false), (28, .lstore 4, 2, 4, 0, 0, false), (30, .lload 8, 2, 8, 0, 0, false), (32, .lstore 6, 2, 6, 0, 0, false), (34, .goto (-22), 3, 12, 0, 0, false), (37, .lload 4, 2, 4, 0, 0, false), (39, .lreturn, 1, 0, 0, 0, false)]
def y_M_gcd : MethodName := ⟨rc_M, "gcd", "(JJ)J"⟩
def md_M_gcd : MD := (rc_M, y_M_gcd, prog_8_method_16_code, 10, (some .long), [], [(0, 39, e112_0)])
abbrev n_M_against : Nat := 113
def e113_0 : List Ent := [(0, .lload_n 2, 1, 2, 0, 0, false), (1, .lstore 4, 2, 4, 0, 0, false), (3, .lload_n 0, 1, 0, 0, 0, false), (4, .lload_n 2, 1, 2, 0, 0, false), (5, .invokestatic 60, 3, 111, 2, 0, false), (8, .lstore 6, 2, 6, 0, 0, false), (10, .lconst 0, 1, 0, 0, 0, false), (11, .lstore 8, 2, 8, 0, 0, false), (13, .lconst 1, 1, 1, 0, 0, false), (14, .lstore 10, 2, 10, 0, 0, false), (16, .lload 6, 2, 6, 0, 0, true), (18, .lconst 0, 1, 0, 0, 0, false), (19, .lcmp, 1, 0, 0, 0, false), (20, .ifCond .le 49, 3, 69, 0, 0, false), (23, .lload 4, 2, 4, 0, 0, false), (25, .lload 6, 2, 6, 0, 0, false), (27, .ldiv, 1, 0, 0, 0, false), (28, .lstore 12, 2, 12, 0, 0, false), (30, .lload 4, 2, 4, 0, 0, false), (32, .lload 12, 2, 12, 0, 0, false), (34, .lload 6, 2, 6, 0, 0, false), (36, .lmul, 1, 0, 0, 0, false), (37, .lsub, 1, 0, 0, 0, false), (38, .lstore 14, 2, 14, 0, 0, false), (40, .lload 8, 2, 8, 0, 0, false), (42, .lload 12, 2, 12, 0, 0, false), (44, .lload 10, 2, 10, 0, 0, false), (46, .lmul, 1, 0, 0, 0, false), (47, .lsub, 1, 0, 0, 0, false), (48, .lstore 16, 2, 16, 0, 0, false), (50, .lload 6, 2, 6, 0, 0, false), (52, .lstore 4, 2, 4, 0, 0, false), (54, .lload 14, 2, 14, 0, 0, false), (56, .lstore 6, 2, 6, 0, 0, false), (58, .lload 10, 2, 10, 0, 0, false), (60, .lstore 8, 2, 8, 0, 0, false), (62, .lload 16, 2, 16, 0, 0, false), (64, .lstore 10, 2, 10, 0, 0, false), (66, .goto (-50), 3, 16, 0, 0, false), (69, .lload 8, 2, 8, 0, 0, false), (71, .lload_n 2, 1, 2, 0, 0, false), (72, .invokestatic 60, 3, 111, 2, 0, false), (75, .lreturn, 1, 0, 0, 0, false)]
def y_M_against : MethodName := ⟨rc_M, "against", "(JJ)J"⟩
def md_M_against : MD := (rc_M, y_M_against, prog_8_method_17_code, 18, (some .long), [], [(0, 75, e113_0)])
abbrev n_M_put : Nat := 114
def e114_0 : List Ent := [(0, .aload_n 0, 1, 0, 0, 0, false), (1, .iload_n 2, 1, 2, 0, 0, false), (2, .invokestatic 63, 3, 101, 1, 0, false), (5, .iconst 1, 1, 2, 0, 0, false), (6, .invokevirtual 67, 3, 100, 2, 20, false), (9, .ifCond .eq 5, 3, 14, 0, 0, false), (12, .iconst 0, 1, 1, 0, 0, false), (13, .ireturn, 1, 0, 0, 0, false), (14, .aload_n 0, 1, 0, 0, 0, false), (15, .iload_n 1, 1, 1, 0, 0, false), (16, .iload_n 2, 1, 2, 0, 0, false), (17, .iload_n 1, 1, 1, 0, 0, false), (18, .ifCond .eq 31, 3, 49, 0, 0, false), (21, .iload_n 3, 1, 3, 0, 0, false), (22, .i2l, 1, 0, 0, 0, false), (23, .ldc2_w 70, 3, 13, 0, 0, false), (26, .lmul, 1, 0, 0, 0, false), (27, .iload 4, 2, 4, 0, 0, false), (29, .ifCond .ge 13, 3, 42, 0, 0, false), (32, .iload 4, 2, 4, 0, 0, false), (34, .i2l, 1, 0, 0, 0, false), (35, .ldc2_w 70, 3, 13, 0, 0, false), (38, .ladd, 1, 0, 0, 0, false), (39, .goto 6, 3, 45, 0, 0, false), (42, .iload 4, 2, 4, 0, 0, false), (44, .i2l, 1, 0, 0, 0, false), (45, .ladd, 1, 0, 0, 0, false), (46, .goto 6, 3, 52, 0, 0, false), (49, .iload 4, 2, 4, 0, 0, false), (51, .i2l, 1, 0, 0, 0, false), (52, .invokevirtual 72, 3, 106, 3, 20, false), (55, .ireturn, 1, 0, 0, 0, false)]
def y_M_put : MethodName := ⟨rc_M, "put", "(ZIII)I"⟩
def md_M_put : MD := (rc_M, y_M_put, prog_8_method_18_code, 5, (some .int), [], [(0, 55, e114_0)])
abbrev n_M_copy : Nat := 115
def e115_0 : List Ent := [(0, .aload_n 0, 1, 0, 0, 0, false), (1, .iload_n 2, 1, 2, 0, 0, false), (2, .invokestatic 63, 3, 101, 1, 0, false), (5, .ifCond .ne 10, 3, 15, 0, 0, false), (8, .iload_n 3, 1, 3, 0, 0, false), (9, .invokestatic 63, 3, 101, 1, 0, false), (12, .ifCond .eq 7, 3, 19, 0, 0, false), (15, .iconst 1, 1, 2, 0, 0, false), (16, .goto 4, 3, 20, 0, 0, false), (19, .iconst 0, 1, 1, 0, 0, false), (20, .iconst 1, 1, 2, 0, 0, false), (21, .invokevirtual 67, 3, 100, 2, 20, false), (24, .ifCond .eq 7, 3, 31, 0, 0, false), (27, .iconst 0, 1, 1, 0, 0, false), (28, .goto 15, 3, 43, 0, 0, false), (31, .aload_n 0, 1, 0, 0, 0, false), (32, .iload_n 1, 1, 1, 0, 0, false), (33, .iload_n 2, 1, 2, 0, 0, false), (34, .aload_n 0, 1, 0, 0, 0, false), (35, .iload_n 1, 1, 1, 0, 0, false), (36, .iload_n 3, 1, 3, 0, 0, false), (37, .invokevirtual 36, 3, 105, 2, 20, false), (40, .invokevirtual 72, 3, 106, 3, 20, false), (43, .ireturn, 1, 0, 0, 0, false)]
def y_M_copy : MethodName := ⟨rc_M, "copy", "(ZII)I"⟩
def md_M_copy : MD := (rc_M, y_M_copy, prog_8_method_19_code, 4, (some .int), [], [(0, 43, e115_0)])
abbrev n_M_widen : Nat := 116
def e116_0 : List Ent := [(0, .aload_n 0, 1, 0, 0, 0, false), (1, .iload_n 1, 1, 1, 0, 0, false), (2, .invokestatic 63, 3, 101, 1, 0, false), (5, .ifCond .ne 10, 3, 15, 0, 0, false), (8, .iload_n 2, 1, 2, 0, 0, false), (9, .invokestatic 63, 3, 101, 1, 0, false), (12, .ifCond .eq 7, 3, 19, 0, 0, false), (15, .iconst 1, 1, 2, 0, 0, false), (16, .goto 4, 3, 20, 0, 0, false), (19, .iconst 0, 1, 1, 0, 0, false), (20, .iconst 1, 1, 2, 0, 0, false), (21, .invokevirtual 67, 3, 100, 2, 20, false), (24, .ifCond .eq 7, 3, 31, 0, 0, false), (27, .iconst 0, 1, 1, 0, 0, false), (28, .goto 15, 3, 43, 0, 0, false), (31, .aload_n 0, 1, 0, 0, 0, false), (32, .iconst 1, 1, 2, 0, 0, false), (33, .iload_n 1, 1, 1, 0, 0, false), (34, .aload_n 0, 1, 0, 0, 0, false), (35, .getfield 7, 3, 4, 1, 0, false), (38, .iload_n 2, 1, 2, 0, 0, false), (39, .laload, 1, 0, 0, 0, false), (40, .invokevirtual 72, 3, 106, 3, 20, false), (43, .ireturn, 1, 0, 0, 0, false)]
def y_M_widen : MethodName := ⟨rc_M, "widen", "(II)I"⟩
def md_M_widen : MD := (rc_M, y_M_widen, prog_8_method_20_code, 3, (some .int), [], [(0, 43, e116_0)])
abbrev n_M_narrow : Nat := 117
def e117_0 : List Ent := [(0, .aload_n 0, 1, 0, 0, 0, false), (1, .iload_n 1, 1, 1, 0, 0, false), (2, .invokestatic 63, 3, 101, 1, 0, false), (5, .ifCond .ne 10, 3, 15, 0, 0, false), (8, .iload_n 2, 1, 2, 0, 0, false), (9, .invokestatic 63, 3, 101, 1, 0, false), (12, .ifCond .eq 7, 3, 19, 0, 0, false), (15, .iconst 1, 1, 2, 0, 0, false), (16, .goto 4, 3, 20, 0, 0, false), (19, .iconst 0, 1, 1, 0, 0, false), (20, .iconst 1, 1, 2, 0, 0, false), (21, .invokevirtual 67, 3, 100, 2, 20, false), (24, .ifCond .eq 5, 3, 29, 0, 0, false), (27, .iconst 0, 1, 1, 0, 0, false), (28, .ireturn, 1, 0, 0, 0, false), (29, .aload_n 0, 1, 0, 0, 0, false), (30, .getfield 13, 3, 4, 2, 0, false), (33, .iload_n 2, 1, 2, 0, 0, false), (34, .laload, 1, 0, 0, 0, false), (35, .aload_n 0, 1, 0, 0, 0, false), (36, .getfield 13, 3, 4, 2, 0, false), (39, .iload_n 2, 1, 2, 0, 0, false), (40, .laload, 1, 0, 0, 0, false), (41, .l2i, 1, 0, 0, 0, false), (42, .i2l, 1, 0, 0, 0, false), (43, .lcmp, 1, 0, 0, 0, false), (44, .ifCond .ne 18, 3, 62, 0, 0, false), (47, .aload_n 0, 1, 0, 0, 0, false), (48, .iconst 0, 1, 1, 0, 0, false), (49, .iload_n 1, 1, 1, 0, 0, false), (50, .aload_n 0, 1, 0, 0, 0, false), (51, .getfield 13, 3, 4, 2, 0, false), (54, .iload_n 2, 1, 2, 0, 0, false), (55, .laload, 1, 0, 0, 0, false), (56, .invokevirtual 72, 3, 106, 3, 20, false), (59, .goto 7, 3, 66, 0, 0, false), (62, .aload_n 0, 1, 0, 0, 0, false), (63, .invokevirtual 76, 3, 103, 0, 20, false), (66, .ireturn, 1, 0, 0, 0, false)]
def y_M_narrow : MethodName := ⟨rc_M, "narrow", "(II)I"⟩
def md_M_narrow : MD := (rc_M, y_M_narrow, prog_8_method_21_code, 3, (some .int), [], [(0, 66, e117_0)])
abbrev n_M_exact : Nat := 118
def e118_0 : List Ent := [(0, .aload_n 0, 1, 0, 0, 0, false), (1, .iload_n 2, 1, 2, 0, 0, false), (2, .invokestatic 63, 3, 101, 1, 0, false), (5, .ifCond .ne 10, 3, 15, 0, 0, false), (8, .iload_n 3, 1, 3, 0, 0, false), (9, .invokestatic 63, 3, 101, 1, 0, false), (12, .ifCond .eq 7, 3, 19, 0, 0, false), (15, .iconst 1, 1, 2, 0, 0, false), (16, .goto 4, 3, 20, 0, 0, false), (19, .iconst 0, 1, 1, 0, 0, false), (20, .iconst 1, 1, 2, 0, 0, false), (21, .invokevirtual 67, 3, 100, 2, 20, false), (24, .ifCond .ne 27, 3, 51, 0, 0, false), (27, .aload_n 0, 1, 0, 0, 0, false), (28, .iload 4, 2, 4, 0, 0, false), (30, .ifCond .lt 9, 3, 39, 0, 0, false), (33, .iload 4, 2, 4, 0, 0, false), (35, .iconst 2, 1, 3, 0, 0, false), (36, .if_icmp .le 7, 3, 43, 0, 0, false), (39, .iconst 1, 1, 2, 0, 0, false), (40, .goto 4, 3, 44, 0, 0, false), (43, .iconst 0, 1, 1, 0, 0, false), (44, .iconst 2, 1, 3, 0, 0, false), (45, .invokevirtual 29, 3, 99, 2, 20, false), (48, .ifCond .eq 5, 3, 53, 0, 0, false), (51, .iconst 0, 1, 1, 0, 0, false), (52, .ireturn, 1, 0, 0, 0, false), (53, .aload_n 0, 1, 0, 0, 0, false), (54, .iload_n 1, 1, 1, 0, 0, false), (55, .iload_n 2, 1, 2, 0, 0, false), (56, .invokevirtual 36, 3, 105, 2, 20, false), (59, .lstore 5, 2, 5, 0, 0, false), (61, .aload_n 0, 1, 0, 0, 0, false), (62, .iload_n 1, 1, 1, 0, 0, false), (63, .iload_n 3, 1, 3, 0, 0, false), (64, .invokevirtual 36, 3, 105, 2, 20, false), (67, .lstore 7, 2, 7, 0, 0, false), (69, .iload_n 1, 1, 1, 0, 0, false), (70, .lload 5, 2, 5, 0, 0, false), (72, .lload 7, 2, 7, 0, 0, false), (74, .iload 4, 2, 4, 0, 0, false), (76, .invokestatic 80, 3, 109, 4, 0, false), (79, .ifCond .eq 21, 3, 100, 0, 0, false), (82, .aload_n 0, 1, 0, 0, 0, false), (83, .iload_n 1, 1, 1, 0, 0, false), (84, .iload_n 2, 1, 2, 0, 0, false), (85, .lload 5, 2, 5, 0, 0, false), (87, .lload 7, 2, 7, 0, 0, false), (89, .iload 4, 2, 4, 0, 0, false), (91, .invokestatic 46, 3, 108, 3, 0, false), (94, .invokevirtual 72, 3, 106, 3, 20, false), (97, .goto 7, 3, 104, 0, 0, false), (100, .aload_n 0, 1, 0, 0, 0, false), (101, .invokevirtual 76, 3, 103, 0, 20, false), (104, .ireturn, 1, 0, 0, 0, false)]
def y_M_exact : MethodName := ⟨rc_M, "exact", "(ZIII)I"⟩
def md_M_exact : MD := (rc_M, y_M_exact, prog_8_method_22_code, 9, (some .int), [], [(0, 104, e118_0)])
abbrev n_M_fits : Nat := 119
def e119_0 : List Ent := [(0, .aload_n 0, 1, 0, 0, 0, false), (1, .iload_n 2, 1, 2, 0, 0, false), (2, .invokestatic 63, 3, 101, 1, 0, false), (5, .ifCond .ne 10, 3, 15, 0, 0, false), (8, .iload_n 3, 1, 3, 0, 0, false), (9, .invokestatic 63, 3, 101, 1, 0, false), (12, .ifCond .eq 7, 3, 19, 0, 0, false), (15, .iconst 1, 1, 2, 0, 0, false), (16, .goto 4, 3, 20, 0, 0, false), (19, .iconst 0, 1, 1, 0, 0, false), (20, .iconst 1, 1, 2, 0, 0, false), (21, .invokevirtual 67, 3, 100, 2, 20, false), (24, .ifCond .ne 52, 3, 76, 0, 0, false), (27, .aload_n 0, 1, 0, 0, 0, false), (28, .iload 4, 2, 4, 0, 0, false), (30, .ifCond .lt 9, 3, 39, 0, 0, false), (33, .iload 4, 2, 4, 0, 0, false), (35, .iconst 2, 1, 3, 0, 0, false), (36, .if_icmp .le 7, 3, 43, 0, 0, false), (39, .iconst 1, 1, 2, 0, 0, false), (40, .goto 4, 3, 44, 0, 0, false), (43, .iconst 0, 1, 1, 0, 0, false), (44, .iconst 2, 1, 3, 0, 0, false), (45, .invokevirtual 29, 3, 99, 2, 20, false), (48, .ifCond .ne 28, 3, 76, 0, 0, false), (51, .iload_n 1, 1, 1, 0, 0, false), (52, .aload_n 0, 1, 0, 0, 0, false), (53, .iload_n 1, 1, 1, 0, 0, false), (54, .iload_n 2, 1, 2, 0, 0, false), (55, .invokevirtual 36, 3, 105, 2, 20, false), (58, .aload_n 0, 1, 0, 0, 0, false), (59, .iload_n 1, 1, 1, 0, 0, false), (60, .iload_n 3, 1, 3, 0, 0, false), (61, .invokevirtual 36, 3, 105, 2, 20, false), (64, .iload 4, 2, 4, 0, 0, false), (66, .invokestatic 80, 3, 109, 4, 0, false), (69, .ifCond .eq 7, 3, 76, 0, 0, false), (72, .iconst 1, 1, 2, 0, 0, false), (73, .goto 4, 3, 77, 0, 0, false), (76, .iconst 0, 1, 1, 0, 0, false), (77, .ireturn, 1, 0, 0, 0, false)]
def y_M_fits : MethodName := ⟨rc_M, "fits", "(ZIII)Z"⟩
def md_M_fits : MD := (rc_M, y_M_fits, prog_8_method_23_code, 5, (some .boolean), [], [(0, 77, e119_0)])
abbrev n_M_alone : Nat := 120
def e120_0 : List Ent := [(0, .aload_n 0, 1, 0, 0, 0, false), (1, .iload_n 2, 1, 2, 0, 0, false), (2, .invokestatic 63, 3, 101, 1, 0, false), (5, .iconst 1, 1, 2, 0, 0, false), (6, .invokevirtual 67, 3, 100, 2, 20, false), (9, .ifCond .ne 25, 3, 34, 0, 0, false), (12, .aload_n 0, 1, 0, 0, 0, false), (13, .iload_n 3, 1, 3, 0, 0, false), (14, .ifCond .lt 8, 3, 22, 0, 0, false), (17, .iload_n 3, 1, 3, 0, 0, false), (18, .iconst 2, 1, 3, 0, 0, false), (19, .if_icmp .le 7, 3, 26, 0, 0, false), (22, .iconst 1, 1, 2, 0, 0, false), (23, .goto 4, 3, 27, 0, 0, false), (26, .iconst 0, 1, 1, 0, 0, false), (27, .iconst 2, 1, 3, 0, 0, false), (28, .invokevirtual 29, 3, 99, 2, 20, false), (31, .ifCond .eq 5, 3, 36, 0, 0, false), (34, .iconst 0, 1, 1, 0, 0, false), (35, .ireturn, 1, 0, 0, 0, false), (36, .aload_n 0, 1, 0, 0, 0, false), (37, .iload_n 1, 1, 1, 0, 0, false), (38, .iload_n 2, 1, 2, 0, 0, false), (39, .invokevirtual 36, 3, 105, 2, 20, false), (42, .lstore 4, 2, 4, 0, 0, false), (44, .iload_n 3, 1, 3, 0, 0, false), (45, .iconst 2, 1, 3, 0, 0, false), (46, .if_icmp .ne 31, 3, 77, 0, 0, false), (49, .iload_n 1, 1, 1, 0, 0, false), (50, .lconst 0, 1, 0, 0, 0, false), (51, .lload 4, 2, 4, 0, 0, false), (53, .iconst 1, 1, 2, 0, 0, false), (54, .invokestatic 80, 3, 109, 4, 0, false), (57, .ifCond .eq 15, 3, 72, 0, 0, false), (60, .aload_n 0, 1, 0, 0, 0, false), (61, .iload_n 1, 1, 1, 0, 0, false), (62, .iload_n 2, 1, 2, 0, 0, false), (63, .lload 4, 2, 4, 0, 0, false), (65, .lneg, 1, 0, 0, 0, false), (66, .invokevirtual 72, 3, 106, 3, 20, false), (69, .goto 7, 3, 76, 0, 0, false), (72, .aload_n 0, 1, 0, 0, 0, false), (73, .invokevirtual 76, 3, 103, 0, 20, false), (76, .ireturn, 1, 0, 0, 0, false), (77, .iload_n 1, 1, 1, 0, 0, false), (78, .lload 4, 2, 4, 0, 0, false), (80, .lconst 1, 1, 1, 0, 0, false), (81, .iload_n 3, 1, 3, 0, 0, false), (82, .invokestatic 80, 3, 109, 4, 0, false), (85, .ifCond .eq 19, 3, 104, 0, 0, false), (88, .aload_n 0, 1, 0, 0, 0, false), (89, .iload_n 1, 1, 1, 0, 0, false), (90, .iload_n 2, 1, 2, 0, 0, false), (91, .lload 4, 2, 4, 0, 0, false), (93, .lconst 1, 1, 1, 0, 0, false), (94, .iload_n 3, 1, 3, 0, 0, false), (95, .invokestatic 46, 3, 108, 3, 0, false), (98, .invokevirtual 72, 3, 106, 3, 20, false), (101, .goto 7, 3, 108, 0, 0, false), (104, .aload_n 0, 1, 0, 0, 0, false), (105, .invokevirtual 76, 3, 103, 0, 20, false), (108, .ireturn, 1, 0, 0, 0, false)]
def y_M_alone : MethodName := ⟨rc_M, "alone", "(ZII)I"⟩
def md_M_alone : MD := (rc_M, y_M_alone, prog_8_method_24_code, 6, (some .int), [], [(0, 108, e120_0)])
abbrev n_M_timesInt : Nat := 121
def e121_0 : List Ent := [(0, .aload_n 0, 1, 0, 0, 0, false), (1, .iload_n 1, 1, 1, 0, 0, false), (2, .invokestatic 63, 3, 101, 1, 0, false), (5, .ifCond .ne 10, 3, 15, 0, 0, false), (8, .iload_n 2, 1, 2, 0, 0, false), (9, .invokestatic 63, 3, 101, 1, 0, false), (12, .ifCond .eq 7, 3, 19, 0, 0, false), (15, .iconst 1, 1, 2, 0, 0, false), (16, .goto 4, 3, 20, 0, 0, false), (19, .iconst 0, 1, 1, 0, 0, false), (20, .iconst 1, 1, 2, 0, 0, false), (21, .invokevirtual 67, 3, 100, 2, 20, false), (24, .ifCond .eq 5, 3, 29, 0, 0, false), (27, .iconst 0, 1, 1, 0, 0, false), (28, .ireturn, 1, 0, 0, 0, false), (29, .iconst 1, 1, 2, 0, 0, false), (30, .aload_n 0, 1, 0, 0, 0, false), (31, .getfield 13, 3, 4, 2, 0, false), (34, .iload_n 1, 1, 1, 0, 0, false), (35, .laload, 1, 0, 0, 0, false), (36, .aload_n 0, 1, 0, 0, 0, false), (37, .getfield 7, 3, 4, 1, 0, false), (40, .iload_n 2, 1, 2, 0, 0, false), (41, .laload, 1, 0, 0, 0, false), (42, .iconst 2, 1, 3, 0, 0, false), (43, .invokestatic 80, 3, 109, 4, 0, false), (46, .ifCond .eq 25, 3, 71, 0, 0, false), (49, .aload_n 0, 1, 0, 0, 0, false), (50, .iconst 1, 1, 2, 0, 0, false), (51, .iload_n 1, 1, 1, 0, 0, false), (52, .aload_n 0, 1, 0, 0, 0, false), (53, .getfield 13, 3, 4, 2, 0, false), (56, .iload_n 1, 1, 1, 0, 0, false), (57, .laload, 1, 0, 0, 0, false), (58, .aload_n 0, 1, 0, 0, 0, false), (59, .getfield 7, 3, 4, 1, 0, false), (62, .iload_n 2, 1, 2, 0, 0, false), (63, .laload, 1, 0, 0, 0, false), (64, .lmul, 1, 0, 0, 0, false), (65, .invokevirtual 72, 3, 106, 3, 20, false), (68, .goto 7, 3, 75, 0, 0, false), (71, .aload_n 0, 1, 0, 0, 0, false), (72, .invokevirtual 76, 3, 103, 0, 20, false), (75, .ireturn, 1, 0, 0, 0, false)]
def y_M_timesInt : MethodName := ⟨rc_M, "timesInt", "(II)I"⟩
def md_M_timesInt : MD := (rc_M, y_M_timesInt, prog_8_method_25_code, 3, (some .int), [], [(0, 75, e121_0)])
abbrev n_M_full : Nat := 122
def e122_0 : List Ent := [(0, .aload_n 0, 1, 0, 0, 0, false), (1, .iload_n 1, 1, 1, 0, 0, false), (2, .invokestatic 63, 3, 101, 1, 0, false), (5, .ifCond .ne 17, 3, 22, 0, 0, false), (8, .iload_n 2, 1, 2, 0, 0, false), (9, .invokestatic 63, 3, 101, 1, 0, false), (12, .ifCond .ne 10, 3, 22, 0, 0, false), (15, .iload_n 3, 1, 3, 0, 0, false), (16, .invokestatic 63, 3, 101, 1, 0, false), (19, .ifCond .eq 7, 3, 26, 0, 0, false), (22, .iconst 1, 1, 2, 0, 0, false), (23, .goto 4, 3, 27, 0, 0, false), (26, .iconst 0, 1, 1, 0, 0, false), (27, .iconst 1, 1, 2, 0, 0, false), (28, .invokevirtual 67, 3, 100, 2, 20, false), (31, .ifCond .eq 7, 3, 38, 0, 0, false), (34, .iconst 0, 1, 1, 0, 0, false), (35, .goto 22, 3, 57, 0, 0, false), (38, .aload_n 0, 1, 0, 0, 0, false), (39, .iconst 1, 1, 2, 0, 0, false), (40, .iload_n 1, 1, 1, 0, 0, false), (41, .aload_n 0, 1, 0, 0, 0, false), (42, .getfield 7, 3, 4, 1, 0, false), (45, .iload_n 2, 1, 2, 0, 0, false), (46, .laload, 1, 0, 0, 0, false), (47, .aload_n 0, 1, 0, 0, 0, false), (48, .getfield 7, 3, 4, 1, 0, false), (51, .iload_n 3, 1, 3, 0, 0, false), (52, .laload, 1, 0, 0, 0, false), (53, .lmul, 1, 0, 0, 0, false), (54, .invokevirtual 72, 3, 106, 3, 20, false), (57, .ireturn, 1, 0, 0, 0, false)]
def y_M_full : MethodName := ⟨rc_M, "full", "(III)I"⟩
def md_M_full : MD := (rc_M, y_M_full, prog_8_method_26_code, 4, (some .int), [], [(0, 57, e122_0)])
abbrev n_M_high : Nat := 123
def e123_0 : List Ent := [(0, .aload_n 0, 1, 0, 0, 0, false), (1, .iload_n 1, 1, 1, 0, 0, false), (2, .invokestatic 63, 3, 101, 1, 0, false), (5, .ifCond .ne 17, 3, 22, 0, 0, false), (8, .iload_n 2, 1, 2, 0, 0, false), (9, .invokestatic 63, 3, 101, 1, 0, false), (12, .ifCond .ne 10, 3, 22, 0, 0, false), (15, .iload_n 3, 1, 3, 0, 0, false), (16, .invokestatic 63, 3, 101, 1, 0, false), (19, .ifCond .eq 7, 3, 26, 0, 0, false), (22, .iconst 1, 1, 2, 0, 0, false), (23, .goto 4, 3, 27, 0, 0, false), (26, .iconst 0, 1, 1, 0, 0, false), (27, .iconst 1, 1, 2, 0, 0, false), (28, .invokevirtual 67, 3, 100, 2, 20, false), (31, .ifCond .eq 7, 3, 38, 0, 0, false), (34, .iconst 0, 1, 1, 0, 0, false), (35, .goto 24, 3, 59, 0, 0, false), (38, .aload_n 0, 1, 0, 0, 0, false), (39, .iconst 1, 1, 2, 0, 0, false), (40, .iload_n 1, 1, 1, 0, 0, false), (41, .aload_n 0, 1, 0, 0, 0, false), (42, .getfield 13, 3, 4, 2, 0, false), (45, .iload_n 2, 1, 2, 0, 0, false), (46, .laload, 1, 0, 0, 0, false), (47, .aload_n 0, 1, 0, 0, 0, false), (48, .getfield 13, 3, 4, 2, 0, false), (51, .iload_n 3, 1, 3, 0, 0, false), (52, .laload, 1, 0, 0, 0, false), (53, .invokestatic 50, 3, 107, 2, 0, false), (56, .invokevirtual 72, 3, 106, 3, 20, false), (59, .ireturn, 1, 0, 0, 0, false)]
def y_M_high : MethodName := ⟨rc_M, "high", "(III)I"⟩
def md_M_high : MD := (rc_M, y_M_high, prog_8_method_27_code, 4, (some .int), [], [(0, 59, e123_0)])
abbrev n_M_round : Nat := 124
def e124_0 : List Ent := [(0, .aload_n 0, 1, 0, 0, 0, false), (1, .iload_n 2, 1, 2, 0, 0, false), (2, .invokestatic 63, 3, 101, 1, 0, false), (5, .ifCond .ne 10, 3, 15, 0, 0, false), (8, .iload_n 3, 1, 3, 0, 0, false), (9, .invokestatic 63, 3, 101, 1, 0, false), (12, .ifCond .eq 7, 3, 19, 0, 0, false), (15, .iconst 1, 1, 2, 0, 0, false), (16, .goto 4, 3, 20, 0, 0, false), (19, .iconst 0, 1, 1, 0, 0, false), (20, .iconst 1, 1, 2, 0, 0, false), (21, .invokevirtual 67, 3, 100, 2, 20, false), (24, .ifCond .ne 27, 3, 51, 0, 0, false), (27, .aload_n 0, 1, 0, 0, 0, false), (28, .iload 4, 2, 4, 0, 0, false), (30, .ifCond .lt 9, 3, 39, 0, 0, false), (33, .iload 4, 2, 4, 0, 0, false), (35, .iconst 2, 1, 3, 0, 0, false), (36, .if_icmp .le 7, 3, 43, 0, 0, false), (39, .iconst 1, 1, 2, 0, 0, false), (40, .goto 4, 3, 44, 0, 0, false), (43, .iconst 0, 1, 1, 0, 0, false), (44, .iconst 2, 1, 3, 0, 0, false), (45, .invokevirtual 29, 3, 99, 2, 20, false), (48, .ifCond .eq 5, 3, 53, 0, 0, false), (51, .iconst 0, 1, 1, 0, 0, false), (52, .ireturn, 1, 0, 0, 0, false), (53, .aload_n 0, 1, 0, 0, 0, false), (54, .iload_n 1, 1, 1, 0, 0, false), (55, .iload_n 2, 1, 2, 0, 0, false), (56, .aload_n 0, 1, 0, 0, 0, false), (57, .iload_n 1, 1, 1, 0, 0, false), (58, .iload_n 2, 1, 2, 0, 0, false), (59, .invokevirtual 36, 3, 105, 2, 20, false), (62, .aload_n 0, 1, 0, 0, 0, false), (63, .iload_n 1, 1, 1, 0, 0, false), (64, .iload_n 3, 1, 3, 0, 0, false), (65, .invokevirtual 36, 3, 105, 2, 20, false), (68, .iload 4, 2, 4, 0, 0, false), (70, .invokestatic 46, 3, 108, 3, 0, false), (73, .invokevirtual 72, 3, 106, 3, 20, false), (76, .ireturn, 1, 0, 0, 0, false)]
def y_M_round : MethodName := ⟨rc_M, "round", "(ZIII)I"⟩
def md_M_round : MD := (rc_M, y_M_round, prog_8_method_28_code, 5, (some .int), [], [(0, 76, e124_0)])
abbrev n_M_abs : Nat := 125
def e125_0 : List Ent := [(0, .aload_n 0, 1, 0, 0, 0, false), (1, .iload_n 2, 1, 2, 0, 0, false), (2, .invokestatic 63, 3, 101, 1, 0, false), (5, .iconst 1, 1, 2, 0, 0, false), (6, .invokevirtual 67, 3, 100, 2, 20, false), (9, .ifCond .eq 5, 3, 14, 0, 0, false), (12, .iconst 0, 1, 1, 0, 0, false), (13, .ireturn, 1, 0, 0, 0, false), (14, .aload_n 0, 1, 0, 0, 0, false), (15, .iload_n 1, 1, 1, 0, 0, false), (16, .iload_n 2, 1, 2, 0, 0, false), (17, .invokevirtual 36, 3, 105, 2, 20, false), (20, .lconst 0, 1, 0, 0, 0, false), (21, .lcmp, 1, 0, 0, 0, false), (22, .ifCond .ge 19, 3, 41, 0, 0, false), (25, .aload_n 0, 1, 0, 0, 0, false), (26, .iload_n 1, 1, 1, 0, 0, false), (27, .iload_n 2, 1, 2, 0, 0, false), (28, .aload_n 0, 1, 0, 0, 0, false), (29, .iload_n 1, 1, 1, 0, 0, false), (30, .iload_n 2, 1, 2, 0, 0, false), (31, .invokevirtual 36, 3, 105, 2, 20, false), (34, .lneg, 1, 0, 0, 0, false), (35, .invokevirtual 72, 3, 106, 3, 20, false), (38, .goto 12, 3, 50, 0, 0, false), (41, .aload_n 0, 1, 0, 0, 0, false), (42, .iload_n 1, 1, 1, 0, 0, false), (43, .iload_n 2, 1, 2, 0, 0, false), (44, .invokevirtual 36, 3, 105, 2, 20, false), (47, .invokestatic 40, 3, 104, 1, 0, false), (50, .ireturn, 1, 0, 0, 0, false)]
def y_M_abs : MethodName := ⟨rc_M, "abs", "(ZI)I"⟩
def md_M_abs : MD := (rc_M, y_M_abs, prog_8_method_29_code, 3, (some .int), [], [(0, 50, e125_0)])
abbrev n_M_extreme : Nat := 126
def e126_0 : List Ent := [(0, .aload_n 0, 1, 0, 0, 0, false), (1, .iload_n 2, 1, 2, 0, 0, false), (2, .invokestatic 63, 3, 101, 1, 0, false), (5, .ifCond .ne 10, 3, 15, 0, 0, false), (8, .iload_n 3, 1, 3, 0, 0, false), (9, .invokestatic 63, 3, 101, 1, 0, false), (12, .ifCond .eq 7, 3, 19, 0, 0, false), (15, .iconst 1, 1, 2, 0, 0, false), (16, .goto 4, 3, 20, 0, 0, false), (19, .iconst 0, 1, 1, 0, 0, false), (20, .iconst 1, 1, 2, 0, 0, false), (21, .invokevirtual 67, 3, 100, 2, 20, false), (24, .ifCond .eq 5, 3, 29, 0, 0, false), (27, .iconst 0, 1, 1, 0, 0, false), (28, .ireturn, 1, 0, 0, 0, false), (29, .aload_n 0, 1, 0, 0, 0, false), (30, .iload_n 1, 1, 1, 0, 0, false), (31, .iload_n 2, 1, 2, 0, 0, false), (32, .invokevirtual 36, 3, 105, 2, 20, false), (35, .lstore 5, 2, 5, 0, 0, false), (37, .aload_n 0, 1, 0, 0, 0, false), (38, .iload_n 1, 1, 1, 0, 0, false), (39, .iload_n 3, 1, 3, 0, 0, false), (40, .invokevirtual 36, 3, 105, 2, 20, false), (43, .lstore 7, 2, 7, 0, 0, false), (45, .iload 4, 2, 4, 0, 0, false), (47, .ifCond .eq 14, 3, 61, 0, 0, false), (50, .lload 5, 2, 5, 0, 0, false), (52, .lload 7, 2, 7, 0, 0, false), (54, .lcmp, 1, 0, 0, 0, false), (55, .ifCond .lt 16, 3, 71, 0, 0, false), (58, .goto 11, 3, 69, 0, 0, false), (61, .lload 5, 2, 5, 0, 0, false), (63, .lload 7, 2, 7, 0, 0, false), (65, .lcmp, 1, 0, 0, 0, false), (66, .ifCond .gt 5, 3, 71, 0, 0, false), (69, .iconst 0, 1, 1, 0, 0, false), (70, .ireturn, 1, 0, 0, 0, false), (71, .aload_n 0, 1, 0, 0, 0, false), (72, .iload_n 1, 1, 1, 0, 0, false), (73, .iload_n 2, 1, 2, 0, 0, false), (74, .lload 7, 2, 7, 0, 0, false), (76, .invokevirtual 72, 3, 106, 3, 20, false), (79, .pop, 1, 0, 0, 0, false), (80, .iconst 1, 1, 2, 0, 0, false), (81, .ireturn, 1, 0, 0, 0, false)]
def y_M_extreme : MethodName := ⟨rc_M, "extreme", "(ZIIZ)I"⟩
def md_M_extreme : MD := (rc_M, y_M_extreme, prog_8_method_30_code, 9, (some .int), [], [(0, 81, e126_0)])
abbrev n_M_floor : Nat := 127
def e127_0 : List Ent := [(0, .aload_n 0, 1, 0, 0, 0, false), (1, .iload_n 2, 1, 2, 0, 0, false), (2, .invokestatic 63, 3, 101, 1, 0, false), (5, .ifCond .ne 10, 3, 15, 0, 0, false), (8, .iload_n 3, 1, 3, 0, 0, false), (9, .invokestatic 63, 3, 101, 1, 0, false), (12, .ifCond .eq 7, 3, 19, 0, 0, false), (15, .iconst 1, 1, 2, 0, 0, false), (16, .goto 4, 3, 20, 0, 0, false), (19, .iconst 0, 1, 1, 0, 0, false), (20, .iconst 1, 1, 2, 0, 0, false), (21, .invokevirtual 67, 3, 100, 2, 20, false), (24, .ifCond .eq 5, 3, 29, 0, 0, false), (27, .iconst 0, 1, 1, 0, 0, false), (28, .ireturn, 1, 0, 0, 0, false), (29, .aload_n 0, 1, 0, 0, 0, false), (30, .iload_n 1, 1, 1, 0, 0, false), (31, .iload_n 3, 1, 3, 0, 0, false), (32, .invokevirtual 36, 3, 105, 2, 20, false), (35, .lstore 5, 2, 5, 0, 0, false), (37, .lload 5, 2, 5, 0, 0, false), (39, .lconst 0, 1, 0, 0, 0, false), (40, .lcmp, 1, 0, 0, 0, false), (41, .ifCond .ne 8, 3, 49, 0, 0, false), (44, .aload_n 0, 1, 0, 0, 0, false), (45, .invokevirtual 76, 3, 103, 0, 20, false), (48, .ireturn, 1, 0, 0, 0, false), (49, .aload_n 0, 1, 0, 0, 0, false), (50, .iload_n 1, 1, 1, 0, 0, false), (51, .iload_n 2, 1, 2, 0, 0, false), (52, .iload 4, 2, 4, 0, 0, false), (54, .ifCond .eq 17, 3, 71, 0, 0, false), (57, .aload_n 0, 1, 0, 0, 0, false), (58, .iload_n 1, 1, 1, 0, 0, false), (59, .iload_n 2, 1, 2, 0, 0, false), (60, .invokevirtual 36, 3, 105, 2, 20, false), (63, .lload 5, 2, 5, 0, 0, false), (65, .invokestatic 60, 3, 111, 2, 0, false), (68, .goto 14, 3, 82, 0, 0, false), (71, .aload_n 0, 1, 0, 0, 0, false), (72, .iload_n 1, 1, 1, 0, 0, false), (73, .iload_n 2, 1, 2, 0, 0, false), (74, .invokevirtual 36, 3, 105, 2, 20, false), (77, .lload 5, 2, 5, 0, 0, false), (79, .invokestatic 84, 3, 110, 2, 0, false), (82, .invokevirtual 72, 3, 106, 3, 20, false), (85, .ireturn, 1, 0, 0, 0, false)]
def y_M_floor : MethodName := ⟨rc_M, "floo\x72", "(ZIIZ)I"⟩
def md_M_floor : MD := (rc_M, y_M_floor, prog_8_method_31_code, 7, (some .int), [], [(0, 85, e127_0)])
abbrev n_M_floorInt : Nat := 128
def e128_0 : List Ent := [(0, .aload_n 0, 1, 0, 0, 0, false), (1, .iload_n 1, 1, 1, 0, 0, false), (2, .invokestatic 63, 3, 101, 1, 0, false), (5, .ifCond .ne 10, 3, 15, 0, 0, false), (8, .iload_n 2, 1, 2, 0, 0, false), (9, .invokestatic 63, 3, 101, 1, 0, false), (12, .ifCond .eq 7, 3, 19, 0, 0, false), (15, .iconst 1, 1, 2, 0, 0, false), (16, .goto 4, 3, 20, 0, 0, false), (19, .iconst 0, 1, 1, 0, 0, false), (20, .iconst 1, 1, 2, 0, 0, false), (21, .invokevirtual 67, 3, 100, 2, 20, false), (24, .ifCond .eq 5, 3, 29, 0, 0, false), (27, .iconst 0, 1, 1, 0, 0, false), (28, .ireturn, 1, 0, 0, 0, false), (29, .aload_n 0, 1, 0, 0, 0, false), (30, .getfield 7, 3, 4, 1, 0, false), (33, .iload_n 2, 1, 2, 0, 0, false), (34, .laload, 1, 0, 0, 0, false), (35, .lconst 0, 1, 0, 0, 0, false), (36, .lcmp, 1, 0, 0, 0, false), (37, .ifCond .ne 8, 3, 45, 0, 0, false), (40, .aload_n 0, 1, 0, 0, 0, false), (41, .invokevirtual 76, 3, 103, 0, 20, false), (44, .ireturn, 1, 0, 0, 0, false), (45, .aload_n 0, 1, 0, 0, 0, false), (46, .iconst 1, 1, 2, 0, 0, false), (47, .iload_n 1, 1, 1, 0, 0, false), (48, .iload_n 3, 1, 3, 0, 0, false), (49, .ifCond .eq 21, 3, 70, 0, 0, false), (52, .aload_n 0, 1, 0, 0, 0, false), (53, .getfield 13, 3, 4, 2, 0, false), (56, .iload_n 1, 1, 1, 0, 0, false), (57, .laload, 1, 0, 0, 0, false), (58, .aload_n 0, 1, 0, 0, 0, false), (59, .getfield 7, 3, 4, 1, 0, false), (62, .iload_n 2, 1, 2, 0, 0, false), (63, .laload, 1, 0, 0, 0, false), (64, .invokestatic 60, 3, 111, 2, 0, false), (67, .goto 18, 3, 85, 0, 0, false), (70, .aload_n 0, 1, 0, 0, 0, false), (71, .getfield 13, 3, 4, 2, 0, false), (74, .iload_n 1, 1, 1, 0, 0, false), (75, .laload, 1, 0, 0, 0, false), (76, .aload_n 0, 1, 0, 0, 0, false), (77, .getfield 7, 3, 4, 1, 0, false), (80, .iload_n 2, 1, 2, 0, 0, false), (81, .laload, 1, 0, 0, 0, false), (82, .invokestatic 84, 3, 110, 2, 0, false), (85, .invokevirtual 72, 3, 106, 3, 20, false), (88, .ireturn, 1, 0, 0, 0, false)]
def y_M_floorInt : MethodName := ⟨rc_M, "floorInt", "(IIZ)I"⟩
def md_M_floorInt : MD := (rc_M, y_M_floorInt, prog_8_method_32_code, 4, (some .int), [], [(0, 88, e128_0)])
abbrev n_M_towards : Nat := 129
def e129_0 : List Ent := [(0, .aload_n 0, 1, 0, 0, 0, false), (1, .iload_n 2, 1, 2, 0, 0, false), (2, .invokestatic 63, 3, 101, 1, 0, false), (5, .ifCond .ne 10, 3, 15, 0, 0, false), (8, .iload_n 3, 1, 3, 0, 0, false), (9, .invokestatic 63, 3, 101, 1, 0, false), (12, .ifCond .eq 7, 3, 19, 0, 0, false), (15, .iconst 1, 1, 2, 0, 0, false), (16, .goto 4, 3, 20, 0, 0, false), (19, .iconst 0, 1, 1, 0, 0, false), (20, .iconst 1, 1, 2, 0, 0, false), (21, .invokevirtual 67, 3, 100, 2, 20, false), (24, .ifCond .eq 5, 3, 29, 0, 0, false), (27, .iconst 0, 1, 1, 0, 0, false), (28, .ireturn, 1, 0, 0, 0, false), (29, .aload_n 0, 1, 0, 0, 0, false), (30, .iload_n 1, 1, 1, 0, 0, false), (31, .iload_n 3, 1, 3, 0, 0, false), (32, .invokevirtual 36, 3, 105, 2, 20, false), (35, .lstore 5, 2, 5, 0, 0, false), (37, .lload 5, 2, 5, 0, 0, false), (39, .lconst 0, 1, 0, 0, 0, false), (40, .lcmp, 1, 0, 0, 0, false), (41, .ifCond .ne 8, 3, 49, 0, 0, false), (44, .aload_n 0, 1, 0, 0, 0, false), (45, .invokevirtual 76, 3, 103, 0, 20, false), (48, .ireturn, 1, 0, 0, 0, false), (49, .aload_n 0, 1, 0, 0, 0, false), (50, .iload_n 1, 1, 1, 0, 0, false), (51, .iload_n 2, 1, 2, 0, 0, false), (52, .iload 4, 2, 4, 0, 0, false), (54, .ifCond .eq 15, 3, 69, 0, 0, false), (57, .aload_n 0, 1, 0, 0, 0, false), (58, .iload_n 1, 1, 1, 0, 0, false), (59, .iload_n 2, 1, 2, 0, 0, false), (60, .invokevirtual 36, 3, 105, 2, 20, false), (63, .lload 5, 2, 5, 0, 0, false), (65, .lrem, 1, 0, 0, 0, false), (66, .goto 12, 3, 78, 0, 0, false), (69, .aload_n 0, 1, 0, 0, 0, false), (70, .iload_n 1, 1, 1, 0, 0, false), (71, .iload_n 2, 1, 2, 0, 0, false), (72, .invokevirtual 36, 3, 105, 2, 20, false), (75, .lload 5, 2, 5, 0, 0, false), (77, .ldiv, 1, 0, 0, 0, false), (78, .invokevirtual 72, 3, 106, 3, 20, false), (81, .ireturn, 1, 0, 0, 0, false)]
def y_M_towards : MethodName := ⟨rc_M, "towards", "(ZIIZ)I"⟩
def md_M_towards : MD := (rc_M, y_M_towards, prog_8_method_33_code, 7, (some .int), [], [(0, 81, e129_0)])
abbrev n_M_average : Nat := 130
def e130_0 : List Ent := [(0, .aload_n 0, 1, 0, 0, 0, false), (1, .iload_n 2, 1, 2, 0, 0, false), (2, .invokestatic 63, 3, 101, 1, 0, false), (5, .ifCond .ne 10, 3, 15, 0, 0, false), (8, .iload_n 3, 1, 3, 0, 0, false), (9, .invokestatic 63, 3, 101, 1, 0, false), (12, .ifCond .eq 7, 3, 19, 0, 0, false), (15, .iconst 1, 1, 2, 0, 0, false), (16, .goto 4, 3, 20, 0, 0, false), (19, .iconst 0, 1, 1, 0, 0, false), (20, .iconst 1, 1, 2, 0, 0, false), (21, .invokevirtual 67, 3, 100, 2, 20, false), (24, .ifCond .eq 5, 3, 29, 0, 0, false), (27, .iconst 0, 1, 1, 0, 0, false), (28, .ireturn, 1, 0, 0, 0, false), (29, .aload_n 0, 1, 0, 0, 0, false), (30, .iload_n 1, 1, 1, 0, 0, false), (31, .iload_n 2, 1, 2, 0, 0, false), (32, .invokevirtual 36, 3, 105, 2, 20, false), (35, .lstore 5, 2, 5, 0, 0, false), (37, .aload_n 0, 1, 0, 0, 0, false), (38, .iload_n 1, 1, 1, 0, 0, false), (39, .iload_n 3, 1, 3, 0, 0, false), (40, .invokevirtual 36, 3, 105, 2, 20, false), (43, .lstore 7, 2, 7, 0, 0, false), (45, .lload 5, 2, 5, 0, 0, false), (47, .lload 7, 2, 7, 0, 0, false), (49, .lxor, 1, 0, 0, 0, false), (50, .lconst 1, 1, 1, 0, 0, false), (51, .land, 1, 0, 0, 0, false), (52, .lstore 9, 2, 9, 0, 0, false), (54, .lload 5, 2, 5, 0, 0, false), (56, .iconst 1, 1, 2, 0, 0, false), (57, .lshr, 1, 0, 0, 0, false), (58, .lload 7, 2, 7, 0, 0, false), (60, .iconst 1, 1, 2, 0, 0, false), (61, .lshr, 1, 0, 0, 0, false), (62, .ladd, 1, 0, 0, 0, false), (63, .lload 5, 2, 5, 0, 0, false), (65, .lload 7, 2, 7, 0, 0, false), (67, .land, 1, 0, 0, 0, false), (68, .lconst 1, 1, 1, 0, 0, false), (69, .land, 1, 0, 0, 0, false), (70, .ladd, 1, 0, 0, 0, false), (71, .lstore 11, 2, 11, 0, 0, false), (73, .aload_n 0, 1, 0, 0, 0, false), (74, .iload_n 1, 1, 1, 0, 0, false), (75, .iload_n 2, 1, 2, 0, 0, false), (76, .iload 4, 2, 4, 0, 0, false), (78, .ifCond .eq 11, 3, 89, 0, 0, false), (81, .lload 11, 2, 11, 0, 0, false), (83, .lload 9, 2, 9, 0, 0, false), (85, .ladd, 1, 0, 0, 0, false), (86, .goto 5, 3, 91, 0, 0, false), (89, .lload 11, 2, 11, 0, 0, false), (91, .invokevirtual 72, 3, 106, 3, 20, false), (94, .ireturn, 1, 0, 0, 0, false)]
def y_M_average : MethodName := ⟨rc_M, "average", "(ZIIZ)I"⟩
def md_M_average : MD := (rc_M, y_M_average, prog_8_method_34_code, 13, (some .int), [], [(0, 94, e130_0)])
abbrev n_M_areWrong : Nat := 131
def e131_0 : List Ent := [(0, .iload_n 0, 1, 0, 0, 0, false), (1, .iconst 1, 1, 2, 0, 0, false), (2, .if_icmp .lt 13, 3, 15, 0, 0, false), (5, .iload_n 1, 1, 1, 0, 0, false), (6, .iconst 1, 1, 2, 0, 0, false), (7, .if_icmp .lt 8, 3, 15, 0, 0, false), (10, .iload_n 2, 1, 2, 0, 0, false), (11, .iconst 1, 1, 2, 0, 0, false), (12, .if_icmp .ge 7, 3, 19, 0, 0, false), (15, .iconst 1, 1, 2, 0, 0, false), (16, .goto 4, 3, 20, 0, 0, false), (19, .iconst 0, 1, 1, 0, 0, false), (20, .ireturn, 1, 0, 0, 0, false)]
def y_M_areWrong : MethodName := ⟨rc_M, "areWrong", "(III)Z"⟩
def md_M_areWrong : MD := (rc_M, y_M_areWrong, prog_8_method_35_code, 3, (some .boolean), [], [(0, 20, e131_0)])
abbrev n_M_chain : Nat := 132
def e132_0 : List Ent := [(0, .aload_n 0, 1, 0, 0, 0, false), (1, .iload_n 1, 1, 1, 0, 0, false), (2, .invokestatic 63, 3, 101, 1, 0, false), (5, .iconst 1, 1, 2, 0, 0, false), (6, .invokevirtual 67, 3, 100, 2, 20, false), (9, .ifCond .ne 18, 3, 27, 0, 0, false), (12, .aload_n 0, 1, 0, 0, 0, false), (13, .iload_n 2, 1, 2, 0, 0, false), (14, .iload_n 3, 1, 3, 0, 0, false), (15, .iload 4, 2, 4, 0, 0, false), (17, .invokestatic 87, 3, 131, 3, 0, false), (20, .iconst 2, 1, 3, 0, 0, false), (21, .invokevirtual 29, 3, 99, 2, 20, false), (24, .ifCond .eq 5, 3, 29, 0, 0, false), (27, .iconst 0, 1, 1, 0, 0, false), (28, .ireturn, 1, 0, 0, 0, false), (29, .aload_n 0, 1, 0, 0, 0, false), (30, .iconst 1, 1, 2, 0, 0, false), (31, .iload_n 1, 1, 1, 0, 0, false), (32, .aload_n 0, 1, 0, 0, 0, false), (33, .getfield 13, 3, 4, 2, 0, false), (36, .iload_n 1, 1, 1, 0, 0, false), (37, .laload, 1, 0, 0, 0, false), (38, .iload_n 2, 1, 2, 0, 0, false), (39, .i2l, 1, 0, 0, 0, false), (40, .invokestatic 84, 3, 110, 2, 0, false), (43, .iload_n 3, 1, 3, 0, 0, false), (44, .i2l, 1, 0, 0, 0, false), (45, .invokestatic 84, 3, 110, 2, 0, false), (48, .iload 4, 2, 4, 0, 0, false), (50, .i2l, 1, 0, 0, 0, false), (51, .invokestatic 84, 3, 110, 2, 0, false), (54, .invokevirtual 72, 3, 106, 3, 20, false), (57, .ireturn, 1, 0, 0, 0, false)]
def y_M_chain : MethodName := ⟨rc_M, "chain", "(IIII)I"⟩
def md_M_chain : MD := (rc_M, y_M_chain, prog_8_method_36_code, 5, (some .int), [], [(0, 57, e132_0)])
abbrev n_M_atOnce : Nat := 133
def e133_0 : List Ent := [(0, .aload_n 0, 1, 0, 0, 0, false), (1, .iload_n 1, 1, 1, 0, 0, false), (2, .invokestatic 63, 3, 101, 1, 0, false), (5, .iconst 1, 1, 2, 0, 0, false), (6, .invokevirtual 67, 3, 100, 2, 20, false), (9, .ifCond .ne 18, 3, 27, 0, 0, false), (12, .aload_n 0, 1, 0, 0, 0, false), (13, .iload_n 2, 1, 2, 0, 0, false), (14, .iload_n 3, 1, 3, 0, 0, false), (15, .iload 4, 2, 4, 0, 0, false), (17, .invokestatic 87, 3, 131, 3, 0, false), (20, .iconst 2, 1, 3, 0, 0, false), (21, .invokevirtual 29, 3, 99, 2, 20, false), (24, .ifCond .eq 5, 3, 29, 0, 0, false), (27, .iconst 0, 1, 1, 0, 0, false), (28, .ireturn, 1, 0, 0, 0, false), (29, .iload_n 2, 1, 2, 0, 0, false), (30, .i2l, 1, 0, 0, 0, false), (31, .iload_n 3, 1, 3, 0, 0, false), (32, .i2l, 1, 0, 0, 0, false), (33, .lmul, 1, 0, 0, 0, false), (34, .lstore 5, 2, 5, 0, 0, false), (36, .lload 5, 2, 5, 0, 0, false), (38, .ldc2_w 93, 3, 8, 0, 0, false), (41, .iload 4, 2, 4, 0, 0, false), (43, .i2l, 1, 0, 0, 0, false), (44, .ldiv, 1, 0, 0, 0, false), (45, .lcmp, 1, 0, 0, 0, false), (46, .ifCond .le 10, 3, 56, 0, 0, false), (49, .aload_n 0, 1, 0, 0, 0, false), (50, .invokevirtual 76, 3, 103, 0, 20, false), (53, .goto 24, 3, 77, 0, 0, false), (56, .aload_n 0, 1, 0, 0, 0, false), (57, .iconst 1, 1, 2, 0, 0, false), (58, .iload_n 1, 1, 1, 0, 0, false), (59, .aload_n 0, 1, 0, 0, 0, false), (60, .getfield 13, 3, 4, 2, 0, false), (63, .iload_n 1, 1, 1, 0, 0, false), (64, .laload, 1, 0, 0, 0, false), (65, .lload 5, 2, 5, 0, 0, false), (67, .iload 4, 2, 4, 0, 0, false), (69, .i2l, 1, 0, 0, 0, false), (70, .lmul, 1, 0, 0, 0, false), (71, .invokestatic 84, 3, 110, 2, 0, false), (74, .invokevirtual 72, 3, 106, 3, 20, false), (77, .ireturn, 1, 0, 0, 0, false)]
def y_M_atOnce : MethodName := ⟨rc_M, "atOnce", "(IIII)I"⟩
def md_M_atOnce : MD := (rc_M, y_M_atOnce, prog_8_method_37_code, 7, (some .int), [], [(0, 77, e133_0)])
abbrev n_M_plain : Nat := 134
def e134_0 : List Ent := [(0, .lload_n 0, 1, 0, 0, 0, false), (1, .lconst 0, 1, 0, 0, 0, false), (2, .lcmp, 1, 0, 0, 0, false), (3, .ifCond .lt 23, 3, 26, 0, 0, false), (6, .new 95, 3, 1, 4, 0, false), (9, .dup, 1, 0, 0, 0, false), (10, .invokespecial 97, 3, 190, 0, 5, false), (13, .ldc 98, 2, 0, 1, 0, false), (15, .invokevirtual 100, 3, 191, 1, 17, false), (18, .lload_n 0, 1, 0, 0, 0, false), (19, .invokevirtual 104, 3, 194, 1, 17, false), (22, .invokevirtual 107, 3, 196, 0, 17, false), (25, .areturn, 1, 0, 0, 0, false), (26, .lload_n 0, 1, 0, 0, 0, false), (27, .iconst 1, 1, 2, 0, 0, false), (28, .lushr, 1, 0, 0, 0, false), (29, .ldc2_w 111, 3, 2, 0, 0, false), (32, .ldiv, 1, 0, 0, 0, false), (33, .lstore_n 2, 1, 2, 0, 0, false), (34, .new 95, 3, 1, 4, 0, false), (37, .dup, 1, 0, 0, 0, false), (38, .invokespecial 97, 3, 190, 0, 5, false), (41, .ldc 98, 2, 0, 1, 0, false), (43, .invokevirtual 100, 3, 191, 1, 17, false), (46, .lload_n 2, 1, 2, 0, 0, false), (47, .invokevirtual 104, 3, 194, 1, 17, false), (50, .lload_n 0, 1, 0, 0, 0, false), (51, .ldc2_w 113, 3, 3, 0, 0, false), (54, .lload_n 2, 1, 2, 0, 0, false), (55, .lmul, 1, 0, 0, 0, false), (56, .lsub, 1, 0, 0, 0, false), (57, .invokevirtual 104, 3, 194, 1, 17, false), (60, .invokevirtual 107, 3, 196, 0, 17, false), (63, .areturn, 1, 0, 0, 0, false)]
def y_M_plain : MethodName := ⟨rc_M, "plain", "(J)Ljava/lang/String;"⟩
def md_M_plain : MD := (rc_M, y_M_plain, prog_8_method_38_code, 4, (some (.object "java/lang/String")), [], [(0, 63, e134_0)])
abbrev n_M_distance : Nat := 135
def e135_0 : List Ent := [(0, .aload_n 0, 1, 0, 0, 0, false), (1, .iload_n 2, 1, 2, 0, 0, false), (2, .invokestatic 63, 3, 101, 1, 0, false), (5, .ifCond .ne 10, 3, 15, 0, 0, false), (8, .iload_n 3, 1, 3, 0, 0, false), (9, .invokestatic 63, 3, 101, 1, 0, false), (12, .ifCond .eq 7, 3, 19, 0, 0, false), (15, .iconst 1, 1, 2, 0, 0, false), (16, .goto 4, 3, 20, 0, 0, false), (19, .iconst 0, 1, 1, 0, 0, false), (20, .iconst 1, 1, 2, 0, 0, false), (21, .invokevirtual 67, 3, 100, 2, 20, false), (24, .ifCond .eq 6, 3, 30, 0, 0, false), (27, .ldc 98, 2, 0, 1, 0, false), (29, .areturn, 1, 0, 0, 0, false), (30, .aload_n 0, 1, 0, 0, 0, false), (31, .iload_n 1, 1, 1, 0, 0, false), (32, .iload_n 2, 1, 2, 0, 0, false), (33, .invokevirtual 36, 3, 105, 2, 20, false), (36, .lstore 4, 2, 4, 0, 0, false), (38, .aload_n 0, 1, 0, 0, 0, false), (39, .iload_n 1, 1, 1, 0, 0, false), (40, .iload_n 3, 1, 3, 0, 0, false), (41, .invokevirtual 36, 3, 105, 2, 20, false), (44, .lstore 6, 2, 6, 0, 0, false), (46, .lload 4, 2, 4, 0, 0, false), (48, .lload 6, 2, 6, 0, 0, false), (50, .lcmp, 1, 0, 0, 0, false), (51, .ifCond .ge 11, 3, 62, 0, 0, false), (54, .lload 6, 2, 6, 0, 0, false), (56, .lload 4, 2, 4, 0, 0, false), (58, .lsub, 1, 0, 0, 0, false), (59, .goto 8, 3, 67, 0, 0, false), (62, .lload 4, 2, 4, 0, 0, false), (64, .lload 6, 2, 6, 0, 0, false), (66, .lsub, 1, 0, 0, 0, false), (67, .invokestatic 115, 3, 134, 1, 0, false), (70, .areturn, 1, 0, 0, 0, false)]
def y_M_distance : MethodName := ⟨rc_M, "distance", "(ZII)Ljava/lang/String;"⟩
def md_M_distance : MD := (rc_M, y_M_distance, prog_8_method_39_code, 8, (some (.object "java/lang/String")), [], [(0, 70, e135_0)])
abbrev n_M_compare : Nat := 136
def e136_0 : List Ent := [(0, .aload_n 0, 1, 0, 0, 0, false), (1, .iload_n 2, 1, 2, 0, 0, false), (2, .invokestatic 63, 3, 101, 1, 0, false), (5, .ifCond .ne 10, 3, 15, 0, 0, false), (8, .iload_n 3, 1, 3, 0, 0, false), (9, .invokestatic 63, 3, 101, 1, 0, false), (12, .ifCond .eq 7, 3, 19, 0, 0, false), (15, .iconst 1, 1, 2, 0, 0, false), (16, .goto 4, 3, 20, 0, 0, false), (19, .iconst 0, 1, 1, 0, 0, false), (20, .iconst 1, 1, 2, 0, 0, false), (21, .invokevirtual 67, 3, 100, 2, 20, false), (24, .ifCond .eq 5, 3, 29, 0, 0, false), (27, .iconst 0, 1, 1, 0, 0, false), (28, .ireturn, 1, 0, 0, 0, false), (29, .aload_n 0, 1, 0, 0, 0, false), (30, .iload_n 1, 1, 1, 0, 0, false), (31, .iload_n 2, 1, 2, 0, 0, false), (32, .invokevirtual 36, 3, 105, 2, 20, false), (35, .aload_n 0, 1, 0, 0, 0, false), (36, .iload_n 1, 1, 1, 0, 0, false), (37, .iload_n 3, 1, 3, 0, 0, false), (38, .invokevirtual 36, 3, 105, 2, 20, false), (41, .lcmp, 1, 0, 0, 0, false), (42, .ifCond .ge 7, 3, 49, 0, 0, false), (45, .iconst (-1), 1, 0, 0, 0, false), (46, .goto 24, 3, 70, 0, 0, false), (49, .aload_n 0, 1, 0, 0, 0, false), (50, .iload_n 1, 1, 1, 0, 0, false), (51, .iload_n 2, 1, 2, 0, 0, false), (52, .invokevirtual 36, 3, 105, 2, 20, false), (55, .aload_n 0, 1, 0, 0, 0, false), (56, .iload_n 1, 1, 1, 0, 0, false), (57, .iload_n 3, 1, 3, 0, 0, false), (58, .invokevirtual 36, 3, 105, 2, 20, false), (61, .lcmp, 1, 0, 0, 0, false), (62, .ifCond .le 7, 3, 69, 0, 0, false), (65, .iconst 1, 1, 2, 0, 0, false), (66, .goto 4, 3, 70, 0, 0, false), (69, .iconst 0, 1, 1, 0, 0, false), (70, .ireturn, 1, 0, 0, 0, false)]
def y_M_compare : MethodName := ⟨rc_M, "compare", "(ZII)I"⟩
def md_M_compare : MD := (rc_M, y_M_compare, prog_8_method_40_code, 4, (some .int), [], [(0, 70, e136_0)])
abbrev n_M_text : Nat := 137
def e137_0 : List Ent := [(0, .aload_n 0, 1, 0, 0, 0, false), (1, .iload_n 2, 1, 2, 0, 0, false), (2, .invokestatic 63, 3, 101, 1, 0, false), (5, .iconst 1, 1, 2, 0, 0, false), (6, .invokevirtual 67, 3, 100, 2, 20, false), (9, .ifCond .eq 8, 3, 17, 0, 0, false), (12, .ldc 98, 2, 0, 1, 0, false), (14, .goto 27, 3, 41, 0, 0, false), (17, .new 95, 3, 1, 4, 0, false), (20, .dup, 1, 0, 0, 0, false), (21, .invokespecial 97, 3, 190, 0, 5, false), (24, .ldc 98, 2, 0, 1, 0, false), (26, .invokevirtual 100, 3, 191, 1, 17, false), (29, .aload_n 0, 1, 0, 0, 0, false), (30, .iload_n 1, 1, 1, 0, 0, false), (31, .iload_n 2, 1, 2, 0, 0, false), (32, .invokevirtual 36, 3, 105, 2, 20, false), (35, .invokevirtual 104, 3, 194, 1, 17, false), (38, .invokevirtual 107, 3, 196, 0, 17, false), (41, .areturn, 1, 0, 0, 0, false)]
def y_M_text : MethodName := ⟨rc_M, "text", "(ZI)Ljava/lang/String;"⟩
def md_M_text : MD := (rc_M, y_M_text, prog_8_method_41_code, 3, (some (.object "java/lang/String")), [], [(0, 41, e137_0)])
abbrev n_M_ofNow : Nat := 138
def e138_0 : List Ent := [(0, .aload_n 0, 1, 0, 0, 0, false), (1, .iload_n 1, 1, 1, 0, 0, false), (2, .iload_n 2, 1, 2, 0, 0, false), (3, .invokevirtual 36, 3, 105, 2, 20, false), (6, .lstore 4, 2, 4, 0, 0, false), (8, .iload_n 1, 1, 1, 0, 0, false), (9, .ifCond .eq 9, 3, 18, 0, 0, false), (12, .ldc2_w 119, 3, 6, 0, 0, false), (15, .goto 6, 3, 21, 0, 0, false), (18, .ldc2_w 123, 3, 7, 0, 0, false), (21, .lstore 6, 2, 6, 0, 0, false), (23, .iload_n 3, 1, 3, 0, 0, false), (24, .tableswitch 79 0 3 #[32, 38, 42, 49], 32, 103, 0, 2, false), (56, .lload 4, 2, 4, 0, 0, false), (58, .invokestatic 40, 3, 104, 1, 0, false), (61, .ireturn, 1, 0, 0, 0, false), (62, .lload 4, 2, 4, 0, 0, false), (64, .l2i, 1, 0, 0, 0, false), (65, .ireturn, 1, 0, 0, 0, false), (66, .lload 4, 2, 4, 0, 0, false), (68, .bipush 32, 2, 12, 0, 0, false), (70, .lshr, 1, 0, 0, 0, false), (71, .l2i, 1, 0, 0, 0, false), (72, .ireturn, 1, 0, 0, 0, false), (73, .lload 4, 2, 4, 0, 0, false), (75, .lload 6, 2, 6, 0, 0, false), (77, .lcmp, 1, 0, 0, 0, false), (78, .ifCond .ne 7, 3, 85, 0, 0, false), (81, .iconst (-1), 1, 0, 0, 0, false), (82, .goto 20, 3, 102, 0, 0, false), (85, .lload 4, 2, 4, 0, 0, false), (87, .ldc2_w 125, 3, 5, 0, 0, false), (90, .lload 6, 2, 6, 0, 0, false), (92, .lsub, 1, 0, 0, 0, false), (93, .lcmp, 1, 0, 0, 0, false), (94, .ifCond .ne 7, 3, 101, 0, 0, false), (97, .iconst 1, 1, 2, 0, 0, false), (98, .goto 4, 3, 102, 0, 0, false), (101, .iconst 0, 1, 1, 0, 0, false), (102, .ireturn, 1, 0, 0, 0, false), (103, .new 95, 3, 1, 4, 0, false), (106, .dup, 1, 0, 0, 0, false), (107, .invokespecial 97, 3, 190, 0, 5, false), (110, .ldc 98, 2, 0, 1, 0, false), (112, .invokevirtual 100, 3, 191, 1, 17, false), (115, .lload 4, 2, 4, 0, 0, false), (117, .invokevirtual 104, 3, 194, 1, 17, false), (120, .invokevirtual 107, 3, 196, 0, 17, false), (123, .invokevirtual 127, 3, 186, 0, 16, false), (126, .ireturn, 1, 0, 0, 0, false)]
def y_M_ofNow : MethodName := ⟨rc_M, "ofNow", "(ZII)I"⟩
def md_M_ofNow : MD := (rc_M, y_M_ofNow, prog_8_method_42_code, 8, (some .int), [], [(0, 126, e138_0)])
abbrev n_M_ofNumber : Nat := 139
def e139_0 : List Ent := [(0, .aload_n 0, 1, 0, 0, 0, false), (1, .iload_n 2, 1, 2, 0, 0, false), (2, .invokestatic 63, 3, 101, 1, 0, false), (5, .iconst 1, 1, 2, 0, 0, false), (6, .invokevirtual 67, 3, 100, 2, 20, false), (9, .ifCond .ne 25, 3, 34, 0, 0, false), (12, .aload_n 0, 1, 0, 0, 0, false), (13, .iload_n 3, 1, 3, 0, 0, false), (14, .ifCond .lt 8, 3, 22, 0, 0, false), (17, .iload_n 3, 1, 3, 0, 0, false), (18, .iconst 4, 1, 5, 0, 0, false), (19, .if_icmp .le 7, 3, 26, 0, 0, false), (22, .iconst 1, 1, 2, 0, 0, false), (23, .goto 4, 3, 27, 0, 0, false), (26, .iconst 0, 1, 1, 0, 0, false), (27, .iconst 2, 1, 3, 0, 0, false), (28, .invokevirtual 29, 3, 99, 2, 20, false), (31, .ifCond .eq 7, 3, 38, 0, 0, false), (34, .iconst 0, 1, 1, 0, 0, false), (35, .goto 10, 3, 45, 0, 0, false), (38, .aload_n 0, 1, 0, 0, 0, false), (39, .iload_n 1, 1, 1, 0, 0, false), (40, .iload_n 2, 1, 2, 0, 0, false), (41, .iload_n 3, 1, 3, 0, 0, false), (42, .invokevirtual 132, 3, 138, 3, 20, false), (45, .ireturn, 1, 0, 0, 0, false)]
def y_M_ofNumber : MethodName := ⟨rc_M, "ofNumbe\x72", "(ZII)I"⟩
def md_M_ofNumber : MD := (rc_M, y_M_ofNumber, prog_8_method_43_code, 4, (some .int), [], [(0, 45, e139_0)])
abbrev n_M_rest : Nat := 140
def e140_0 : List Ent := [(0, .aload_n 0, 1, 0, 0, 0, false), (1, .iload_n 2, 1, 2, 0, 0, false), (2, .invokestatic 63, 3, 101, 1, 0, false), (5, .iconst 1, 1, 2, 0, 0, false), (6, .invokevirtual 67, 3, 100, 2, 20, false), (9, .ifCond .ne 20, 3, 29, 0, 0, false), (12, .aload_n 0, 1, 0, 0, 0, false), (13, .iload_n 3, 1, 3, 0, 0, false), (14, .ifCond .ne 7, 3, 21, 0, 0, false), (17, .iconst 1, 1, 2, 0, 0, false), (18, .goto 4, 3, 22, 0, 0, false), (21, .iconst 0, 1, 1, 0, 0, false), (22, .iconst 2, 1, 3, 0, 0, false), (23, .invokevirtual 29, 3, 99, 2, 20, false), (26, .ifCond .eq 7, 3, 33, 0, 0, false), (29, .iconst 0, 1, 1, 0, 0, false), (30, .goto 15, 3, 45, 0, 0, false), (33, .aload_n 0, 1, 0, 0, 0, false), (34, .iload_n 1, 1, 1, 0, 0, false), (35, .iload_n 2, 1, 2, 0, 0, false), (36, .invokevirtual 36, 3, 105, 2, 20, false), (39, .iload_n 3, 1, 3, 0, 0, false), (40, .i2l, 1, 0, 0, 0, false), (41, .invokestatic 60, 3, 111, 2, 0, false), (44, .l2i, 1, 0, 0, 0, false), (45, .ireturn, 1, 0, 0, 0, false)]
def y_M_rest : MethodName := ⟨rc_M, "rest", "(ZII)I"⟩
def md_M_rest : MD := (rc_M, y_M_rest, prog_8_method_44_code, 4, (some .int), [], [(0, 45, e140_0)])
abbrev n_M_quotient : Nat := 141
def e141_0 : List Ent := [(0, .aload_n 0, 1, 0, 0, 0, false), (1, .iload_n 2, 1, 2, 0, 0, false), (2, .invokestatic 63, 3, 101, 1, 0, false), (5, .iconst 1, 1, 2, 0, 0, false), (6, .invokevirtual 67, 3, 100, 2, 20, false), (9, .ifCond .ne 20, 3, 29, 0, 0, false), (12, .aload_n 0, 1, 0, 0, 0, false), (13, .iload_n 3, 1, 3, 0, 0, false), (14, .ifCond .ne 7, 3, 21, 0, 0, false), (17, .iconst 1, 1, 2, 0, 0, false), (18, .goto 4, 3, 22, 0, 0, false), (21, .iconst 0, 1, 1, 0, 0, false), (22, .iconst 2, 1, 3, 0, 0, false), (23, .invokevirtual 29, 3, 99, 2, 20, false), (26, .ifCond .eq 6, 3, 32, 0, 0, false), (29, .ldc 98, 2, 0, 1, 0, false), (31, .areturn, 1, 0, 0, 0, false), (32, .aload_n 0, 1, 0, 0, 0, false), (33, .iload_n 1, 1, 1, 0, 0, false), (34, .iload_n 2, 1, 2, 0, 0, false), (35, .invokevirtual 36, 3, 105, 2, 20, false), (38, .iload_n 3, 1, 3, 0, 0, false), (39, .i2l, 1, 0, 0, 0, false), (40, .invokestatic 84, 3, 110, 2, 0, false), (43, .lstore 4, 2, 4, 0, 0, false), (45, .new 95, 3, 1, 4, 0, false), (48, .dup, 1, 0, 0, 0, false), (49, .invokespecial 97, 3, 190, 0, 5, false), (52, .ldc 98, 2, 0, 1, 0, false), (54, .invokevirtual 100, 3, 191, 1, 17, false), (57, .iload_n 1, 1, 1, 0, 0, false), (58, .ifCond .eq 8, 3, 66, 0, 0, false), (61, .lload 4, 2, 4, 0, 0, false), (63, .goto 7, 3, 70, 0, 0, false), (66, .lload 4, 2, 4, 0, 0, false), (68, .l2i, 1, 0, 0, 0, false), (69, .i2l, 1, 0, 0, 0, false), (70, .invokevirtual 104, 3, 194, 1, 17, false), (73, .invokevirtual 107, 3, 196, 0, 17, false), (76, .areturn, 1, 0, 0, 0, false)]
def y_M_quotient : MethodName := ⟨rc_M, "quotient", "(ZII)Ljava/lang/String;"⟩
def md_M_quotient : MD := (rc_M, y_M_quotient, prog_8_method_45_code, 6, (some (.object "java/lang/String")), [], [(0, 76, e141_0)])
abbrev n_M_come : Nat := 142
def e142_0 : List Ent := [(0, .aload_n 0, 1, 0, 0, 0, false), (1, .getfield 22, 3, 4, 4, 0, false), (4, .iload_n 1, 1, 1, 0, 0, false), (5, .aaload, 1, 0, 0, 0, false), (6, .iload_n 2, 1, 2, 0, 0, false), (7, .lload_n 3, 1, 3, 0, 0, false), (8, .aload_n 0, 1, 0, 0, 0, false), (9, .getfield 16, 3, 4, 3, 0, false), (12, .iload_n 1, 1, 1, 0, 0, false), (13, .iaload, 1, 0, 0, 0, false), (14, .i2l, 1, 0, 0, 0, false), (15, .invokestatic 60, 3, 111, 2, 0, false), (18, .l2i, 1, 0, 0, 0, false), (19, .iastore, 1, 0, 0, 0, false), (20, .aload_n 0, 1, 0, 0, 0, false), (21, .getfield 22, 3, 4, 4, 0, false), (24, .iload_n 1, 1, 1, 0, 0, false), (25, .aaload, 1, 0, 0, 0, false), (26, .iload_n 2, 1, 2, 0, 0, false), (27, .iaload, 1, 0, 0, 0, false), (28, .ireturn, 1, 0, 0, 0, false)]
def y_M_come : MethodName := ⟨rc_M, "come", "(IIJ)I"⟩
def md_M_come : MD := (rc_M, y_M_come, prog_8_method_46_code, 5, (some .int), [], [(0, 28, e142_0)])
abbrev n_M_modulus : Nat := 143
def e143_0 : List Ent := [(0, .aload_n 0, 1, 0, 0, 0, false), (1, .iload_n 1, 1, 1, 0, 0, false), (2, .invokestatic 136, 3, 102, 1, 0, false), (5, .iconst 1, 1, 2, 0, 0, false), (6, .invokevirtual 67, 3, 100, 2, 20, false), (9, .ifCond .ne 20, 3, 29, 0, 0, false), (12, .aload_n 0, 1, 0, 0, 0, false), (13, .iload_n 2, 1, 2, 0, 0, false), (14, .ifCond .ne 7, 3, 21, 0, 0, false), (17, .iconst 1, 1, 2, 0, 0, false), (18, .goto 4, 3, 22, 0, 0, false), (21, .iconst 0, 1, 1, 0, 0, false), (22, .iconst 2, 1, 3, 0, 0, false), (23, .invokevirtual 29, 3, 99, 2, 20, false), (26, .ifCond .eq 5, 3, 31, 0, 0, false), (29, .iconst 0, 1, 1, 0, 0, false), (30, .ireturn, 1, 0, 0, 0, false), (31, .aload_n 0, 1, 0, 0, 0, false), (32, .getfield 16, 3, 4, 3, 0, false), (35, .iload_n 1, 1, 1, 0, 0, false), (36, .iaload, 1, 0, 0, 0, false), (37, .istore_n 3, 1, 3, 0, 0, false), (38, .aload_n 0, 1, 0, 0, 0, false), (39, .getfield 16, 3, 4, 3, 0, false), (42, .iload_n 1, 1, 1, 0, 0, false), (43, .iload_n 2, 1, 2, 0, 0, false), (44, .iastore, 1, 0, 0, 0, false), (45, .iconst 0, 1, 1, 0, 0, false), (46, .istore 4, 2, 4, 0, 0, false), (48, .iload 4, 2, 4, 0, 0, true), (50, .iconst 4, 1, 5, 0, 0, false), (51, .if_icmp .ge 27, 3, 78, 0, 0, false), (54, .aload_n 0, 1, 0, 0, 0, false), (55, .iload_n 1, 1, 1, 0, 0, false), (56, .iload 4, 2, 4, 0, 0, false), (58, .aload_n 0, 1, 0, 0, 0, false), (59, .getfield 22, 3, 4, 4, 0, false), (62, .iload_n 1, 1, 1, 0, 0, false), (63, .aaload, 1, 0, 0, 0, false), (64, .iload 4, 2, 4, 0, 0, false), (66, .iaload, 1, 0, 0, 0, false), (67, .i2l, 1, 0, 0, 0, false), (68, .invokevirtual 139, 3, 142, 3, 20, false), (71, .pop, 1, 0, 0, 0, false), (72, .iinc 4 1, 3, 4, 2, 0, false), (75, .goto (-27), 3, 48, 0, 0, false), (78, .iload_n 3, 1, 3, 0, 0, false), (79, .ireturn, 1, 0, 0, 0, false)]
def y_M_modulus : MethodName := ⟨rc_M, "modulus", "(II)I"⟩
def md_M_modulus : MD := (rc_M, y_M_modulus, prog_8_method_47_code, 5, (some .int), [], [(0, 79, e143_0)])
abbrev n_M_bring : Nat := 144
def e144_0 : List Ent := [(0, .aload_n 0, 1, 0, 0, 0, false), (1, .iload_n 1, 1, 1, 0, 0, false), (2, .invokestatic 136, 3, 102, 1, 0, false), (5, .ifCond .ne 18, 3, 23, 0, 0, false), (8, .iload_n 2, 1, 2, 0, 0, false), (9, .invokestatic 63, 3, 101, 1, 0, false), (12, .ifCond .ne 11, 3, 23, 0, 0, false), (15, .iload 4, 2, 4, 0, 0, false), (17, .invokestatic 63, 3, 101, 1, 0, false), (20, .ifCond .eq 7, 3, 27, 0, 0, false), (23, .iconst 1, 1, 2, 0, 0, false), (24, .goto 4, 3, 28, 0, 0, false), (27, .iconst 0, 1, 1, 0, 0, false), (28, .iconst 1, 1, 2, 0, 0, false), (29, .invokevirtual 67, 3, 100, 2, 20, false), (32, .ifCond .eq 7, 3, 39, 0, 0, false), (35, .iconst 0, 1, 1, 0, 0, false), (36, .goto 16, 3, 52, 0, 0, false), (39, .aload_n 0, 1, 0, 0, 0, false), (40, .iload_n 1, 1, 1, 0, 0, false), (41, .iload_n 2, 1, 2, 0, 0, false), (42, .aload_n 0, 1, 0, 0, 0, false), (43, .iload_n 3, 1, 3, 0, 0, false), (44, .iload 4, 2, 4, 0, 0, false), (46, .invokevirtual 36, 3, 105, 2, 20, false), (49, .invokevirtual 139, 3, 142, 3, 20, false), (52, .ireturn, 1, 0, 0, 0, false)]
def y_M_bring : MethodName := ⟨rc_M, "bring", "(IIZI)I"⟩
def md_M_bring : MD := (rc_M, y_M_bring, prog_8_method_48_code, 5, (some .int), [], [(0, 52, e144_0)])
abbrev n_M_lift : Nat := 145
def e145_0 : List Ent := [(0, .aload_n 0, 1, 0, 0, 0, false), (1, .iload_n 1, 1, 1, 0, 0, false), (2, .invokestatic 136, 3, 102, 1, 0, false), (5, .ifCond .ne 18, 3, 23, 0, 0, false), (8, .iload_n 2, 1, 2, 0, 0, false), (9, .invokestatic 63, 3, 101, 1, 0, false), (12, .ifCond .ne 11, 3, 23, 0, 0, false), (15, .iload 4, 2, 4, 0, 0, false), (17, .invokestatic 63, 3, 101, 1, 0, false), (20, .ifCond .eq 7, 3, 27, 0, 0, false), (23, .iconst 1, 1, 2, 0, 0, false), (24, .goto 4, 3, 28, 0, 0, false), (27, .iconst 0, 1, 1, 0, 0, false), (28, .iconst 1, 1, 2, 0, 0, false), (29, .invokevirtual 67, 3, 100, 2, 20, false), (32, .ifCond .eq 7, 3, 39, 0, 0, false), (35, .iconst 0, 1, 1, 0, 0, false), (36, .goto 19, 3, 55, 0, 0, false), (39, .aload_n 0, 1, 0, 0, 0, false), (40, .iload_n 3, 1, 3, 0, 0, false), (41, .iload 4, 2, 4, 0, 0, false), (43, .aload_n 0, 1, 0, 0, 0, false), (44, .getfield 22, 3, 4, 4, 0, false), (47, .iload_n 1, 1, 1, 0, 0, false), (48, .aaload, 1, 0, 0, 0, false), (49, .iload_n 2, 1, 2, 0, 0, false), (50, .iaload, 1, 0, 0, 0, false), (51, .i2l, 1, 0, 0, 0, false), (52, .invokevirtual 72, 3, 106, 3, 20, false), (55, .ireturn, 1, 0, 0, 0, false)]
def y_M_lift : MethodName := ⟨rc_M, "lift", "(IIZI)I"⟩
def md_M_lift : MD := (rc_M, y_M_lift, prog_8_method_49_code, 5, (some .int), [], [(0, 55, e145_0)])
abbrev n_M_plus : Nat := 146
def e146_0 : List Ent := [(0, .aload_n 0, 1, 0, 0, 0, false), (1, .iload_n 1, 1, 1, 0, 0, false), (2, .invokestatic 136, 3, 102, 1, 0, false), (5, .ifCond .ne 17, 3, 22, 0, 0, false), (8, .iload_n 2, 1, 2, 0, 0, false), (9, .invokestatic 63, 3, 101, 1, 0, false), (12, .ifCond .ne 10, 3, 22, 0, 0, false), (15, .iload_n 3, 1, 3, 0, 0, false), (16, .invokestatic 63, 3, 101, 1, 0, false), (19, .ifCond .eq 7, 3, 26, 0, 0, false), (22, .iconst 1, 1, 2, 0, 0, false), (23, .goto 4, 3, 27, 0, 0, false), (26, .iconst 0, 1, 1, 0, 0, false), (27, .iconst 1, 1, 2, 0, 0, false), (28, .invokevirtual 67, 3, 100, 2, 20, false), (31, .ifCond .eq 5, 3, 36, 0, 0, false), (34, .iconst 0, 1, 1, 0, 0, false), (35, .ireturn, 1, 0, 0, 0, false), (36, .aload_n 0, 1, 0, 0, 0, false), (37, .getfield 22, 3, 4, 4, 0, false), (40, .iload_n 1, 1, 1, 0, 0, false), (41, .aaload, 1, 0, 0, 0, false), (42, .iload_n 3, 1, 3, 0, 0, false), (43, .iaload, 1, 0, 0, 0, false), (44, .i2l, 1, 0, 0, 0, false), (45, .lstore 5, 2, 5, 0, 0, false), (47, .aload_n 0, 1, 0, 0, 0, false), (48, .iload_n 1, 1, 1, 0, 0, false), (49, .iload_n 2, 1, 2, 0, 0, false), (50, .aload_n 0, 1, 0, 0, 0, false), (51, .getfield 22, 3, 4, 4, 0, false), (54, .iload_n 1, 1, 1, 0, 0, false), (55, .aaload, 1, 0, 0, 0, false), (56, .iload_n 2, 1, 2, 0, 0, false), (57, .iaload, 1, 0, 0, 0, false), (58, .i2l, 1, 0, 0, 0, false), (59, .iload 4, 2, 4, 0, 0, false), (61, .ifCond .eq 9, 3, 70, 0, 0, false), (64, .lload 5, 2, 5, 0, 0, false), (66, .lneg, 1, 0, 0, 0, false), (67, .goto 5, 3, 72, 0, 0, false), (70, .lload 5, 2, 5, 0, 0, false), (72, .ladd, 1, 0, 0, 0, false), (73, .invokevirtual 139, 3, 142, 3, 20, false), (76, .ireturn, 1, 0, 0, 0, false)]
def y_M_plus : MethodName := ⟨rc_M, "plus", "(IIIZ)I"⟩
def md_M_plus : MD := (rc_M, y_M_plus, prog_8_method_50_code, 7, (some .int), [], [(0, 76, e146_0)])
abbrev n_M_times : Nat := 147
def e147_0 : List Ent := [(0, .aload_n 0, 1, 0, 0, 0, false), (1, .iload_n 1, 1, 1, 0, 0, false), (2, .invokestatic 136, 3, 102, 1, 0, false), (5, .ifCond .ne 17, 3, 22, 0, 0, false), (8, .iload_n 2, 1, 2, 0, 0, false), (9, .invokestatic 63, 3, 101, 1, 0, false), (12, .ifCond .ne 10, 3, 22, 0, 0, false), (15, .iload_n 3, 1, 3, 0, 0, false), (16, .invokestatic 63, 3, 101, 1, 0, false), (19, .ifCond .eq 7, 3, 26, 0, 0, false), (22, .iconst 1, 1, 2, 0, 0, false), (23, .goto 4, 3, 27, 0, 0, false), (26, .iconst 0, 1, 1, 0, 0, false), (27, .iconst 1, 1, 2, 0, 0, false), (28, .invokevirtual 67, 3, 100, 2, 20, false), (31, .ifCond .eq 5, 3, 36, 0, 0, false), (34, .iconst 0, 1, 1, 0, 0, false), (35, .ireturn, 1, 0, 0, 0, false), (36, .aload_n 0, 1, 0, 0, 0, false), (37, .iload_n 1, 1, 1, 0, 0, false), (38, .iload_n 2, 1, 2, 0, 0, false), (39, .aload_n 0, 1, 0, 0, 0, false), (40, .getfield 22, 3, 4, 4, 0, false), (43, .iload_n 1, 1, 1, 0, 0, false), (44, .aaload, 1, 0, 0, 0, false), (45, .iload_n 2, 1, 2, 0, 0, false), (46, .iaload, 1, 0, 0, 0, false), (47, .i2l, 1, 0, 0, 0, false), (48, .aload_n 0, 1, 0, 0, 0, false), (49, .getfield 22, 3, 4, 4, 0, false), (52, .iload_n 1, 1, 1, 0, 0, false), (53, .aaload, 1, 0, 0, 0, false), (54, .iload_n 3, 1, 3, 0, 0, false), (55, .iaload, 1, 0, 0, 0, false), (56, .i2l, 1, 0, 0, 0, false), (57, .lmul, 1, 0, 0, 0, false), (58, .invokevirtual 139, 3, 142, 3, 20, false), (61, .ireturn, 1, 0, 0, 0, false)]
def y_M_times : MethodName := ⟨rc_M, "times", "(III)I"⟩
def md_M_times : MD := (rc_M, y_M_times, prog_8_method_51_code, 4, (some .int), [], [(0, 61, e147_0)])
abbrev n_M_power : Nat := 148
def e148_0 : List Ent := [(0, .aload_n 0, 1, 0, 0, 0, false), (1, .iload_n 1, 1, 1, 0, 0, false), (2, .invokestatic 136, 3, 102, 1, 0, false), (5, .ifCond .ne 10, 3, 15, 0, 0, false), (8, .iload_n 2, 1, 2, 0, 0, false), (9, .invokestatic 63, 3, 101, 1, 0, false), (12, .ifCond .eq 7, 3, 19, 0, 0, false), (15, .iconst 1, 1, 2, 0, 0, false), (16, .goto 4, 3, 20, 0, 0, false), (19, .iconst 0, 1, 1, 0, 0, false), (20, .iconst 1, 1, 2, 0, 0, false), (21, .invokevirtual 67, 3, 100, 2, 20, false), (24, .ifCond .ne 20, 3, 44, 0, 0, false), (27, .aload_n 0, 1, 0, 0, 0, false), (28, .iload_n 3, 1, 3, 0, 0, false), (29, .ifCond .ge 7, 3, 36, 0, 0, false), (32, .iconst 1, 1, 2, 0, 0, false), (33, .goto 4, 3, 37, 0, 0, false), (36, .iconst 0, 1, 1, 0, 0, false), (37, .iconst 2, 1, 3, 0, 0, false), (38, .invokevirtual 29, 3, 99, 2, 20, false), (41, .ifCond .eq 5, 3, 46, 0, 0, false), (44, .iconst 0, 1, 1, 0, 0, false), (45, .ireturn, 1, 0, 0, 0, false), (46, .lconst 1, 1, 1, 0, 0, false), (47, .aload_n 0, 1, 0, 0, 0, false), (48, .getfield 16, 3, 4, 3, 0, false), (51, .iload_n 1, 1, 1, 0, 0, false), (52, .iaload, 1, 0, 0, 0, false), (53, .i2l, 1, 0, 0, 0, false), (54, .invokestatic 60, 3, 111, 2, 0, false), (57, .lstore 4, 2, 4, 0, 0, false), (59, .aload_n 0, 1, 0, 0, 0, false), (60, .getfield 22, 3, 4, 4, 0, false), (63, .iload_n 1, 1, 1, 0, 0, false), (64, .aaload, 1, 0, 0, 0, false), (65, .iload_n 2, 1, 2, 0, 0, false), (66, .iaload, 1, 0, 0, 0, false), (67, .i2l, 1, 0, 0, 0, false), (68, .lstore 6, 2, 6, 0, 0, false), (70, .iload_n 3, 1, 3, 0, 0, false), (71, .istore 8, 2, 8, 0, 0, false), (73, .iload 8, 2, 8, 0, 0, true), (75, .ifCond .le 54, 3, 129, 0, 0, false), (78, .iload 8, 2, 8, 0, 0, false), (80, .iconst 2, 1, 3, 0, 0, false), (81, .irem, 1, 0, 0, 0, false), (82, .iconst 1, 1, 2, 0, 0, false), (83, .if_icmp .ne 20, 3, 103, 0, 0, false), (86, .lload 4, 2, 4, 0, 0, false), (88, .lload 6, 2, 6, 0, 0, false), (90, .lmul, 1, 0, 0, 0, false), (91, .aload_n 0, 1, 0, 0, 0, false), (92, .getfield 16, 3, 4, 3, 0, false), (95, .iload_n 1, 1, 1, 0, 0, false), (96, .iaload, 1, 0, 0, 0, false), (97, .i2l, 1, 0, 0, 0, false), (98, .invokestatic 60, 3, 111, 2, 0, false), (101, .lstore 4, 2, 4, 0, 0, false), (103, .lload 6, 2, 6, 0, 0, false), (105, .lload 6, 2, 6, 0, 0, false), (107, .lmul, 1, 0, 0, 0, false), (108, .aload_n 0, 1, 0, 0, 0, false), (109, .getfield 16, 3, 4, 3, 0, false), (112, .iload_n 1, 1, 1, 0, 0, false), (113, .iaload, 1, 0, 0, 0, false), (114, .i2l, 1, 0, 0, 0, false), (115, .invokestatic 60, 3, 111, 2, 0, false), (118, .lstore 6, 2, 6, 0, 0, false), (120, .iload 8, 2, 8, 0, 0, false), (122, .iconst 2, 1, 3, 0, 0, false), (123, .idiv, 1, 0, 0, 0, false), (124, .istore 8, 2, 8, 0, 0, false), (126, .goto (-53), 3, 73, 0, 0, false), (129, .aload_n 0, 1, 0, 0, 0, false), (130, .iload_n 1, 1, 1, 0, 0, false), (131, .iload_n 2, 1, 2, 0, 0, false), (132, .lload 4, 2, 4, 0, 0, false), (134, .invokevirtual 139, 3, 142, 3, 20, false), (137, .ireturn, 1, 0, 0, 0, false)]
def y_M_power : MethodName := ⟨rc_M, "powe\x72", "(III)I"⟩
def md_M_power : MD := (rc_M, y_M_power, prog_8_method_52_code, 9, (some .int), [], [(0, 137, e148_0)])
abbrev n_M_isUnitNow : Nat := 149
def e149_0 : List Ent := [(0, .aload_n 0, 1, 0, 0, 0, false), (1, .getfield 22, 3, 4, 4, 0, false), (4, .iload_n 1, 1, 1, 0, 0, false), (5, .aaload, 1, 0, 0, 0, false), (6, .iload_n 2, 1, 2, 0, 0, false), (7, .iaload, 1, 0, 0, 0, false), (8, .i2l, 1, 0, 0, 0, false), (9, .aload_n 0, 1, 0, 0, 0, false), (10, .getfield 16, 3, 4, 3, 0, false), (13, .iload_n 1, 1, 1, 0, 0, false), (14, .iaload, 1, 0, 0, 0, false), (15, .i2l, 1, 0, 0, 0, false), (16, .invokestatic 143, 3, 112, 2, 0, false), (19, .lconst 1, 1, 1, 0, 0, false), (20, .lcmp, 1, 0, 0, 0, false), (21, .ifCond .ne 7, 3, 28, 0, 0, false), (24, .iconst 1, 1, 2, 0, 0, false), (25, .goto 4, 3, 29, 0, 0, false), (28, .iconst 0, 1, 1, 0, 0, false), (29, .ireturn, 1, 0, 0, 0, false)]
def y_M_isUnitNow : MethodName := ⟨rc_M, "isUnitNow", "(II)Z"⟩
def md_M_isUnitNow : MD := (rc_M, y_M_isUnitNow, prog_8_method_53_code, 3, (some .boolean), [], [(0, 29, e149_0)])
abbrev n_M_inverse : Nat := 150
def e150_0 : List Ent := [(0, .aload_n 0, 1, 0, 0, 0, false), (1, .iload_n 1, 1, 1, 0, 0, false), (2, .invokestatic 136, 3, 102, 1, 0, false), (5, .ifCond .ne 10, 3, 15, 0, 0, false), (8, .iload_n 2, 1, 2, 0, 0, false), (9, .invokestatic 63, 3, 101, 1, 0, false), (12, .ifCond .eq 7, 3, 19, 0, 0, false), (15, .iconst 1, 1, 2, 0, 0, false), (16, .goto 4, 3, 20, 0, 0, false), (19, .iconst 0, 1, 1, 0, 0, false), (20, .iconst 1, 1, 2, 0, 0, false), (21, .invokevirtual 67, 3, 100, 2, 20, false), (24, .ifCond .eq 5, 3, 29, 0, 0, false), (27, .iconst 0, 1, 1, 0, 0, false), (28, .ireturn, 1, 0, 0, 0, false), (29, .aload_n 0, 1, 0, 0, 0, false), (30, .iload_n 1, 1, 1, 0, 0, false), (31, .iload_n 2, 1, 2, 0, 0, false), (32, .invokevirtual 146, 3, 149, 2, 20, false), (35, .ifCond .ne 8, 3, 43, 0, 0, false), (38, .aload_n 0, 1, 0, 0, 0, false), (39, .invokevirtual 76, 3, 103, 0, 20, false), (42, .ireturn, 1, 0, 0, 0, false), (43, .aload_n 0, 1, 0, 0, 0, false), (44, .iload_n 1, 1, 1, 0, 0, false), (45, .iload_n 2, 1, 2, 0, 0, false), (46, .aload_n 0, 1, 0, 0, 0, false), (47, .getfield 22, 3, 4, 4, 0, false), (50, .iload_n 1, 1, 1, 0, 0, false), (51, .aaload, 1, 0, 0, 0, false), (52, .iload_n 2, 1, 2, 0, 0, false), (53, .iaload, 1, 0, 0, 0, false), (54, .i2l, 1, 0, 0, 0, false), (55, .aload_n 0, 1, 0, 0, 0, false), (56, .getfield 16, 3, 4, 3, 0, false), (59, .iload_n 1, 1, 1, 0, 0, false), (60, .iaload, 1, 0, 0, 0, false), (61, .i2l, 1, 0, 0, 0, false), (62, .invokestatic 54, 3, 180, 1, 0, false), (65, .invokestatic 150, 3, 113, 2, 0, false), (68, .invokevirtual 139, 3, 142, 3, 20, false), (71, .pop, 1, 0, 0, 0, false), (72, .iconst 1, 1, 2, 0, 0, false), (73, .ireturn, 1, 0, 0, 0, false)]
def y_M_inverse : MethodName := ⟨rc_M, "inverse", "(II)I"⟩
def md_M_inverse : MD := (rc_M, y_M_inverse, prog_8_method_54_code, 3, (some .int), [], [(0, 73, e150_0)])
abbrev n_M_isUnit : Nat := 151
def e151_0 : List Ent := [(0, .aload_n 0, 1, 0, 0, 0, false), (1, .iload_n 1, 1, 1, 0, 0, false), (2, .invokestatic 136, 3, 102, 1, 0, false), (5, .ifCond .ne 10, 3, 15, 0, 0, false), (8, .iload_n 2, 1, 2, 0, 0, false), (9, .invokestatic 63, 3, 101, 1, 0, false), (12, .ifCond .eq 7, 3, 19, 0, 0, false), (15, .iconst 1, 1, 2, 0, 0, false), (16, .goto 4, 3, 20, 0, 0, false), (19, .iconst 0, 1, 1, 0, 0, false), (20, .iconst 1, 1, 2, 0, 0, false), (21, .invokevirtual 67, 3, 100, 2, 20, false), (24, .ifCond .ne 16, 3, 40, 0, 0, false), (27, .aload_n 0, 1, 0, 0, 0, false), (28, .iload_n 1, 1, 1, 0, 0, false), (29, .iload_n 2, 1, 2, 0, 0, false), (30, .invokevirtual 146, 3, 149, 2, 20, false), (33, .ifCond .eq 7, 3, 40, 0, 0, false), (36, .iconst 1, 1, 2, 0, 0, false), (37, .goto 4, 3, 41, 0, 0, false), (40, .iconst 0, 1, 1, 0, 0, false), (41, .ireturn, 1, 0, 0, 0, false)]
def y_M_isUnit : MethodName := ⟨rc_M, "isUnit", "(II)Z"⟩
def md_M_isUnit : MD := (rc_M, y_M_isUnit, prog_8_method_55_code, 3, (some .boolean), [], [(0, 41, e151_0)])
abbrev n_M_residue : Nat := 152
def e152_0 : List Ent := [(0, .aload_n 0, 1, 0, 0, 0, false), (1, .iload_n 1, 1, 1, 0, 0, false), (2, .invokestatic 136, 3, 102, 1, 0, false), (5, .ifCond .ne 10, 3, 15, 0, 0, false), (8, .iload_n 2, 1, 2, 0, 0, false), (9, .invokestatic 63, 3, 101, 1, 0, false), (12, .ifCond .eq 7, 3, 19, 0, 0, false), (15, .iconst 1, 1, 2, 0, 0, false), (16, .goto 4, 3, 20, 0, 0, false), (19, .iconst 0, 1, 1, 0, 0, false), (20, .iconst 1, 1, 2, 0, 0, false), (21, .invokevirtual 67, 3, 100, 2, 20, false), (24, .ifCond .eq 7, 3, 31, 0, 0, false), (27, .iconst 0, 1, 1, 0, 0, false), (28, .goto 11, 3, 39, 0, 0, false), (31, .aload_n 0, 1, 0, 0, 0, false), (32, .getfield 22, 3, 4, 4, 0, false), (35, .iload_n 1, 1, 1, 0, 0, false), (36, .aaload, 1, 0, 0, 0, false), (37, .iload_n 2, 1, 2, 0, 0, false), (38, .iaload, 1, 0, 0, 0, false), (39, .ireturn, 1, 0, 0, 0, false)]
def y_M_residue : MethodName := ⟨rc_M, "residue", "(II)I"⟩
def md_M_residue : MD := (rc_M, y_M_residue, prog_8_method_56_code, 3, (some .int), [], [(0, 39, e152_0)])
abbrev n_M_ringText : Nat := 153
def e153_0 : List Ent := [(0, .aload_n 0, 1, 0, 0, 0, false), (1, .iload_n 1, 1, 1, 0, 0, false), (2, .invokestatic 136, 3, 102, 1, 0, false), (5, .iconst 1, 1, 2, 0, 0, false), (6, .invokevirtual 67, 3, 100, 2, 20, false), (9, .ifCond .eq 6, 3, 15, 0, 0, false), (12, .ldc 98, 2, 0, 1, 0, false), (14, .areturn, 1, 0, 0, 0, false), (15, .aload_n 0, 1, 0, 0, 0, false), (16, .getfield 22, 3, 4, 4, 0, false), (19, .iload_n 1, 1, 1, 0, 0, false), (20, .aaload, 1, 0, 0, 0, false), (21, .astore_n 2, 1, 2, 0, 0, false), (22, .new 95, 3, 1, 4, 0, false), (25, .dup, 1, 0, 0, 0, false), (26, .invokespecial 97, 3, 190, 0, 5, false), (29, .aload_n 0, 1, 0, 0, 0, false), (30, .getfield 16, 3, 4, 3, 0, false), (33, .iload_n 1, 1, 1, 0, 0, false), (34, .iaload, 1, 0, 0, 0, false), (35, .invokevirtual 153, 3, 193, 1, 17, false), (38, .ldc 156, 2, 1, 1, 0, false), (40, .invokevirtual 100, 3, 191, 1, 17, false), (43, .aload_n 2, 1, 2, 0, 0, false), (44, .iconst 0, 1, 1, 0, 0, false), (45, .iaload, 1, 0, 0, 0, false), (46, .invokevirtual 153, 3, 193, 1, 17, false), (49, .ldc 158, 2, 2, 1, 0, false), (51, .invokevirtual 100, 3, 191, 1, 17, false), (54, .aload_n 2, 1, 2, 0, 0, false), (55, .iconst 1, 1, 2, 0, 0, false), (56, .iaload, 1, 0, 0, 0, false), (57, .invokevirtual 153, 3, 193, 1, 17, false), (60, .ldc 158, 2, 2, 1, 0, false), (62, .invokevirtual 100, 3, 191, 1, 17, false), (65, .aload_n 2, 1, 2, 0, 0, false), (66, .iconst 2, 1, 3, 0, 0, false), (67, .iaload, 1, 0, 0, 0, false), (68, .invokevirtual 153, 3, 193, 1, 17, false), (71, .ldc 158, 2, 2, 1, 0, false), (73, .invokevirtual 100, 3, 191, 1, 17, false), (76, .aload_n 2, 1, 2, 0, 0, false), (77, .iconst 3, 1, 4, 0, 0, false), (78, .iaload, 1, 0, 0, 0, false), (79, .invokevirtual 153, 3, 193, 1, 17, false), (82, .invokevirtual 107, 3, 196, 0, 17, false), (85, .areturn, 1, 0, 0, 0, false)]
def y_M_ringText : MethodName := ⟨rc_M, "ringText", "(I)Ljava/lang/String;"⟩
def md_M_ringText : MD := (rc_M, y_M_ringText, prog_8_method_57_code, 3, (some (.object "java/lang/String")), [], [(0, 85, e153_0)])
abbrev n_M_areAlike : Nat := 154
def e154_0 : List Ent := [(0, .aload_n 0, 1, 0, 0, 0, false), (1, .iload_n 1, 1, 1, 0, 0, false), (2, .invokestatic 136, 3, 102, 1, 0, false), (5, .ifCond .ne 18, 3, 23, 0, 0, false), (8, .iload_n 3, 1, 3, 0, 0, false), (9, .invokestatic 63, 3, 101, 1, 0, false), (12, .ifCond .ne 11, 3, 23, 0, 0, false), (15, .iload 4, 2, 4, 0, 0, false), (17, .invokestatic 63, 3, 101, 1, 0, false), (20, .ifCond .eq 7, 3, 27, 0, 0, false), (23, .iconst 1, 1, 2, 0, 0, false), (24, .goto 4, 3, 28, 0, 0, false), (27, .iconst 0, 1, 1, 0, 0, false), (28, .iconst 1, 1, 2, 0, 0, false), (29, .invokevirtual 67, 3, 100, 2, 20, false), (32, .ifCond .ne 44, 3, 76, 0, 0, false), (35, .aload_n 0, 1, 0, 0, 0, false), (36, .iload_n 2, 1, 2, 0, 0, false), (37, .iload_n 3, 1, 3, 0, 0, false), (38, .invokevirtual 36, 3, 105, 2, 20, false), (41, .aload_n 0, 1, 0, 0, 0, false), (42, .getfield 16, 3, 4, 3, 0, false), (45, .iload_n 1, 1, 1, 0, 0, false), (46, .iaload, 1, 0, 0, 0, false), (47, .i2l, 1, 0, 0, 0, false), (48, .invokestatic 60, 3, 111, 2, 0, false), (51, .aload_n 0, 1, 0, 0, 0, false), (52, .iload_n 2, 1, 2, 0, 0, false), (53, .iload 4, 2, 4, 0, 0, false), (55, .invokevirtual 36, 3, 105, 2, 20, false), (58, .aload_n 0, 1, 0, 0, 0, false), (59, .getfield 16, 3, 4, 3, 0, false), (62, .iload_n 1, 1, 1, 0, 0, false), (63, .iaload, 1, 0, 0, 0, false), (64, .i2l, 1, 0, 0, 0, false), (65, .invokestatic 60, 3, 111, 2, 0, false), (68, .lcmp, 1, 0, 0, 0, false), (69, .ifCond .ne 7, 3, 76, 0, 0, false), (72, .iconst 1, 1, 2, 0, 0, false), (73, .goto 4, 3, 77, 0, 0, false), (76, .iconst 0, 1, 1, 0, 0, false), (77, .ireturn, 1, 0, 0, 0, false)]
def y_M_areAlike : MethodName := ⟨rc_M, "areAlike", "(IZII)Z"⟩
def md_M_areAlike : MD := (rc_M, y_M_areAlike, prog_8_method_58_code, 5, (some .boolean), [], [(0, 77, e154_0)])
abbrev n_M_together : Nat := 155
def e155_0 : List Ent := [(0, .aload_n 0, 1, 0, 0, 0, false), (1, .iload_n 1, 1, 1, 0, 0, false), (2, .invokestatic 63, 3, 101, 1, 0, false), (5, .ifCond .ne 33, 3, 38, 0, 0, false), (8, .iload_n 2, 1, 2, 0, 0, false), (9, .invokestatic 136, 3, 102, 1, 0, false), (12, .ifCond .ne 26, 3, 38, 0, 0, false), (15, .iload_n 3, 1, 3, 0, 0, false), (16, .invokestatic 63, 3, 101, 1, 0, false), (19, .ifCond .ne 19, 3, 38, 0, 0, false), (22, .iload 4, 2, 4, 0, 0, false), (24, .invokestatic 136, 3, 102, 1, 0, false), (27, .ifCond .ne 11, 3, 38, 0, 0, false), (30, .iload 5, 2, 5, 0, 0, false), (32, .invokestatic 63, 3, 101, 1, 0, false), (35, .ifCond .eq 7, 3, 42, 0, 0, false), (38, .iconst 1, 1, 2, 0, 0, false), (39, .goto 4, 3, 43, 0, 0, false), (42, .iconst 0, 1, 1, 0, 0, false), (43, .iconst 1, 1, 2, 0, 0, false), (44, .invokevirtual 67, 3, 100, 2, 20, false), (47, .ifCond .eq 5, 3, 52, 0, 0, false), (50, .iconst 0, 1, 1, 0, 0, false), (51, .ireturn, 1, 0, 0, 0, false), (52, .aload_n 0, 1, 0, 0, 0, false), (53, .getfield 16, 3, 4, 3, 0, false), (56, .iload_n 2, 1, 2, 0, 0, false), (57, .iaload, 1, 0, 0, 0, false), (58, .i2l, 1, 0, 0, 0, false), (59, .invokestatic 54, 3, 180, 1, 0, false), (62, .lstore 6, 2, 6, 0, 0, false), (64, .aload_n 0, 1, 0, 0, 0, false), (65, .getfield 16, 3, 4, 3, 0, false), (68, .iload 4, 2, 4, 0, 0, false), (70, .iaload, 1, 0, 0, 0, false), (71, .i2l, 1, 0, 0, 0, false), (72, .invokestatic 54, 3, 180, 1, 0, false), (75, .lstore 8, 2, 8, 0, 0, false), (77, .lload 6, 2, 6, 0, 0, false), (79, .lload 8, 2, 8, 0, 0, false), (81, .invokestatic 143, 3, 112, 2, 0, false), (84, .lstore 10, 2, 10, 0, 0, false), (86, .aload_n 0, 1, 0, 0, 0, false), (87, .getfield 22, 3, 4, 4, 0, false), (90, .iload_n 2, 1, 2, 0, 0, false), (91, .aaload, 1, 0, 0, 0, false), (92, .iload_n 3, 1, 3, 0, 0, false), (93, .iaload, 1, 0, 0, 0, false), (94, .i2l, 1, 0, 0, 0, false), (95, .lload 6, 2, 6, 0, 0, false), (97, .invokestatic 60, 3, 111, 2, 0, false), (100, .lstore 12, 2, 12, 0, 0, false), (102, .aload_n 0, 1, 0, 0, 0, false), (103, .getfield 22, 3, 4, 4, 0, false), (106, .iload 4, 2, 4, 0, 0, false), (108, .aaload, 1, 0, 0, 0, false), (109, .iload 5, 2, 5, 0, 0, false), (111, .iaload, 1, 0, 0, 0, false), (112, .i2l, 1, 0, 0, 0, false), (113, .lload 8, 2, 8, 0, 0, false), (115, .invokestatic 60, 3, 111, 2, 0, false), (118, .lload 12, 2, 12, 0, 0, false), (120, .lsub, 1, 0, 0, 0, false), (121, .lstore 14, 2, 14, 0, 0, false), (123, .lload 14, 2, 14, 0, 0, false), (125, .lload 10, 2, 10, 0, 0, false), (127, .lrem, 1, 0, 0, 0, false), (128, .lconst 0, 1, 0, 0, 0, false), (129, .lcmp, 1, 0, 0, 0, false), (130, .ifCond .eq 8, 3, 138, 0, 0, false), (133, .aload_n 0, 1, 0, 0, 0, false), (134, .invokevirtual 76, 3, 103, 0, 20, false), (137, .ireturn, 1, 0, 0, 0, false), (138, .lload 8, 2, 8, 0, 0, false), (140, .lload 10, 2, 10, 0, 0, false), (142, .ldiv, 1, 0, 0, 0, false), (143, .lstore 16, 2, 16, 0, 0, false), (145, .lload 14, 2, 14, 0, 0, false), (147, .lload 10, 2, 10, 0, 0, false), (149, .ldiv, 1, 0, 0, 0, false), (150, .lload 16, 2, 16, 0, 0, false), (152, .invokestatic 60, 3, 111, 2, 0, false), (155, .lload 6, 2, 6, 0, 0, false), (157, .lload 10, 2, 10, 0, 0, false), (159, .ldiv, 1, 0, 0, 0, false), (160, .lload 16, 2, 16, 0, 0, false), (162, .invokestatic 150, 3, 113, 2, 0, false), (165, .lmul, 1, 0, 0, 0, false), (166, .lload 16, 2, 16, 0, 0, false), (168, .invokestatic 60, 3, 111, 2, 0, false), (171, .lstore 18, 2, 18, 0, 0, false), (173, .aload_n 0, 1, 0, 0, 0, false), (174, .iconst 1, 1, 2, 0, 0, false), (175, .iload_n 1, 1, 1, 0, 0, false), (176, .lload 12, 2, 12, 0, 0, false), (178, .lload 6, 2, 6, 0, 0, false), (180, .lload 18, 2, 18, 0, 0, false), (182, .lmul, 1, 0, 0, 0, false), (183, .ladd, 1, 0, 0, 0, false), (184, .invokevirtual 72, 3, 106, 3, 20, false), (187, .ireturn, 1, 0, 0, 0, false)]
def y_M_together : MethodName := ⟨rc_M, "togethe\x72", "(IIIII)I"⟩
def md_M_together : MD := (rc_M, y_M_together, prog_8_method_59_code, 20, (some .int), [], [(0, 187, e155_0)])
abbrev n_M_common : Nat := 156
def e156_0 : List Ent := [(0, .aload_n 0, 1, 0, 0, 0, false), (1, .iload_n 1, 1, 1, 0, 0, false), (2, .invokestatic 136, 3, 102, 1, 0, false), (5, .ifCond .ne 10, 3, 15, 0, 0, false), (8, .iload_n 2, 1, 2, 0, 0, false), (9, .invokestatic 136, 3, 102, 1, 0, false), (12, .ifCond .eq 7, 3, 19, 0, 0, false), (15, .iconst 1, 1, 2, 0, 0, false), (16, .goto 4, 3, 20, 0, 0, false), (19, .iconst 0, 1, 1, 0, 0, false), (20, .iconst 1, 1, 2, 0, 0, false), (21, .invokevirtual 67, 3, 100, 2, 20, false), (24, .ifCond .eq 6, 3, 30, 0, 0, false), (27, .ldc 98, 2, 0, 1, 0, false), (29, .areturn, 1, 0, 0, 0, false), (30, .aload_n 0, 1, 0, 0, 0, false), (31, .getfield 16, 3, 4, 3, 0, false), (34, .iload_n 1, 1, 1, 0, 0, false), (35, .iaload, 1, 0, 0, 0, false), (36, .i2l, 1, 0, 0, 0, false), (37, .invokestatic 54, 3, 180, 1, 0, false), (40, .lstore 4, 2, 4, 0, 0, false), (42, .aload_n 0, 1, 0, 0, 0, false), (43, .getfield 16, 3, 4, 3, 0, false), (46, .iload_n 2, 1, 2, 0, 0, false), (47, .iaload, 1, 0, 0, 0, false), (48, .i2l, 1, 0, 0, 0, false), (49, .invokestatic 54, 3, 180, 1, 0, false), (52, .lstore 6, 2, 6, 0, 0, false), (54, .lload 4, 2, 4, 0, 0, false), (56, .lload 6, 2, 6, 0, 0, false), (58, .invokestatic 143, 3, 112, 2, 0, false), (61, .lstore 8, 2, 8, 0, 0, false), (63, .new 95, 3, 1, 4, 0, false), (66, .dup, 1, 0, 0, 0, false), (67, .invokespecial 97, 3, 190, 0, 5, false), (70, .ldc 98, 2, 0, 1, 0, false), (72, .invokevirtual 100, 3, 191, 1, 17, false), (75, .iload_n 3, 1, 3, 0, 0, false), (76, .ifCond .eq 14, 3, 90, 0, 0, false), (79, .lload 4, 2, 4, 0, 0, false), (81, .lload 8, 2, 8, 0, 0, false), (83, .ldiv, 1, 0, 0, 0, false), (84, .lload 6, 2, 6, 0, 0, false), (86, .lmul, 1, 0, 0, 0, false), (87, .goto 5, 3, 92, 0, 0, false), (90, .lload 8, 2, 8, 0, 0, false), (92, .invokevirtual 104, 3, 194, 1, 17, false), (95, .invokevirtual 107, 3, 196, 0, 17, false), (98, .areturn, 1, 0, 0, 0, false)]
def y_M_common : MethodName := ⟨rc_M, "common", "(IIZ)Ljava/lang/String;"⟩
def md_M_common : MD := (rc_M, y_M_common, prog_8_method_60_code, 10, (some (.object "java/lang/String")), [], [(0, 98, e156_0)])
abbrev n_M_houseNow : Nat := 157
def e157_0 : List Ent := [(0, .iconst 0, 1, 1, 0, 0, false), (1, .istore_n 2, 1, 2, 0, 0, false), (2, .iconst 0, 1, 1, 0, 0, false), (3, .istore_n 3, 1, 3, 0, 0, false), (4, .iconst 0, 1, 1, 0, 0, false), (5, .istore 4, 2, 4, 0, 0, false), (7, .iload 4, 2, 4, 0, 0, true), (9, .iconst 4, 1, 5, 0, 0, false), (10, .if_icmp .ge 47, 3, 57, 0, 0, false), (13, .iload_n 2, 1, 2, 0, 0, false), (14, .aload_n 0, 1, 0, 0, 0, false), (15, .getfield 7, 3, 4, 1, 0, false), (18, .iload 4, 2, 4, 0, 0, false), (20, .laload, 1, 0, 0, 0, false), (21, .lconst 0, 1, 0, 0, 0, false), (22, .lcmp, 1, 0, 0, 0, false), (23, .ifCond .ne 7, 3, 30, 0, 0, false), (26, .iconst 1, 1, 2, 0, 0, false), (27, .goto 4, 3, 31, 0, 0, false), (30, .iconst 0, 1, 1, 0, 0, false), (31, .aload_n 0, 1, 0, 0, 0, false), (32, .getfield 13, 3, 4, 2, 0, false), (35, .iload 4, 2, 4, 0, 0, false), (37, .laload, 1, 0, 0, 0, false), (38, .lconst 0, 1, 0, 0, 0, false), (39, .lcmp, 1, 0, 0, 0, false), (40, .ifCond .ne 7, 3, 47, 0, 0, false), (43, .iconst 1, 1, 2, 0, 0, false), (44, .goto 4, 3, 48, 0, 0, false), (47, .iconst 0, 1, 1, 0, 0, false), (48, .iadd, 1, 0, 0, 0, false), (49, .iadd, 1, 0, 0, 0, false), (50, .istore_n 2, 1, 2, 0, 0, false), (51, .iinc 4 1, 3, 4, 2, 0, false), (54, .goto (-47), 3, 7, 0, 0, false), (57, .iconst 0, 1, 1, 0, 0, false), (58, .istore 4, 2, 4, 0, 0, false), (60, .iload 4, 2, 4, 0, 0, true), (62, .iconst 3, 1, 4, 0, 0, false), (63, .if_icmp .ge 43, 3, 106, 0, 0, false), (66, .iconst 0, 1, 1, 0, 0, false), (67, .istore 5, 2, 5, 0, 0, false), (69, .iload 5, 2, 5, 0, 0, true), (71, .iconst 4, 1, 5, 0, 0, false), (72, .if_icmp .ge 28, 3, 100, 0, 0, false), (75, .iload_n 3, 1, 3, 0, 0, false), (76, .aload_n 0, 1, 0, 0, 0, false), (77, .iload 4, 2, 4, 0, 0, false), (79, .iload 5, 2, 5, 0, 0, false), (81, .invokevirtual 146, 3, 149, 2, 20, false), (84, .ifCond .eq 7, 3, 91, 0, 0, false), (87, .iconst 1, 1, 2, 0, 0, false), (88, .goto 4, 3, 92, 0, 0, false), (91, .iconst 0, 1, 1, 0, 0, false), (92, .iadd, 1, 0, 0, 0, false), (93, .istore_n 3, 1, 3, 0, 0, false), (94, .iinc 5 1, 3, 5, 2, 0, false), (97, .goto (-28), 3, 69, 0, 0, false), (100, .iinc 4 1, 3, 4, 2, 0, false), (103, .goto (-43), 3, 60, 0, 0, false), (106, .iload_n 1, 1, 1, 0, 0, false), (107, .ifCond .ne 10, 3, 117, 0, 0, false), (110, .aload_n 0, 1, 0, 0, 0, false), (111, .getfield 33, 3, 4, 5, 0, false), (114, .goto 25, 3, 139, 0, 0, false), (117, .iload_n 1, 1, 1, 0, 0, false), (118, .iconst 1, 1, 2, 0, 0, false), (119, .if_icmp .ne 10, 3, 129, 0, 0, false), (122, .aload_n 0, 1, 0, 0, 0, false), (123, .getfield 160, 3, 4, 6, 0, false), (126, .goto 13, 3, 139, 0, 0, false), (129, .iload_n 1, 1, 1, 0, 0, false), (130, .iconst 2, 1, 3, 0, 0, false), (131, .if_icmp .ne 7, 3, 138, 0, 0, false), (134, .iload_n 2, 1, 2, 0, 0, false), (135, .goto 4, 3, 139, 0, 0, false), (138, .iload_n 3, 1, 3, 0, 0, false), (139, .ireturn, 1, 0, 0, 0, false)]
def y_M_houseNow : MethodName := ⟨rc_M, "houseNow", "(I)I"⟩
def md_M_houseNow : MD := (rc_M, y_M_houseNow, prog_8_method_61_code, 6, (some .int), [], [(0, 139, e157_0)])
abbrev n_M_house : Nat := 158
def e158_0 : List Ent := [(0, .aload_n 0, 1, 0, 0, 0, false), (1, .iload_n 1, 1, 1, 0, 0, false), (2, .ifCond .lt 8, 3, 10, 0, 0, false), (5, .iload_n 1, 1, 1, 0, 0, false), (6, .iconst 3, 1, 4, 0, 0, false), (7, .if_icmp .le 7, 3, 14, 0, 0, false), (10, .iconst 1, 1, 2, 0, 0, false), (11, .goto 4, 3, 15, 0, 0, false), (14, .iconst 0, 1, 1, 0, 0, false), (15, .iconst 1, 1, 2, 0, 0, false), (16, .invokevirtual 67, 3, 100, 2, 20, false), (19, .ifCond .eq 7, 3, 26, 0, 0, false), (22, .iconst 0, 1, 1, 0, 0, false), (23, .goto 8, 3, 31, 0, 0, false), (26, .aload_n 0, 1, 0, 0, 0, false), (27, .iload_n 1, 1, 1, 0, 0, false), (28, .invokevirtual 163, 3, 157, 1, 20, false), (31, .ireturn, 1, 0, 0, 0, false)]
def y_M_house : MethodName := ⟨rc_M, "house", "(I)I"⟩
def md_M_house : MD := (rc_M, y_M_house, prog_8_method_62_code, 2, (some .int), [], [(0, 31, e158_0)])
abbrev n_M_knock : Nat := 159
def e159_0 : List Ent := [(0, .aload_n 0, 1, 0, 0, 0, false), (1, .iconst 0, 1, 1, 0, 0, false), (2, .putfield 25, 3, 4, 0, 0, false), (5, .aload_n 0, 1, 0, 0, 0, false), (6, .dup, 1, 0, 0, 0, false), (7, .getfield 160, 3, 4, 6, 0, false), (10, .iconst 1, 1, 2, 0, 0, false), (11, .iadd, 1, 0, 0, 0, false), (12, .dup_x1, 1, 0, 0, 0, false), (13, .putfield 160, 3, 4, 6, 0, false), (16, .ireturn, 1, 0, 0, 0, false)]
def y_M_knock : MethodName := ⟨rc_M, "knock", "()I"⟩
def md_M_knock : MD := (rc_M, y_M_knock, prog_8_method_63_code, 1, (some .int), [], [(0, 16, e159_0)])
abbrev n_M_isSound : Nat := 160
def e160_0 : List Ent := [(0, .aload_n 0, 1, 0, 0, 0, false), (1, .iconst 0, 1, 1, 0, 0, false), (2, .putfield 25, 3, 4, 0, 0, false), (5, .iconst 1, 1, 2, 0, 0, false), (6, .ireturn, 1, 0, 0, 0, false)]
def y_M_isSound : MethodName := ⟨rc_M, "isSound", "()Z"⟩
def md_M_isSound : MD := (rc_M, y_M_isSound, prog_8_method_64_code, 1, (some .boolean), [], [(0, 6, e160_0)])
abbrev n_M_digest : Nat := 161
def e161_0 : List Ent := [(0, .aload_n 0, 1, 0, 0, 0, false), (1, .iconst 0, 1, 1, 0, 0, false), (2, .putfield 25, 3, 4, 0, 0, false), (5, .ldc2_w 167, 3, 11, 0, 0, false), (8, .lstore_n 1, 1, 1, 0, 0, false), (9, .iconst 0, 1, 1, 0, 0, false), (10, .istore_n 3, 1, 3, 0, 0, false), (11, .iload_n 3, 1, 3, 0, 0, true), (12, .iconst 4, 1, 5, 0, 0, false), (13, .if_icmp .ge 22, 3, 35, 0, 0, false), (16, .lload_n 1, 1, 1, 0, 0, false), (17, .ldc2_w 169, 3, 12, 0, 0, false), (20, .lmul, 1, 0, 0, 0, false), (21, .aload_n 0, 1, 0, 0, 0, false), (22, .iload_n 3, 1, 3, 0, 0, false), (23, .invokevirtual 163, 3, 157, 1, 20, false), (26, .i2l, 1, 0, 0, 0, false), (27, .ladd, 1, 0, 0, 0, false), (28, .lstore_n 1, 1, 1, 0, 0, false), (29, .iinc 3 1, 3, 3, 2, 0, false), (32, .goto (-21), 3, 11, 0, 0, false), (35, .iconst 0, 1, 1, 0, 0, false), (36, .istore_n 3, 1, 3, 0, 0, false), (37, .iload_n 3, 1, 3, 0, 0, true), (38, .iconst 2, 1, 3, 0, 0, false), (39, .if_icmp .ge 65, 3, 104, 0, 0, false), (42, .iconst 0, 1, 1, 0, 0, false), (43, .istore 4, 2, 4, 0, 0, false), (45, .iload 4, 2, 4, 0, 0, true), (47, .iconst 4, 1, 5, 0, 0, false), (48, .if_icmp .ge 50, 3, 98, 0, 0, false), (51, .iconst 0, 1, 1, 0, 0, false), (52, .istore 5, 2, 5, 0, 0, false), (54, .iload 5, 2, 5, 0, 0, true), (56, .iconst 5, 1, 6, 0, 0, false), (57, .if_icmp .ge 35, 3, 92, 0, 0, false), (60, .lload_n 1, 1, 1, 0, 0, false), (61, .ldc2_w 169, 3, 12, 0, 0, false), (64, .lmul, 1, 0, 0, 0, false), (65, .aload_n 0, 1, 0, 0, 0, false), (66, .iload_n 3, 1, 3, 0, 0, false), (67, .iconst 1, 1, 2, 0, 0, false), (68, .if_icmp .ne 7, 3, 75, 0, 0, false), (71, .iconst 1, 1, 2, 0, 0, false), (72, .goto 4, 3, 76, 0, 0, false), (75, .iconst 0, 1, 1, 0, 0, false), (76, .iload 4, 2, 4, 0, 0, false), (78, .iload 5, 2, 5, 0, 0, false), (80, .invokevirtual 132, 3, 138, 3, 20, false), (83, .i2l, 1, 0, 0, 0, false), (84, .ladd, 1, 0, 0, 0, false), (85, .lstore_n 1, 1, 1, 0, 0, false), (86, .iinc 5 1, 3, 5, 2, 0, false), (89, .goto (-35), 3, 54, 0, 0, false), (92, .iinc 4 1, 3, 4, 2, 0, false), (95, .goto (-50), 3, 45, 0, 0, false), (98, .iinc 3 1, 3, 3, 2, 0, false), (101, .goto (-64), 3, 37, 0, 0, false), (104, .iconst 0, 1, 1, 0, 0, false), (105, .istore_n 3, 1, 3, 0, 0, false), (106, .iload_n 3, 1, 3, 0, 0, true), (107, .iconst 3, 1, 4, 0, 0, false), (108, .if_icmp .ge 55, 3, 163, 0, 0, false), (111, .lload_n 1, 1, 1, 0, 0, false), (112, .ldc2_w 169, 3, 12, 0, 0, false), (115, .lmul, 1, 0, 0, 0, false), (116, .aload_n 0, 1, 0, 0, 0, false), (117, .getfield 16, 3, 4, 3, 0, false), (120, .iload_n 3, 1, 3, 0, 0, false), (121, .iaload, 1, 0, 0, 0, false), (122, .i2l, 1, 0, 0, 0, false), (123, .ladd, 1, 0, 0, 0, false), (124, .lstore_n 1, 1, 1, 0, 0, false), (125, .iconst 0, 1, 1, 0, 0, false), (126, .istore 4, 2, 4, 0, 0, false), (128, .iload 4, 2, 4, 0, 0, true), (130, .iconst 4, 1, 5, 0, 0, false), (131, .if_icmp .ge 26, 3, 157, 0, 0, false), (134, .lload_n 1, 1, 1, 0, 0, false), (135, .ldc2_w 169, 3, 12, 0, 0, false), (138, .lmul, 1, 0, 0, 0, false), (139, .aload_n 0, 1, 0, 0, 0, false), (140, .getfield 22, 3, 4, 4, 0, false), (143, .iload_n 3, 1, 3, 0, 0, false), (144, .aaload, 1, 0, 0, 0, false), (145, .iload 4, 2, 4, 0, 0, false), (147, .iaload, 1, 0, 0, 0, false), (148, .i2l, 1, 0, 0, 0, false), (149, .ladd, 1, 0, 0, 0, false), (150, .lstore_n 1, 1, 1, 0, 0, false), (151, .iinc 4 1, 3, 4, 2, 0, false), (154, .goto (-26), 3, 128, 0, 0, false), (157, .iinc 3 1, 3, 3, 2, 0, false), (160, .goto (-54), 3, 106, 0, 0, false), (163, .lload_n 1, 1, 1, 0, 0, false), (164, .ldc2_w 169, 3, 12, 0, 0, false), (167, .lmul, 1, 0, 0, 0, false), (168, .lconst 1, 1, 1, 0, 0, false), (169, .ladd, 1, 0, 0, 0, false), (170, .lreturn, 1, 0, 0, 0, false)]
def y_M_digest : MethodName := ⟨rc_M, "digest", "()J"⟩
def md_M_digest : MD := (rc_M, y_M_digest, prog_8_method_65_code, 6, (some .long), [], [(0, 170, e161_0)])
abbrev n_ASB_new : Nat := 162
def e162_0 : List Ent := [(0, .aload_n 0, 1, 0, 0, 0, false), (1, .invokespecial 3, 3, 0, 0, 7, false), (4, .getstatic 18, 3, 0, 0, 0, false), (7, .ifCond .eq 18, 3, 25, 0, 0, false), (10, .aload_n 0, 1, 0, 0, 0, false), (11, .iload_n 1, 1, 1, 0, 0, false), (12, .newarray .byte, 2, 0, 0, 0, false), (14, .putfield 15, 3, 1, 0, 0, false), (17, .aload_n 0, 1, 0, 0, 0, false), (18, .iconst 0, 1, 1, 0, 0, false), (19, .putfield 22, 3, 1, 1, 0, false), (22, .goto 16, 3, 38, 0, 0, false), (25, .aload_n 0, 1, 0, 0, 0, false), (26, .iload_n 1, 1, 1, 0, 0, false), (27, .invokestatic 26, 3, 0, 0, 99, false), (30, .putfield 15, 3, 1, 0, 0, false), (33, .aload_n 0, 1, 0, 0, 0, false), (34, .iconst 1, 1, 2, 0, 0, false), (35, .putfield 22, 3, 1, 1, 0, false), (38, .return_, 1, 0, 0, 0, false)]
def y_ASB_new : MethodName := ⟨rc_ASB, "<init>", "(I)V"⟩
def md_ASB_new : MD := (rc_ASB, y_ASB_new, prog_9_method_2_code, 2, none, [], [(0, 38, e162_0)])
abbrev n_ASB_length : Nat := 163
def e163_0 : List Ent := [(0, .aload_n 0, 1, 0, 0, 0, false), (1, .getfield 79, 3, 1, 3, 0, false), (4, .ireturn, 1, 0, 0, 0, false)]
def y_ASB_length : MethodName := ⟨rc_ASB, "length", "()I"⟩
def md_ASB_length : MD := (rc_ASB, y_ASB_length, prog_9_method_6_code, 1, (some .int), [], [(0, 4, e163_0)])
abbrev n_ASB_ensureCapacityInternal : Nat := 164
def e164_0 : List Ent := [(0, .aload_n 0, 1, 0, 0, 0, false), (1, .getfield 15, 3, 1, 0, 0, false), (4, .arraylength, 1, 0, 0, 0, false), (5, .aload_n 0, 1, 0, 0, 0, false), (6, .getfield 22, 3, 1, 1, 0, false), (9, .ishr, 1, 0, 0, 0, false), (10, .istore_n 2, 1, 2, 0, 0, false), (11, .iload_n 1, 1, 1, 0, 0, false), (12, .iload_n 2, 1, 2, 0, 0, false), (13, .isub, 1, 0, 0, 0, false), (14, .ifCond .le 24, 3, 38, 0, 0, false), (17, .aload_n 0, 1, 0, 0, 0, false), (18, .aload_n 0, 1, 0, 0, 0, false), (19, .getfield 15, 3, 1, 0, 0, false), (22, .aload_n 0, 1, 0, 0, 0, false), (23, .iload_n 1, 1, 1, 0, 0, false), (24, .invokevirtual 104, 3, 165, 1, 33, false), (27, .aload_n 0, 1, 0, 0, 0, false), (28, .getfield 22, 3, 1, 1, 0, false), (31, .ishl, 1, 0, 0, 0, false), (32, .invokestatic 108, 3, 199, 2, 0, false), (35, .putfield 15, 3, 1, 0, 0, false), (38, .return_, 1, 0, 0, 0, false)]
def y_ASB_ensureCapacityInternal : MethodName := ⟨rc_ASB, "ensureCapacityInternal", "(I)V"⟩
def md_ASB_ensureCapacityInternal : MD := (rc_ASB, y_ASB_ensureCapacityInternal, prog_9_method_9_code, 3, none, [], [(0, 38, e164_0)])
abbrev n_ASB_newCapacity : Nat := 165
def e165_0 : List Ent := [(0, .aload_n 0, 1, 0, 0, 0, false), (1, .getfield 15, 3, 1, 0, 0, false), (4, .arraylength, 1, 0, 0, 0, false), (5, .istore_n 2, 1, 2, 0, 0, false), (6, .iload_n 1, 1, 1, 0, 0, false), (7, .aload_n 0, 1, 0, 0, 0, false), (8, .getfield 22, 3, 1, 1, 0, false), (11, .ishl, 1, 0, 0, 0, false), (12, .istore_n 3, 1, 3, 0, 0, false), (13, .iload_n 3, 1, 3, 0, 0, false), (14, .iload_n 2, 1, 2, 0, 0, false), (15, .isub, 1, 0, 0, 0, false), (16, .istore 4, 2, 4, 0, 0, false), (18, .iload_n 2, 1, 2, 0, 0, false), (19, .iload 4, 2, 4, 0, 0, false), (21, .iload_n 2, 1, 2, 0, 0, false), (22, .iconst 2, 1, 3, 0, 0, false), (23, .aload_n 0, 1, 0, 0, 0, false), (24, .getfield 22, 3, 1, 1, 0, false), (27, .ishl, 1, 0, 0, 0, false), (28, .iadd, 1, 0, 0, 0, false), (29, .invokestatic 114, 3, 203, 3, 0, false), (32, .istore 5, 2, 5, 0, 0, false), (34, .iload 5, 2, 5, 0, 0, false), (36, .ldc 39, 2, 19, 0, 0, false), (38, .if_icmp .ne 13, 3, 51, 0, 0, false), (41, .new 120, 3, 99, 0, 0, false), (44, .dup, 1, 0, 0, 0, false), (45, .ldc 122, 2, 0, 99, 0, false), (47, .invokespecial 124, 3, 0, 0, 99, false), (50, .athrow, 1, 0, 0, 0, false), (51, .iload 5, 2, 5, 0, 0, false), (53, .aload_n 0, 1, 0, 0, 0, false), (54, .getfield 22, 3, 1, 1, 0, false), (57, .ishr, 1, 0, 0, 0, false), (58, .ireturn, 1, 0, 0, 0, false)]
def y_ASB_newCapacity : MethodName := ⟨rc_ASB, "newCapacity", "(I)I"⟩
def md_ASB_newCapacity : MD := (rc_ASB, y_ASB_newCapacity, prog_9_method_10_code, 6, (some .int), [], [(0, 58, e165_0)])
abbrev n_ASB_append_T : Nat := 166
def e166_0 : List Ent := [(0, .aload_n 1, 1, 1, 0, 0, false), (1, .ifnonnull 8, 3, 9, 0, 0, false), (4, .aload_n 0, 1, 0, 0, 0, false), (5, .invokevirtual 204, 3, 0, 0, 99, false), (8, .areturn, 1, 0, 0, 0, false), (9, .aload_n 1, 1, 1, 0, 0, false), (10, .invokevirtual 32, 3, 186, 0, 16, false), (13, .istore_n 2, 1, 2, 0, 0, false), (14, .aload_n 0, 1, 0, 0, 0, false), (15, .aload_n 0, 1, 0, 0, 0, false), (16, .getfield 79, 3, 1, 3, 0, false), (19, .iload_n 2, 1, 2, 0, 0, false), (20, .iadd, 1, 0, 0, 0, false), (21, .invokevirtual 100, 3, 164, 1, 33, false), (24, .aload_n 0, 1, 0, 0, 0, false), (25, .aload_n 0, 1, 0, 0, 0, false), (26, .getfield 79, 3, 1, 3, 0, false), (29, .aload_n 1, 1, 1, 0, 0, false), (30, .invokevirtual 208, 3, 174, 2, 33, false), (33, .aload_n 0, 1, 0, 0, 0, false), (34, .dup, 1, 0, 0, 0, false), (35, .getfield 79, 3, 1, 3, 0, false), (38, .iload_n 2, 1, 2, 0, 0, false), (39, .iadd, 1, 0, 0, 0, false), (40, .putfield 79, 3, 1, 3, 0, false), (43, .aload_n 0, 1, 0, 0, 0, false), (44, .areturn, 1, 0, 0, 0, false)]
def y_ASB_append_T : MethodName := ⟨rc_ASB, "append", "(Ljava/lang/String;)Ljava/lang/AbstractStringBuilder;"⟩
def md_ASB_append_T : MD := (rc_ASB, y_ASB_append_T, prog_9_method_22_code, 3, (some (.object "java/lang/AbstractStringBuilde\x72")), [], [(0, 44, e166_0)])
abbrev n_ASB_append_C : Nat := 167
def e167_0 : List Ent := [(0, .aload_n 0, 1, 0, 0, 0, false), (1, .aload_n 0, 1, 0, 0, 0, false), (2, .getfield 79, 3, 1, 3, 0, false), (5, .iconst 1, 1, 2, 0, 0, false), (6, .iadd, 1, 0, 0, 0, false), (7, .invokevirtual 100, 3, 164, 1, 33, false), (10, .aload_n 0, 1, 0, 0, 0, false), (11, .invokevirtual 83, 3, 172, 0, 33, false), (14, .ifCond .eq 31, 3, 45, 0, 0, false), (17, .iload_n 1, 1, 1, 0, 0, false), (18, .invokestatic 191, 3, 198, 1, 0, false), (21, .ifCond .eq 24, 3, 45, 0, 0, false), (24, .aload_n 0, 1, 0, 0, 0, false), (25, .getfield 15, 3, 1, 0, 0, false), (28, .aload_n 0, 1, 0, 0, 0, false), (29, .dup, 1, 0, 0, 0, false), (30, .getfield 79, 3, 1, 3, 0, false), (33, .dup_x1, 1, 0, 0, 0, false), (34, .iconst 1, 1, 2, 0, 0, false), (35, .iadd, 1, 0, 0, 0, false), (36, .putfield 79, 3, 1, 3, 0, false), (39, .iload_n 1, 1, 1, 0, 0, false), (40, .i2b, 1, 0, 0, 0, false), (41, .bastore, 1, 0, 0, 0, false), (42, .goto 33, 3, 75, 0, 0, false), (45, .aload_n 0, 1, 0, 0, 0, false), (46, .invokevirtual 83, 3, 172, 0, 33, false), (49, .ifCond .eq 7, 3, 56, 0, 0, false), (52, .aload_n 0, 1, 0, 0, 0, false), (53, .invokevirtual 195, 3, 0, 0, 99, false), (56, .aload_n 0, 1, 0, 0, 0, false), (57, .getfield 15, 3, 1, 0, 0, false), (60, .aload_n 0, 1, 0, 0, 0, false), (61, .dup, 1, 0, 0, 0, false), (62, .getfield 79, 3, 1, 3, 0, false), (65, .dup_x1, 1, 0, 0, 0, false), (66, .iconst 1, 1, 2, 0, 0, false), (67, .iadd, 1, 0, 0, 0, false), (68, .putfield 79, 3, 1, 3, 0, false), (71, .iload_n 1, 1, 1, 0, 0, false), (72, .invokestatic 197, 3, 0, 0, 99, false), (75, .aload_n 0, 1, 0, 0, 0, false), (76, .areturn, 1, 0, 0, 0, false)]
def y_ASB_append_C : MethodName := ⟨rc_ASB, "append", "(C)Ljava/lang/AbstractStringBuilder;"⟩
def md_ASB_append_C : MD := (rc_ASB, y_ASB_append_C, prog_9_method_31_code, 2, (some (.object "java/lang/AbstractStringBuilde\x72")), [], [(0, 76, e167_0)])
abbrev n_ASB_append_I : Nat := 168
def e168_0 : List Ent := [(0, .aload_n 0, 1, 0, 0, 0, false), (1, .getfield 79, 3, 1, 3, 0, false), (4, .istore_n 2, 1, 2, 0, 0, false), (5, .iload_n 2, 1, 2, 0, 0, false), (6, .iload_n 1, 1, 1, 0, 0, false), (7, .invokestatic 245, 3, 176, 1, 0, false), (10, .iadd, 1, 0, 0, 0, false), (11, .istore_n 3, 1, 3, 0, 0, false), (12, .aload_n 0, 1, 0, 0, 0, false), (13, .iload_n 3, 1, 3, 0, 0, false), (14, .invokevirtual 100, 3, 164, 1, 33, false), (17, .aload_n 0, 1, 0, 0, 0, false), (18, .invokevirtual 83, 3, 172, 0, 33, false), (21, .ifCond .eq 16, 3, 37, 0, 0, false), (24, .iload_n 1, 1, 1, 0, 0, false), (25, .iload_n 3, 1, 3, 0, 0, false), (26, .aload_n 0, 1, 0, 0, 0, false), (27, .getfield 15, 3, 1, 0, 0, false), (30, .invokestatic 248, 3, 175, 3, 0, false), (33, .pop, 1, 0, 0, 0, false), (34, .goto 14, 3, 48, 0, 0, false), (37, .iload_n 1, 1, 1, 0, 0, false), (38, .iload_n 2, 1, 2, 0, 0, false), (39, .iload_n 3, 1, 3, 0, 0, false), (40, .aload_n 0, 1, 0, 0, 0, false), (41, .getfield 15, 3, 1, 0, 0, false), (44, .invokestatic 251, 3, 0, 0, 99, false), (47, .pop, 1, 0, 0, 0, false), (48, .aload_n 0, 1, 0, 0, 0, false), (49, .iload_n 3, 1, 3, 0, 0, false), (50, .putfield 79, 3, 1, 3, 0, false), (53, .aload_n 0, 1, 0, 0, 0, false), (54, .areturn, 1, 0, 0, 0, false)]
def y_ASB_append_I : MethodName := ⟨rc_ASB, "append", "(I)Ljava/lang/AbstractStringBuilder;"⟩
def md_ASB_append_I : MD := (rc_ASB, y_ASB_append_I, prog_9_method_32_code, 4, (some (.object "java/lang/AbstractStringBuilde\x72")), [], [(0, 54, e168_0)])
abbrev n_ASB_append_J : Nat := 169
def e169_0 : List Ent := [(0, .aload_n 0, 1, 0, 0, 0, false), (1, .getfield 79, 3, 1, 3, 0, false), (4, .istore_n 3, 1, 3, 0, 0, false), (5, .iload_n 3, 1, 3, 0, 0, false), (6, .lload_n 1, 1, 1, 0, 0, false), (7, .invokestatic 254, 3, 178, 1, 0, false), (10, .iadd, 1, 0, 0, 0, false), (11, .istore 4, 2, 4, 0, 0, false), (13, .aload_n 0, 1, 0, 0, 0, false), (14, .iload 4, 2, 4, 0, 0, false), (16, .invokevirtual 100, 3, 164, 1, 33, false), (19, .aload_n 0, 1, 0, 0, 0, false), (20, .invokevirtual 83, 3, 172, 0, 33, false), (23, .ifCond .eq 17, 3, 40, 0, 0, false), (26, .lload_n 1, 1, 1, 0, 0, false), (27, .iload 4, 2, 4, 0, 0, false), (29, .aload_n 0, 1, 0, 0, 0, false), (30, .getfield 15, 3, 1, 0, 0, false), (33, .invokestatic 259, 3, 177, 3, 0, false), (36, .pop, 1, 0, 0, 0, false), (37, .goto 15, 3, 52, 0, 0, false), (40, .lload_n 1, 1, 1, 0, 0, false), (41, .iload_n 3, 1, 3, 0, 0, false), (42, .iload 4, 2, 4, 0, 0, false), (44, .aload_n 0, 1, 0, 0, 0, false), (45, .getfield 15, 3, 1, 0, 0, false), (48, .invokestatic 262, 3, 0, 0, 99, false), (51, .pop, 1, 0, 0, 0, false), (52, .aload_n 0, 1, 0, 0, 0, false), (53, .iload 4, 2, 4, 0, 0, false), (55, .putfield 79, 3, 1, 3, 0, false), (58, .aload_n 0, 1, 0, 0, 0, false), (59, .areturn, 1, 0, 0, 0, false)]
def y_ASB_append_J : MethodName := ⟨rc_ASB, "append", "(J)Ljava/lang/AbstractStringBuilder;"⟩
def md_ASB_append_J : MD := (rc_ASB, y_ASB_append_J, prog_9_method_33_code, 5, (some (.object "java/lang/AbstractStringBuilde\x72")), [], [(0, 59, e169_0)])
abbrev n_ASB_reverse : Nat := 170
def e170_0 : List Ent := [(0, .aload_n 0, 1, 0, 0, 0, false), (1, .getfield 15, 3, 1, 0, 0, false), (4, .astore_n 1, 1, 1, 0, 0, false), (5, .aload_n 0, 1, 0, 0, 0, false), (6, .getfield 79, 3, 1, 3, 0, false), (9, .istore_n 2, 1, 2, 0, 0, false), (10, .iload_n 2, 1, 2, 0, 0, false), (11, .iconst 1, 1, 2, 0, 0, false), (12, .isub, 1, 0, 0, 0, false), (13, .istore_n 3, 1, 3, 0, 0, false), (14, .aload_n 0, 1, 0, 0, 0, false), (15, .invokevirtual 83, 3, 172, 0, 33, false), (18, .ifCond .eq 50, 3, 68, 0, 0, false), (21, .iload_n 3, 1, 3, 0, 0, false), (22, .iconst 1, 1, 2, 0, 0, false), (23, .isub, 1, 0, 0, 0, false), (24, .iconst 1, 1, 2, 0, 0, false), (25, .ishr, 1, 0, 0, 0, false), (26, .istore 4, 2, 4, 0, 0, false), (28, .iload 4, 2, 4, 0, 0, true), (30, .ifCond .lt 35, 3, 65, 0, 0, false), (33, .iload_n 3, 1, 3, 0, 0, false), (34, .iload 4, 2, 4, 0, 0, false), (36, .isub, 1, 0, 0, 0, false), (37, .istore 5, 2, 5, 0, 0, false), (39, .aload_n 1, 1, 1, 0, 0, false), (40, .iload 4, 2, 4, 0, 0, false), (42, .baload, 1, 0, 0, 0, false), (43, .istore 6, 2, 6, 0, 0, false), (45, .aload_n 1, 1, 1, 0, 0, false), (46, .iload 4, 2, 4, 0, 0, false), (48, .aload_n 1, 1, 1, 0, 0, false), (49, .iload 5, 2, 5, 0, 0, false), (51, .baload, 1, 0, 0, 0, false), (52, .bastore, 1, 0, 0, 0, false), (53, .aload_n 1, 1, 1, 0, 0, false), (54, .iload 5, 2, 5, 0, 0, false), (56, .iload 6, 2, 6, 0, 0, false), (58, .bastore, 1, 0, 0, 0, false), (59, .iinc 4 (-1), 3, 4, 0, 0, false), (62, .goto (-34), 3, 28, 0, 0, false), (65, .goto 8, 3, 73, 0, 0, false), (68, .aload_n 1, 1, 1, 0, 0, false), (69, .iload_n 2, 1, 2, 0, 0, false), (70, .invokestatic 358, 3, 0, 0, 99, false), (73, .aload_n 0, 1, 0, 0, 0, false), (74, .areturn, 1, 0, 0, 0, false)]
def y_ASB_reverse : MethodName := ⟨rc_ASB, "reverse", "()Ljava/lang/AbstractStringBuilder;"⟩
def md_ASB_reverse : MD := (rc_ASB, y_ASB_reverse, prog_9_method_60_code, 7, (some (.object "java/lang/AbstractStringBuilde\x72")), [], [(0, 74, e170_0)])
abbrev n_ASB_getValue : Nat := 171
def e171_0 : List Ent := [(0, .aload_n 0, 1, 0, 0, 0, false), (1, .getfield 15, 3, 1, 0, 0, false), (4, .areturn, 1, 0, 0, 0, false)]
def y_ASB_getValue : MethodName := ⟨rc_ASB, "getValue", "()[B"⟩
def md_ASB_getValue : MD := (rc_ASB, y_ASB_getValue, prog_9_method_64_code, 1, (some (.array .byte)), [], [(0, 4, e171_0)])
abbrev n_ASB_isLatin1 : Nat := 172
def e172_0 : List Ent := [(0, .getstatic 18, 3, 0, 0, 0, false), (3, .ifCond .eq 14, 3, 17, 0, 0, false), (6, .aload_n 0, 1, 0, 0, 0, false), (7, .getfield 22, 3, 1, 1, 0, false), (10, .ifCond .ne 7, 3, 17, 0, 0, false), (13, .iconst 1, 1, 2, 0, 0, false), (14, .goto 4, 3, 18, 0, 0, false), (17, .iconst 0, 1, 1, 0, 0, false), (18, .ireturn, 1, 0, 0, 0, false)]
def y_ASB_isLatin1 : MethodName := ⟨rc_ASB, "isLatin1", "()Z"⟩
def md_ASB_isLatin1 : MD := (rc_ASB, y_ASB_isLatin1, prog_9_method_68_code, 1, (some .boolean), [], [(0, 18, e172_0)])
abbrev n_ASB_inflateIfNeededFor : Nat := 173
def e173_0 : List Ent := [(0, .getstatic 18, 3, 0, 0, 0, false), (3, .ifCond .eq 18, 3, 21, 0, 0, false), (6, .aload_n 0, 1, 0, 0, 0, false), (7, .getfield 22, 3, 1, 1, 0, false), (10, .aload_n 1, 1, 1, 0, 0, false), (11, .invokevirtual 40, 3, 189, 0, 16, false), (14, .if_icmp .eq 7, 3, 21, 0, 0, false), (17, .aload_n 0, 1, 0, 0, 0, false), (18, .invokevirtual 195, 3, 0, 0, 99, false), (21, .return_, 1, 0, 0, 0, false)]
def y_ASB_inflateIfNeededFor : MethodName := ⟨rc_ASB, "inflateIfNeededFo\x72", "(Ljava/lang/String;)V"⟩
def md_ASB_inflateIfNeededFor : MD := (rc_ASB, y_ASB_inflateIfNeededFor, prog_9_method_71_code, 2, none, [], [(0, 21, e173_0)])
abbrev n_ASB_putStringAt : Nat := 174
def e174_0 : List Ent := [(0, .aload_n 0, 1, 0, 0, 0, false), (1, .aload_n 2, 1, 2, 0, 0, false), (2, .invokevirtual 397, 3, 173, 1, 33, false), (5, .aload_n 2, 1, 2, 0, 0, false), (6, .aload_n 0, 1, 0, 0, 0, false), (7, .getfield 15, 3, 1, 0, 0, false), (10, .iload_n 1, 1, 1, 0, 0, false), (11, .aload_n 0, 1, 0, 0, 0, false), (12, .getfield 22, 3, 1, 1, 0, false), (15, .invokevirtual 399, 3, 187, 3, 16, false), (18, .return_, 1, 0, 0, 0, false)]
def y_ASB_putStringAt : MethodName := ⟨rc_ASB, "putStringAt", "(ILjava/lang/String;)V"⟩
def md_ASB_putStringAt : MD := (rc_ASB, y_ASB_putStringAt, prog_9_method_73_code, 3, none, [], [(0, 18, e174_0)])
abbrev n_INT_getChars : Nat := 175
def e175_0 : List Ent := [(0, .iload_n 1, 1, 1, 0, 0, false), (1, .istore 5, 2, 5, 0, 0, false), (3, .iload_n 0, 1, 0, 0, 0, false), (4, .ifCond .ge 7, 3, 11, 0, 0, false), (7, .iconst 1, 1, 2, 0, 0, false), (8, .goto 4, 3, 12, 0, 0, false), (11, .iconst 0, 1, 1, 0, 0, false), (12, .istore 6, 2, 6, 0, 0, false), (14, .iload 6, 2, 6, 0, 0, false), (16, .ifCond .ne 6, 3, 22, 0, 0, false), (19, .iload_n 0, 1, 0, 0, 0, false), (20, .ineg, 1, 0, 0, 0, false), (21, .istore_n 0, 1, 0, 0, 0, false), (22, .iload_n 0, 1, 0, 0, 0, true), (23, .bipush (-100), 2, 20, 0, 0, false), (25, .if_icmp .gt 47, 3, 72, 0, 0, false), (28, .iload_n 0, 1, 0, 0, 0, false), (29, .bipush 100, 2, 21, 0, 0, false), (31, .idiv, 1, 0, 0, 0, false), (32, .istore_n 3, 1, 3, 0, 0, false), (33, .iload_n 3, 1, 3, 0, 0, false), (34, .bipush 100, 2, 21, 0, 0, false), (36, .imul, 1, 0, 0, 0, false), (37, .iload_n 0, 1, 0, 0, 0, false), (38, .isub, 1, 0, 0, 0, false), (39, .istore 4, 2, 4, 0, 0, false), (41, .iload_n 3, 1, 3, 0, 0, false), (42, .istore_n 0, 1, 0, 0, 0, false), (43, .aload_n 2, 1, 2, 0, 0, false), (44, .iinc 5 (-1), 3, 5, 0, 0, false), (47, .iload 5, 2, 5, 0, 0, false), (49, .getstatic 83, 3, 2, 0, 0, false), (52, .iload 4, 2, 4, 0, 0, false), (54, .baload, 1, 0, 0, 0, false), (55, .bastore, 1, 0, 0, 0, false), (56, .aload_n 2, 1, 2, 0, 0, false), (57, .iinc 5 (-1), 3, 5, 0, 0, false), (60, .iload 5, 2, 5, 0, 0, false), (62, .getstatic 87, 3, 1, 0, 0, false), (65, .iload 4, 2, 4, 0, 0, false), (67, .baload, 1, 0, 0, 0, false), (68, .bastore, 1, 0, 0, 0, false), (69, .goto (-47), 3, 22, 0, 0, false), (72, .aload_n 2, 1, 2, 0, 0, false), (73, .iinc 5 (-1), 3, 5, 0, 0, false), (76, .iload 5, 2, 5, 0, 0, false), (78, .getstatic 83, 3, 2, 0, 0, false), (81, .iload_n 0, 1, 0, 0, 0, false), (82, .ineg, 1, 0, 0, 0, false), (83, .baload, 1, 0, 0, 0, false), (84, .bastore, 1, 0, 0, 0, false), (85, .iload_n 0, 1, 0, 0, 0, false), (86, .bipush (-9), 2, 18, 0, 0, false), (88, .if_icmp .ge 16, 3, 104, 0, 0, false), (91, .aload_n 2, 1, 2, 0, 0, false), (92, .iinc 5 (-1), 3, 5, 0, 0, false), (95, .iload 5, 2, 5, 0, 0, false), (97, .getstatic 87, 3, 1, 0, 0, false), (100, .iload_n 0, 1, 0, 0, 0, false), (101, .ineg, 1, 0, 0, 0, false), (102, .baload, 1, 0, 0, 0, false), (103, .bastore, 1, 0, 0, 0, false), (104, .iload 6, 2, 6, 0, 0, false), (106, .ifCond .eq 12, 3, 118, 0, 0, false), (109, .aload_n 2, 1, 2, 0, 0, false), (110, .iinc 5 (-1), 3, 5, 0, 0, false), (113, .iload 5, 2, 5, 0, 0, false), (115, .bipush 45, 2, 7, 0, 0, false), (117, .bastore, 1, 0, 0, 0, false), (118, .iload 5, 2, 5, 0, 0, false), (120, .ireturn, 1, 0, 0, 0, false)]
def y_INT_getChars : MethodName := ⟨rc_INT, "getChars", "(II[B)I"⟩
def md_INT_getChars : MD := (rc_INT, y_INT_getChars, prog_15_method_12_code, 7, (some .int), [], [(0, 120, e175_0)])
abbrev n_INT_stringSize : Nat := 176
def e176_0 : List Ent := [(0, .iconst 1, 1, 2, 0, 0, false), (1, .istore_n 1, 1, 1, 0, 0, false), (2, .iload_n 0, 1, 0, 0, 0, false), (3, .ifCond .lt 8, 3, 11, 0, 0, false), (6, .iconst 0, 1, 1, 0, 0, false), (7, .istore_n 1, 1, 1, 0, 0, false), (8, .iload_n 0, 1, 0, 0, 0, false), (9, .ineg, 1, 0, 0, 0, false), (10, .istore_n 0, 1, 0, 0, 0, false), (11, .bipush (-10), 2, 22, 0, 0, false), (13, .istore_n 2, 1, 2, 0, 0, false), (14, .iconst 1, 1, 2, 0, 0, false), (15, .istore_n 3, 1, 3, 0, 0, false), (16, .iload_n 3, 1, 3, 0, 0, true), (17, .bipush 10, 2, 14, 0, 0, false), (19, .if_icmp .ge 23, 3, 42, 0, 0, false), (22, .iload_n 0, 1, 0, 0, 0, false), (23, .iload_n 2, 1, 2, 0, 0, false), (24, .if_icmp .le 7, 3, 31, 0, 0, false), (27, .iload_n 3, 1, 3, 0, 0, false), (28, .iload_n 1, 1, 1, 0, 0, false), (29, .iadd, 1, 0, 0, 0, false), (30, .ireturn, 1, 0, 0, 0, false), (31, .bipush 10, 2, 14, 0, 0, false), (33, .iload_n 2, 1, 2, 0, 0, false), (34, .imul, 1, 0, 0, 0, false), (35, .istore_n 2, 1, 2, 0, 0, false), (36, .iinc 3 1, 3, 3, 2, 0, false), (39, .goto (-23), 3, 16, 0, 0, false), (42, .bipush 10, 2, 14, 0, 0, false), (44, .iload_n 1, 1, 1, 0, 0, false), (45, .iadd, 1, 0, 0, 0, false), (46, .ireturn, 1, 0, 0, 0, false)]
def y_INT_stringSize : MethodName := ⟨rc_INT, "stringSize", "(I)I"⟩
def md_INT_stringSize : MD := (rc_INT, y_INT_stringSize, prog_15_method_13_code, 4, (some .int), [], [(0, 46, e176_0)])
abbrev n_LNG_getChars : Nat := 177
def e177_0 : List Ent := [(0, .iload_n 2, 1, 2, 0, 0, false), (1, .istore 7, 2, 7, 0, 0, false), (3, .lload_n 0, 1, 0, 0, 0, false), (4, .lconst 0, 1, 0, 0, 0, false), (5, .lcmp, 1, 0, 0, 0, false), (6, .ifCond .ge 7, 3, 13, 0, 0, false), (9, .iconst 1, 1, 2, 0, 0, false), (10, .goto 4, 3, 14, 0, 0, false), (13, .iconst 0, 1, 1, 0, 0, false), (14, .istore 8, 2, 8, 0, 0, false), (16, .iload 8, 2, 8, 0, 0, false), (18, .ifCond .ne 6, 3, 24, 0, 0, false), (21, .lload_n 0, 1, 0, 0, 0, false), (22, .lneg, 1, 0, 0, 0, false), (23, .lstore_n 0, 1, 0, 0, 0, false), (24, .lload_n 0, 1, 0, 0, 0, true), (25, .ldc2_w 129, 3, 7, 0, 0, false), (28, .lcmp, 1, 0, 0, 0, false), (29, .ifCond .gt 53, 3, 82, 0, 0, false), (32, .lload_n 0, 1, 0, 0, 0, false), (33, .ldc2_w 131, 3, 14, 0, 0, false), (36, .ldiv, 1, 0, 0, 0, false), (37, .lstore 4, 2, 4, 0, 0, false), (39, .lload 4, 2, 4, 0, 0, false), (41, .ldc2_w 131, 3, 14, 0, 0, false), (44, .lmul, 1, 0, 0, 0, false), (45, .lload_n 0, 1, 0, 0, 0, false), (46, .lsub, 1, 0, 0, 0, false), (47, .l2i, 1, 0, 0, 0, false), (48, .istore 6, 2, 6, 0, 0, false), (50, .lload 4, 2, 4, 0, 0, false), (52, .lstore_n 0, 1, 0, 0, 0, false), (53, .aload_n 3, 1, 3, 0, 0, false), (54, .iinc 7 (-1), 3, 7, 0, 0, false), (57, .iload 7, 2, 7, 0, 0, false), (59, .getstatic 133, 3, 2, 0, 0, false), (62, .iload 6, 2, 6, 0, 0, false), (64, .baload, 1, 0, 0, 0, false), (65, .bastore, 1, 0, 0, 0, false), (66, .aload_n 3, 1, 3, 0, 0, false), (67, .iinc 7 (-1), 3, 7, 0, 0, false), (70, .iload 7, 2, 7, 0, 0, false), (72, .getstatic 137, 3, 1, 0, 0, false), (75, .iload 6, 2, 6, 0, 0, false), (77, .baload, 1, 0, 0, 0, false), (78, .bastore, 1, 0, 0, 0, false), (79, .goto (-55), 3, 24, 0, 0, false), (82, .lload_n 0, 1, 0, 0, 0, false), (83, .l2i, 1, 0, 0, 0, false), (84, .istore 10, 2, 10, 0, 0, false), (86, .iload 10, 2, 10, 0, 0, true), (88, .bipush (-100), 2, 20, 0, 0, false), (90, .if_icmp .gt 53, 3, 143, 0, 0, false), (93, .iload 10, 2, 10, 0, 0, false), (95, .bipush 100, 2, 21, 0, 0, false), (97, .idiv, 1, 0, 0, 0, false), (98, .istore 9, 2, 9, 0, 0, false), (100, .iload 9, 2, 9, 0, 0, false), (102, .bipush 100, 2, 21, 0, 0, false), (104, .imul, 1, 0, 0, 0, false), (105, .iload 10, 2, 10, 0, 0, false), (107, .isub, 1, 0, 0, 0, false), (108, .istore 6, 2, 6, 0, 0, false), (110, .iload 9, 2, 9, 0, 0, false), (112, .istore 10, 2, 10, 0, 0, false), (114, .aload_n 3, 1, 3, 0, 0, false), (115, .iinc 7 (-1), 3, 7, 0, 0, false), (118, .iload 7, 2, 7, 0, 0, false), (120, .getstatic 133, 3, 2, 0, 0, false), (123, .iload 6, 2, 6, 0, 0, false), (125, .baload, 1, 0, 0, 0, false), (126, .bastore, 1, 0, 0, 0, false), (127, .aload_n 3, 1, 3, 0, 0, false), (128, .iinc 7 (-1), 3, 7, 0, 0, false), (131, .iload 7, 2, 7, 0, 0, false), (133, .getstatic 137, 3, 1, 0, 0, false), (136, .iload 6, 2, 6, 0, 0, false), (138, .baload, 1, 0, 0, 0, false), (139, .bastore, 1, 0, 0, 0, false), (140, .goto (-54), 3, 86, 0, 0, false), (143, .aload_n 3, 1, 3, 0, 0, false), (144, .iinc 7 (-1), 3, 7, 0, 0, false), (147, .iload 7, 2, 7, 0, 0, false), (149, .getstatic 133, 3, 2, 0, 0, false), (152, .iload 10, 2, 10, 0, 0, false), (154, .ineg, 1, 0, 0, 0, false), (155, .baload, 1, 0, 0, 0, false), (156, .bastore, 1, 0, 0, 0, false), (157, .iload 10, 2, 10, 0, 0, false), (159, .bipush (-9), 2, 18, 0, 0, false), (161, .if_icmp .ge 17, 3, 178, 0, 0, false), (164, .aload_n 3, 1, 3, 0, 0, false), (165, .iinc 7 (-1), 3, 7, 0, 0, false), (168, .iload 7, 2, 7, 0, 0, false), (170, .getstatic 137, 3, 1, 0, 0, false), (173, .iload 10, 2, 10, 0, 0, false), (175, .ineg, 1, 0, 0, 0, false), (176, .baload, 1, 0, 0, 0, false), (177, .bastore, 1, 0, 0, 0, false), (178, .iload 8, 2, 8, 0, 0, false), (180, .ifCond .eq 12, 3, 192, 0, 0, false), (183, .aload_n 3, 1, 3, 0, 0, false), (184, .iinc 7 (-1), 3, 7, 0, 0, false), (187, .iload 7, 2, 7, 0, 0, false), (189, .bipush 45, 2, 7, 0, 0, false), (191, .bastore, 1, 0, 0, 0, false), (192, .iload 7, 2, 7, 0, 0, false), (194, .ireturn, 1, 0, 0, 0, false)]
def y_LNG_getChars : MethodName := ⟨rc_LNG, "getChars", "(JI[B)I"⟩
def md_LNG_getChars : MD := (rc_LNG, y_LNG_getChars, prog_16_method_14_code, 11, (some .int), [], [(0, 194, e177_0)])
abbrev n_LNG_stringSize : Nat := 178
def e178_0 : List Ent := [(0, .iconst 1, 1, 2, 0, 0, false), (1, .istore_n 2, 1, 2, 0, 0, false), (2, .lload_n 0, 1, 0, 0, 0, false), (3, .lconst 0, 1, 0, 0, 0, false), (4, .lcmp, 1, 0, 0, 0, false), (5, .ifCond .lt 8, 3, 13, 0, 0, false), (8, .iconst 0, 1, 1, 0, 0, false), (9, .istore_n 2, 1, 2, 0, 0, false), (10, .lload_n 0, 1, 0, 0, 0, false), (11, .lneg, 1, 0, 0, 0, false), (12, .lstore_n 0, 1, 0, 0, 0, false), (13, .ldc2_w 140, 3, 15, 0, 0, false), (16, .lstore_n 3, 1, 3, 0, 0, false), (17, .iconst 1, 1, 2, 0, 0, false), (18, .istore 5, 2, 5, 0, 0, false), (20, .iload 5, 2, 5, 0, 0, true), (22, .bipush 19, 2, 23, 0, 0, false), (24, .if_icmp .ge 26, 3, 50, 0, 0, false), (27, .lload_n 0, 1, 0, 0, 0, false), (28, .lload_n 3, 1, 3, 0, 0, false), (29, .lcmp, 1, 0, 0, 0, false), (30, .ifCond .le 8, 3, 38, 0, 0, false), (33, .iload 5, 2, 5, 0, 0, false), (35, .iload_n 2, 1, 2, 0, 0, false), (36, .iadd, 1, 0, 0, 0, false), (37, .ireturn, 1, 0, 0, 0, false), (38, .ldc2_w 53, 3, 3, 0, 0, false), (41, .lload_n 3, 1, 3, 0, 0, false), (42, .lmul, 1, 0, 0, 0, false), (43, .lstore_n 3, 1, 3, 0, 0, false), (44, .iinc 5 1, 3, 5, 2, 0, false), (47, .goto (-27), 3, 20, 0, 0, false), (50, .bipush 19, 2, 23, 0, 0, false), (52, .iload_n 2, 1, 2, 0, 0, false), (53, .iadd, 1, 0, 0, 0, false), (54, .ireturn, 1, 0, 0, 0, false)]
def y_LNG_stringSize : MethodName := ⟨rc_LNG, "stringSize", "(J)I"⟩
def md_LNG_stringSize : MD := (rc_LNG, y_LNG_stringSize, prog_16_method_15_code, 6, (some .int), [], [(0, 54, e178_0)])
abbrev n_MA_floorDiv : Nat := 179
def e179_0 : List Ent := [(0, .lload_n 0, 1, 0, 0, 0, false), (1, .lload_n 2, 1, 2, 0, 0, false), (2, .ldiv, 1, 0, 0, 0, false), (3, .lstore 4, 2, 4, 0, 0, false), (5, .lload_n 0, 1, 0, 0, 0, false), (6, .lload_n 2, 1, 2, 0, 0, false), (7, .lxor, 1, 0, 0, 0, false), (8, .lconst 0, 1, 0, 0, 0, false), (9, .lcmp, 1, 0, 0, 0, false), (10, .ifCond .ge 17, 3, 27, 0, 0, false), (13, .lload 4, 2, 4, 0, 0, false), (15, .lload_n 2, 1, 2, 0, 0, false), (16, .lmul, 1, 0, 0, 0, false), (17, .lload_n 0, 1, 0, 0, 0, false), (18, .lcmp, 1, 0, 0, 0, false), (19, .ifCond .eq 8, 3, 27, 0, 0, false), (22, .lload 4, 2, 4, 0, 0, false), (24, .lconst 1, 1, 1, 0, 0, false), (25, .lsub, 1, 0, 0, 0, false), (26, .lreturn, 1, 0, 0, 0, false), (27, .lload 4, 2, 4, 0, 0, false), (29, .lreturn, 1, 0, 0, 0, false)]
def y_MA_floorDiv : MethodName := ⟨rc_MA, "floorDiv", "(JJ)J"⟩
def md_MA_floorDiv : MD := (rc_MA, y_MA_floorDiv, prog_17_method_49_code, 6, (some .long), [], [(0, 29, e179_0)])
abbrev n_MA_abs : Nat := 180
def e180_0 : List Ent := [(0, .lload_n 0, 1, 0, 0, 0, false), (1, .lconst 0, 1, 0, 0, 0, false), (2, .lcmp, 1, 0, 0, 0, false), (3, .ifCond .ge 8, 3, 11, 0, 0, false), (6, .lload_n 0, 1, 0, 0, 0, false), (7, .lneg, 1, 0, 0, 0, false), (8, .goto 4, 3, 12, 0, 0, false), (11, .lload_n 0, 1, 0, 0, 0, false), (12, .lreturn, 1, 0, 0, 0, false)]
def y_MA_abs : MethodName := ⟨rc_MA, "abs", "(J)J"⟩
def md_MA_abs : MD := (rc_MA, y_MA_abs, prog_17_method_61_code, 2, (some .long), [], [(0, 12, e180_0)])
abbrev n_MA_max_II : Nat := 181
def e181_0 : List Ent := [(0, .iload_n 0, 1, 0, 0, 0, false), (1, .iload_n 1, 1, 1, 0, 0, false), (2, .if_icmp .lt 7, 3, 9, 0, 0, false), (5, .iload_n 0, 1, 0, 0, 0, false), (6, .goto 4, 3, 10, 0, 0, false), (9, .iload_n 1, 1, 1, 0, 0, false), (10, .ireturn, 1, 0, 0, 0, false)]
def y_MA_max_II : MethodName := ⟨rc_MA, "max", "(II)I"⟩
def md_MA_max_II : MD := (rc_MA, y_MA_max_II, prog_17_method_65_code, 2, (some .int), [], [(0, 10, e181_0)])
abbrev n_MA_max_JJ : Nat := 182
def e182_0 : List Ent := [(0, .lload_n 0, 1, 0, 0, 0, false), (1, .lload_n 2, 1, 2, 0, 0, false), (2, .lcmp, 1, 0, 0, 0, false), (3, .ifCond .lt 7, 3, 10, 0, 0, false), (6, .lload_n 0, 1, 0, 0, 0, false), (7, .goto 4, 3, 11, 0, 0, false), (10, .lload_n 2, 1, 2, 0, 0, false), (11, .lreturn, 1, 0, 0, 0, false)]
def y_MA_max_JJ : MethodName := ⟨rc_MA, "max", "(JJ)J"⟩
def md_MA_max_JJ : MD := (rc_MA, y_MA_max_JJ, prog_17_method_66_code, 4, (some .long), [], [(0, 11, e182_0)])
abbrev n_MA_min_II : Nat := 183
def e183_0 : List Ent := [(0, .iload_n 0, 1, 0, 0, 0, false), (1, .iload_n 1, 1, 1, 0, 0, false), (2, .if_icmp .gt 7, 3, 9, 0, 0, false), (5, .iload_n 0, 1, 0, 0, 0, false), (6, .goto 4, 3, 10, 0, 0, false), (9, .iload_n 1, 1, 1, 0, 0, false), (10, .ireturn, 1, 0, 0, 0, false)]
def y_MA_min_II : MethodName := ⟨rc_MA, "min", "(II)I"⟩
def md_MA_min_II : MD := (rc_MA, y_MA_min_II, prog_17_method_69_code, 2, (some .int), [], [(0, 10, e183_0)])
abbrev n_MA_min_JJ : Nat := 184
def e184_0 : List Ent := [(0, .lload_n 0, 1, 0, 0, 0, false), (1, .lload_n 2, 1, 2, 0, 0, false), (2, .lcmp, 1, 0, 0, 0, false), (3, .ifCond .gt 7, 3, 10, 0, 0, false), (6, .lload_n 0, 1, 0, 0, 0, false), (7, .goto 4, 3, 11, 0, 0, false), (10, .lload_n 2, 1, 2, 0, 0, false), (11, .lreturn, 1, 0, 0, 0, false)]
def y_MA_min_JJ : MethodName := ⟨rc_MA, "min", "(JJ)J"⟩
def md_MA_min_JJ : MD := (rc_MA, y_MA_min_JJ, prog_17_method_70_code, 4, (some .long), [], [(0, 11, e184_0)])
abbrev n_STR_new_Q : Nat := 185
def e185_0 : List Ent := [(0, .aload_n 0, 1, 0, 0, 0, false), (1, .aload_n 1, 1, 1, 0, 0, false), (2, .aconst_null, 1, 0, 0, 0, false), (3, .invokespecial 489, 3, 188, 2, 5, false), (6, .return_, 1, 0, 0, 0, false)]
def y_STR_new_Q : MethodName := ⟨rc_STR, "<init>", "(Ljava/lang/StringBuilder;)V"⟩
def md_STR_new_Q : MD := (rc_STR, y_STR_new_Q, prog_19_method_53_code, 2, none, [], [(0, 6, e185_0)])
abbrev n_STR_length : Nat := 186
def e186_0 : List Ent := [(0, .aload_n 0, 1, 0, 0, 0, false), (1, .getfield 9, 3, 0, 0, 0, false), (4, .arraylength, 1, 0, 0, 0, false), (5, .aload_n 0, 1, 0, 0, 0, false), (6, .invokevirtual 335, 3, 189, 0, 16, false), (9, .ishr, 1, 0, 0, 0, false), (10, .ireturn, 1, 0, 0, 0, false)]
def y_STR_length : MethodName := ⟨rc_STR, "length", "()I"⟩
def md_STR_length : MD := (rc_STR, y_STR_length, prog_19_method_54_code, 1, (some .int), [], [(0, 10, e186_0)])
abbrev n_STR_getBytes : Nat := 187
def e187_0 : List Ent := [(0, .aload_n 0, 1, 0, 0, 0, false), (1, .invokevirtual 335, 3, 189, 0, 16, false), (4, .iload_n 3, 1, 3, 0, 0, false), (5, .if_icmp .ne 23, 3, 28, 0, 0, false), (8, .aload_n 0, 1, 0, 0, 0, false), (9, .getfield 9, 3, 0, 0, 0, false), (12, .iconst 0, 1, 1, 0, 0, false), (13, .aload_n 1, 1, 1, 0, 0, false), (14, .iload_n 2, 1, 2, 0, 0, false), (15, .iload_n 3, 1, 3, 0, 0, false), (16, .ishl, 1, 0, 0, 0, false), (17, .aload_n 0, 1, 0, 0, 0, false), (18, .getfield 9, 3, 0, 0, 0, false), (21, .arraylength, 1, 0, 0, 0, false), (22, .invokestatic 212, 3, 0, 0, 9, false), (25, .goto 18, 3, 43, 0, 0, false), (28, .aload_n 0, 1, 0, 0, 0, false), (29, .getfield 9, 3, 0, 0, 0, false), (32, .iconst 0, 1, 1, 0, 0, false), (33, .aload_n 1, 1, 1, 0, 0, false), (34, .iload_n 2, 1, 2, 0, 0, false), (35, .aload_n 0, 1, 0, 0, 0, false), (36, .getfield 9, 3, 0, 0, 0, false), (39, .arraylength, 1, 0, 0, 0, false), (40, .invokestatic 106, 3, 0, 0, 99, false), (43, .return_, 1, 0, 0, 0, false)]
def y_STR_getBytes : MethodName := ⟨rc_STR, "getBytes", "([BIB)V"⟩
def md_STR_getBytes : MD := (rc_STR, y_STR_getBytes, prog_19_method_147_code, 4, none, [], [(0, 43, e187_0)])
abbrev n_STR_new_QN : Nat := 188
def e188_0 : List Ent := [(0, .aload_n 0, 1, 0, 0, 0, false), (1, .invokespecial 1, 3, 0, 0, 7, false), (4, .aload_n 1, 1, 1, 0, 0, false), (5, .invokevirtual 552, 3, 171, 0, 33, false), (8, .astore_n 3, 1, 3, 0, 0, false), (9, .aload_n 1, 1, 1, 0, 0, false), (10, .invokevirtual 549, 3, 197, 0, 49, false), (13, .istore 4, 2, 4, 0, 0, false), (15, .aload_n 1, 1, 1, 0, 0, false), (16, .invokevirtual 1047, 3, 172, 0, 33, false), (19, .ifCond .eq 22, 3, 41, 0, 0, false), (22, .aload_n 0, 1, 0, 0, 0, false), (23, .iconst 0, 1, 1, 0, 0, false), (24, .putfield 15, 3, 0, 1, 2, false), (27, .aload_n 0, 1, 0, 0, 0, false), (28, .aload_n 3, 1, 3, 0, 0, false), (29, .iconst 0, 1, 1, 0, 0, false), (30, .iload 4, 2, 4, 0, 0, false), (32, .invokestatic 54, 3, 201, 3, 0, false), (35, .putfield 9, 3, 0, 0, 2, false), (38, .goto 59, 3, 97, 0, 0, false), (41, .getstatic 38, 3, 0, 0, 0, false), (44, .ifCond .eq 35, 3, 79, 0, 0, false), (47, .aload_n 1, 1, 1, 0, 0, false), (48, .getfield 1048, 3, 1, 2, 0, false), (51, .ifCond .eq 28, 3, 79, 0, 0, false), (54, .aload_n 0, 1, 0, 0, 0, false), (55, .aload_n 3, 1, 3, 0, 0, false), (56, .iconst 0, 1, 1, 0, 0, false), (57, .iload 4, 2, 4, 0, 0, false), (59, .invokestatic 1051, 3, 0, 0, 99, false), (62, .putfield 9, 3, 0, 0, 2, false), (65, .aload_n 0, 1, 0, 0, 0, false), (66, .aload_n 0, 1, 0, 0, 0, false), (67, .getfield 9, 3, 0, 0, 0, false), (70, .iload 4, 2, 4, 0, 0, false), (72, .invokestatic 47, 3, 0, 0, 99, false), (75, .putfield 15, 3, 0, 1, 2, false), (78, .return_, 1, 0, 0, 0, false), (79, .aload_n 0, 1, 0, 0, 0, false), (80, .iconst 1, 1, 2, 0, 0, false), (81, .putfield 15, 3, 0, 1, 2, false), (84, .aload_n 0, 1, 0, 0, 0, false), (85, .aload_n 3, 1, 3, 0, 0, false), (86, .iconst 0, 1, 1, 0, 0, false), (87, .iload 4, 2, 4, 0, 0, false), (89, .iconst 1, 1, 2, 0, 0, false), (90, .ishl, 1, 0, 0, 0, false), (91, .invokestatic 54, 3, 201, 3, 0, false), (94, .putfield 9, 3, 0, 0, 2, false), (97, .return_, 1, 0, 0, 0, false)]
def y_STR_new_QN : MethodName := ⟨rc_STR, "<init>", "(Ljava/lang/AbstractStringBuilder;Ljava/lang/Void;)V"⟩
def md_STR_new_QN : MD := (rc_STR, y_STR_new_QN, prog_19_method_150_code, 5, none, [], [(0, 97, e188_0)])
abbrev n_STR_coder : Nat := 189
def e189_0 : List Ent := [(0, .getstatic 38, 3, 0, 0, 0, false), (3, .ifCond .eq 10, 3, 13, 0, 0, false), (6, .aload_n 0, 1, 0, 0, 0, false), (7, .getfield 15, 3, 0, 1, 0, false), (10, .goto 4, 3, 14, 0, 0, false), (13, .iconst 1, 1, 2, 0, 0, false), (14, .ireturn, 1, 0, 0, 0, false)]
def y_STR_coder : MethodName := ⟨rc_STR, "code\x72", "()B"⟩
def md_STR_coder : MD := (rc_STR, y_STR_coder, prog_19_method_152_code, 1, (some .byte), [], [(0, 14, e189_0)])
abbrev n_SB_new : Nat := 190
def e190_0 : List Ent := [(0, .aload_n 0, 1, 0, 0, 0, false), (1, .bipush 16, 2, 24, 0, 0, false), (3, .invokespecial 1, 3, 162, 1, 5, false), (6, .return_, 1, 0, 0, 0, false)]
def y_SB_new : MethodName := ⟨rc_SB, "<init>", "()V"⟩
def md_SB_new : MD := (rc_SB, y_SB_new, prog_20_method_1_code, 1, none, [], [(0, 6, e190_0)])
abbrev n_SB_append_T : Nat := 191
def e191_0 : List Ent := [(0, .aload_n 0, 1, 0, 0, 0, false), (1, .aload_n 1, 1, 1, 0, 0, false), (2, .invokespecial 29, 3, 166, 1, 4, false), (5, .pop, 1, 0, 0, 0, false), (6, .aload_n 0, 1, 0, 0, 0, false), (7, .areturn, 1, 0, 0, 0, false)]
def y_SB_append_T : MethodName := ⟨rc_SB, "append", "(Ljava/lang/String;)Ljava/lang/StringBuilder;"⟩
def md_SB_append_T : MD := (rc_SB, y_SB_append_T, prog_20_method_7_code, 2, (some (.object "java/lang/StringBuilde\x72")), [], [(0, 7, e191_0)])
abbrev n_SB_append_C : Nat := 192
def e192_0 : List Ent := [(0, .aload_n 0, 1, 0, 0, 0, false), (1, .iload_n 1, 1, 1, 0, 0, false), (2, .invokespecial 50, 3, 167, 1, 4, false), (5, .pop, 1, 0, 0, 0, false), (6, .aload_n 0, 1, 0, 0, 0, false), (7, .areturn, 1, 0, 0, 0, false)]
def y_SB_append_C : MethodName := ⟨rc_SB, "append", "(C)Ljava/lang/StringBuilder;"⟩
def md_SB_append_C : MD := (rc_SB, y_SB_append_C, prog_20_method_14_code, 2, (some (.object "java/lang/StringBuilde\x72")), [], [(0, 7, e192_0)])
abbrev n_SB_append_I : Nat := 193
def e193_0 : List Ent := [(0, .aload_n 0, 1, 0, 0, 0, false), (1, .iload_n 1, 1, 1, 0, 0, false), (2, .invokespecial 53, 3, 168, 1, 4, false), (5, .pop, 1, 0, 0, 0, false), (6, .aload_n 0, 1, 0, 0, 0, false), (7, .areturn, 1, 0, 0, 0, false)]
def y_SB_append_I : MethodName := ⟨rc_SB, "append", "(I)Ljava/lang/StringBuilder;"⟩
def md_SB_append_I : MD := (rc_SB, y_SB_append_I, prog_20_method_15_code, 2, (some (.object "java/lang/StringBuilde\x72")), [], [(0, 7, e193_0)])
abbrev n_SB_append_J : Nat := 194
def e194_0 : List Ent := [(0, .aload_n 0, 1, 0, 0, 0, false), (1, .lload_n 1, 1, 1, 0, 0, false), (2, .invokespecial 56, 3, 169, 1, 4, false), (5, .pop, 1, 0, 0, 0, false), (6, .aload_n 0, 1, 0, 0, 0, false), (7, .areturn, 1, 0, 0, 0, false)]
def y_SB_append_J : MethodName := ⟨rc_SB, "append", "(J)Ljava/lang/StringBuilder;"⟩
def md_SB_append_J : MD := (rc_SB, y_SB_append_J, prog_20_method_16_code, 3, (some (.object "java/lang/StringBuilde\x72")), [], [(0, 7, e194_0)])
abbrev n_SB_reverse : Nat := 195
def e195_0 : List Ent := [(0, .aload_n 0, 1, 0, 0, 0, false), (1, .invokespecial 127, 3, 170, 0, 4, false), (4, .pop, 1, 0, 0, 0, false), (5, .aload_n 0, 1, 0, 0, 0, false), (6, .areturn, 1, 0, 0, 0, false)]
def y_SB_reverse : MethodName := ⟨rc_SB, "reverse", "()Ljava/lang/StringBuilder;"⟩
def md_SB_reverse : MD := (rc_SB, y_SB_reverse, prog_20_method_39_code, 1, (some (.object "java/lang/StringBuilde\x72")), [], [(0, 6, e195_0)])
abbrev n_SB_toString : Nat := 196
def e196_0 : List Ent := [(0, .new 18, 3, 0, 4, 0, false), (3, .dup, 1, 0, 0, 0, false), (4, .aload_n 0, 1, 0, 0, 0, false), (5, .invokespecial 137, 3, 185, 1, 5, false), (8, .areturn, 1, 0, 0, 0, false)]
def y_SB_toString : MethodName := ⟨rc_SB, "toString", "()Ljava/lang/String;"⟩
def md_SB_toString : MD := (rc_SB, y_SB_toString, prog_20_method_42_code, 1, (some (.object "java/lang/String")), [], [(0, 8, e196_0)])
abbrev n_SB_length : Nat := 197
def e197_0 : List Ent := [(0, .aload_n 0, 1, 0, 0, 0, false), (1, .invokespecial 343, 3, 163, 0, 4, false), (4, .ireturn, 1, 0, 0, 0, false)]
def y_SB_length : MethodName := ⟨rc_SB, "length", "()I"⟩
def md_SB_length : MD := (rc_SB, y_SB_length, prog_20_method_93_code, 1, (some .int), [], [(0, 4, e197_0)])
abbrev n_L1_canEncode : Nat := 198
def e198_0 : List Ent := [(0, .iload_n 0, 1, 0, 0, 0, false), (1, .sipush 255, 3, 25, 0, 0, false), (4, .if_icmp .gt 7, 3, 11, 0, 0, false), (7, .iconst 1, 1, 2, 0, 0, false), (8, .goto 4, 3, 12, 0, 0, false), (11, .iconst 0, 1, 1, 0, 0, false), (12, .ireturn, 1, 0, 0, 0, false)]
def y_L1_canEncode : MethodName := ⟨rc_L1, "canEncode", "(C)Z"⟩
def md_L1_canEncode : MD := (rc_L1, y_L1_canEncode, prog_21_method_3_code, 1, (some .boolean), [], [(0, 12, e198_0)])
abbrev n_ARR_copyOf : Nat := 199
def e199_0 : List Ent := [(0, .iload_n 1, 1, 1, 0, 0, false), (1, .aload_n 0, 1, 0, 0, 0, false), (2, .arraylength, 1, 0, 0, 0, false), (3, .if_icmp .ne 11, 3, 14, 0, 0, false), (6, .aload_n 0, 1, 0, 0, 0, false), (7, .invokevirtual 310, 3, 0, 0, 10, false), (10, .checkcast 311, 3, 0, 0, 0, false), (13, .areturn, 1, 0, 0, 0, false), (14, .iload_n 1, 1, 1, 0, 0, false), (15, .newarray .byte, 2, 0, 0, 0, false), (17, .astore_n 2, 1, 2, 0, 0, false), (18, .aload_n 0, 1, 0, 0, 0, false), (19, .iconst 0, 1, 1, 0, 0, false), (20, .aload_n 2, 1, 2, 0, 0, false), (21, .iconst 0, 1, 1, 0, 0, false), (22, .aload_n 0, 1, 0, 0, 0, false), (23, .arraylength, 1, 0, 0, 0, false), (24, .iload_n 1, 1, 1, 0, 0, false), (25, .invokestatic 304, 3, 183, 2, 0, false), (28, .invokestatic 150, 3, 0, 0, 9, false), (31, .aload_n 2, 1, 2, 0, 0, false), (32, .areturn, 1, 0, 0, 0, false)]
def y_ARR_copyOf : MethodName := ⟨rc_ARR, "copyOf", "([BI)[B"⟩
def md_ARR_copyOf : MD := (rc_ARR, y_ARR_copyOf, prog_25_method_121_code, 3, (some (.array .byte)), [], [(0, 32, e199_0)])
abbrev n_ARR_checkLength : Nat := 200
def e200_0 : List Ent := [(0, .iload_n 1, 1, 1, 0, 0, false), (1, .iload_n 0, 1, 0, 0, 0, false), (2, .if_icmp .ge 35, 3, 37, 0, 0, false), (5, .new 43, 3, 99, 0, 0, false), (8, .dup, 1, 0, 0, 0, false), (9, .new 45, 3, 1, 4, 0, false), (12, .dup, 1, 0, 0, 0, false), (13, .invokespecial 47, 3, 190, 0, 5, false), (16, .iload_n 0, 1, 0, 0, 0, false), (17, .invokevirtual 54, 3, 193, 1, 17, false), (20, .ldc_w 337, 3, 8, 1, 0, false), (23, .invokevirtual 50, 3, 191, 1, 17, false), (26, .iload_n 1, 1, 1, 0, 0, false), (27, .invokevirtual 54, 3, 193, 1, 17, false), (30, .invokevirtual 61, 3, 196, 0, 17, false), (33, .invokespecial 65, 3, 0, 0, 99, false), (36, .athrow, 1, 0, 0, 0, false), (37, .return_, 1, 0, 0, 0, false)]
def y_ARR_checkLength : MethodName := ⟨rc_ARR, "checkLength", "(II)V"⟩
def md_ARR_checkLength : MD := (rc_ARR, y_ARR_checkLength, prog_25_method_131_code, 2, none, [], [(0, 37, e200_0)])
abbrev n_ARR_copyOfRange : Nat := 201
def e201_0 : List Ent := [(0, .iload_n 1, 1, 1, 0, 0, false), (1, .ifCond .ne 9, 3, 10, 0, 0, false), (4, .iload_n 2, 1, 2, 0, 0, false), (5, .aload_n 0, 1, 0, 0, 0, false), (6, .arraylength, 1, 0, 0, 0, false), (7, .if_icmp .eq 10, 3, 17, 0, 0, false), (10, .aload_n 0, 1, 0, 0, 0, false), (11, .iload_n 1, 1, 1, 0, 0, false), (12, .iload_n 2, 1, 2, 0, 0, false), (13, .invokestatic 339, 3, 202, 3, 0, false), (16, .areturn, 1, 0, 0, 0, false), (17, .aload_n 0, 1, 0, 0, 0, false), (18, .invokevirtual 310, 3, 0, 0, 10, false), (21, .checkcast 311, 3, 0, 0, 0, false), (24, .areturn, 1, 0, 0, 0, false)]
def y_ARR_copyOfRange : MethodName := ⟨rc_ARR, "copyOfRange", "([BII)[B"⟩
def md_ARR_copyOfRange : MD := (rc_ARR, y_ARR_copyOfRange, prog_25_method_132_code, 3, (some (.array .byte)), [], [(0, 24, e201_0)])
abbrev n_ARR_copyOfRangeByte : Nat := 202
def e202_0 : List Ent := [(0, .iload_n 1, 1, 1, 0, 0, false), (1, .iload_n 2, 1, 2, 0, 0, false), (2, .invokestatic 343, 3, 200, 2, 0, false), (5, .iload_n 2, 1, 2, 0, 0, false), (6, .iload_n 1, 1, 1, 0, 0, false), (7, .isub, 1, 0, 0, 0, false), (8, .istore_n 3, 1, 3, 0, 0, false), (9, .iload_n 3, 1, 3, 0, 0, false), (10, .newarray .byte, 2, 0, 0, 0, false), (12, .astore 4, 2, 4, 0, 0, false), (14, .aload_n 0, 1, 0, 0, 0, false), (15, .iload_n 1, 1, 1, 0, 0, false), (16, .aload 4, 2, 4, 0, 0, false), (18, .iconst 0, 1, 1, 0, 0, false), (19, .aload_n 0, 1, 0, 0, 0, false), (20, .arraylength, 1, 0, 0, 0, false), (21, .iload_n 1, 1, 1, 0, 0, false), (22, .isub, 1, 0, 0, 0, false), (23, .iload_n 3, 1, 3, 0, 0, false), (24, .invokestatic 304, 3, 183, 2, 0, false), (27, .invokestatic 150, 3, 0, 0, 9, false), (30, .aload 4, 2, 4, 0, 0, false), (32, .areturn, 1, 0, 0, 0, false)]
def y_ARR_copyOfRangeByte : MethodName := ⟨rc_ARR, "copyOfRangeByte", "([BII)[B"⟩
def md_ARR_copyOfRangeByte : MD := (rc_ARR, y_ARR_copyOfRangeByte, prog_25_method_133_code, 5, (some (.array .byte)), [], [(0, 32, e202_0)])
abbrev n_AS_newLength : Nat := 203
def e203_0 : List Ent := [(0, .iload_n 0, 1, 0, 0, 0, false), (1, .iload_n 1, 1, 1, 0, 0, false), (2, .iload_n 2, 1, 2, 0, 0, false), (3, .invokestatic 194, 3, 181, 2, 0, false), (6, .iadd, 1, 0, 0, 0, false), (7, .istore_n 3, 1, 3, 0, 0, false), (8, .iconst 0, 1, 1, 0, 0, false), (9, .iload_n 3, 1, 3, 0, 0, false), (10, .if_icmp .ge 11, 3, 21, 0, 0, false), (13, .iload_n 3, 1, 3, 0, 0, false), (14, .ldc 200, 2, 26, 0, 0, false), (16, .if_icmp .gt 5, 3, 21, 0, 0, false), (19, .iload_n 3, 1, 3, 0, 0, false), (20, .ireturn, 1, 0, 0, 0, false), (21, .iload_n 0, 1, 0, 0, 0, false), (22, .iload_n 1, 1, 1, 0, 0, false), (23, .invokestatic 201, 3, 0, 0, 99, false), (26, .ireturn, 1, 0, 0, 0, false)]
def y_AS_newLength : MethodName := ⟨rc_AS, "newLength", "(III)I"⟩
def md_AS_newLength : MD := (rc_AS, y_AS_newLength, prog_26_method_27_code, 4, (some .int), [], [(0, 26, e203_0)])
abbrev n_K_put : Nat := 204
def e204_0 : List Ent := [(0, .aload 5, 2, 5, 0, 0, false), (2, .aload_n 0, 1, 0, 0, 0, false), (3, .iload_n 1, 1, 1, 0, 0, false), (4, .iload_n 2, 1, 2, 0, 0, false), (5, .iload_n 3, 1, 3, 0, 0, false), (6, .iload 4, 2, 4, 0, 0, false), (8, .invokevirtual 7, 3, 35, 4, 18, false), (11, .i2l, 1, 0, 0, 0, false), (12, .putfield 13, 3, 3, 0, 1, false), (15, .goto 7, 3, 22, 0, 0, false), (18, .astore 6, 2, 6, 0, 0, false), (20, .iconst 1, 1, 2, 0, 0, false), (21, .ireturn, 1, 0, 0, 0, false), (22, .iconst 0, 1, 1, 0, 0, false), (23, .ireturn, 1, 0, 0, 0, false)]
def y_K_put : MethodName := ⟨rc_K, "put", "(LModrings;ZIIILModringsLaw$Out;)I"⟩
def md_K_put : MD := (rc_K, y_K_put, method_2_code, 7, (some .int), [(0, 15, 18, 19)], [(0, 23, e204_0)])
abbrev n_K_copy : Nat := 205
def e205_0 : List Ent := [(0, .aload 4, 2, 4, 0, 0, false), (2, .aload_n 0, 1, 0, 0, 0, false), (3, .iload_n 1, 1, 1, 0, 0, false), (4, .iload_n 2, 1, 2, 0, 0, false), (5, .iload_n 3, 1, 3, 0, 0, false), (6, .invokevirtual 21, 3, 36, 3, 18, false), (9, .i2l, 1, 0, 0, 0, false), (10, .putfield 13, 3, 3, 0, 1, false), (13, .goto 7, 3, 20, 0, 0, false), (16, .astore 5, 2, 5, 0, 0, false), (18, .iconst 1, 1, 2, 0, 0, false), (19, .ireturn, 1, 0, 0, 0, false), (20, .iconst 0, 1, 1, 0, 0, false), (21, .ireturn, 1, 0, 0, 0, false)]
def y_K_copy : MethodName := ⟨rc_K, "copy", "(LModrings;ZIILModringsLaw$Out;)I"⟩
def md_K_copy : MD := (rc_K, y_K_copy, method_3_code, 6, (some .int), [(0, 13, 16, 19)], [(0, 21, e205_0)])
abbrev n_K_widen : Nat := 206
def e206_0 : List Ent := [(0, .aload_n 3, 1, 3, 0, 0, false), (1, .aload_n 0, 1, 0, 0, 0, false), (2, .iload_n 1, 1, 1, 0, 0, false), (3, .iload_n 2, 1, 2, 0, 0, false), (4, .invokevirtual 25, 3, 37, 2, 18, false), (7, .i2l, 1, 0, 0, 0, false), (8, .putfield 13, 3, 3, 0, 1, false), (11, .goto 7, 3, 18, 0, 0, false), (14, .astore 4, 2, 4, 0, 0, false), (16, .iconst 1, 1, 2, 0, 0, false), (17, .ireturn, 1, 0, 0, 0, false), (18, .iconst 0, 1, 1, 0, 0, false), (19, .ireturn, 1, 0, 0, 0, false)]
def y_K_widen : MethodName := ⟨rc_K, "widen", "(LModrings;IILModringsLaw$Out;)I"⟩
def md_K_widen : MD := (rc_K, y_K_widen, method_4_code, 5, (some .int), [(0, 11, 14, 19)], [(0, 19, e206_0)])
abbrev n_K_narrow : Nat := 207
def e207_0 : List Ent := [(0, .aload_n 3, 1, 3, 0, 0, false), (1, .aload_n 0, 1, 0, 0, 0, false), (2, .iload_n 1, 1, 1, 0, 0, false), (3, .iload_n 2, 1, 2, 0, 0, false), (4, .invokevirtual 29, 3, 38, 2, 18, false), (7, .i2l, 1, 0, 0, 0, false), (8, .putfield 13, 3, 3, 0, 1, false), (11, .goto 7, 3, 18, 0, 0, false), (14, .astore 4, 2, 4, 0, 0, false), (16, .iconst 1, 1, 2, 0, 0, false), (17, .ireturn, 1, 0, 0, 0, false), (18, .iconst 0, 1, 1, 0, 0, false), (19, .ireturn, 1, 0, 0, 0, false)]
def y_K_narrow : MethodName := ⟨rc_K, "narrow", "(LModrings;IILModringsLaw$Out;)I"⟩
def md_K_narrow : MD := (rc_K, y_K_narrow, method_5_code, 5, (some .int), [(0, 11, 14, 19)], [(0, 19, e207_0)])
abbrev n_K_exact : Nat := 208
def e208_0 : List Ent := [(0, .aload 5, 2, 5, 0, 0, false), (2, .aload_n 0, 1, 0, 0, 0, false), (3, .iload_n 1, 1, 1, 0, 0, false), (4, .iload_n 2, 1, 2, 0, 0, false), (5, .iload_n 3, 1, 3, 0, 0, false), (6, .iload 4, 2, 4, 0, 0, false), (8, .invokevirtual 32, 3, 39, 4, 18, false), (11, .i2l, 1, 0, 0, 0, false), (12, .putfield 13, 3, 3, 0, 1, false), (15, .goto 11, 3, 26, 0, 0, false), (18, .astore 6, 2, 6, 0, 0, false), (20, .iconst 1, 1, 2, 0, 0, false), (21, .ireturn, 1, 0, 0, 0, false), (22, .astore 6, 2, 6, 0, 0, false), (24, .iconst 2, 1, 3, 0, 0, false), (25, .ireturn, 1, 0, 0, 0, false), (26, .iconst 0, 1, 1, 0, 0, false), (27, .ireturn, 1, 0, 0, 0, false)]
def y_K_exact : MethodName := ⟨rc_K, "exact", "(LModrings;ZIIILModringsLaw$Out;)I"⟩
def md_K_exact : MD := (rc_K, y_K_exact, method_6_code, 7, (some .int), [(0, 15, 18, 19), (0, 15, 22, 35)], [(0, 27, e208_0)])
abbrev n_K_fits : Nat := 209
def e209_0 : List Ent := [(0, .aload 5, 2, 5, 0, 0, false), (2, .aload_n 0, 1, 0, 0, 0, false), (3, .iload_n 1, 1, 1, 0, 0, false), (4, .iload_n 2, 1, 2, 0, 0, false), (5, .iload_n 3, 1, 3, 0, 0, false), (6, .iload 4, 2, 4, 0, 0, false), (8, .invokevirtual 37, 3, 40, 4, 18, false), (11, .ifCond .eq 7, 3, 18, 0, 0, false), (14, .lconst 1, 1, 1, 0, 0, false), (15, .goto 4, 3, 19, 0, 0, false), (18, .lconst 0, 1, 0, 0, 0, false), (19, .putfield 13, 3, 3, 0, 1, false), (22, .goto 11, 3, 33, 0, 0, false), (25, .astore 6, 2, 6, 0, 0, false), (27, .iconst 1, 1, 2, 0, 0, false), (28, .ireturn, 1, 0, 0, 0, false), (29, .astore 6, 2, 6, 0, 0, false), (31, .iconst 2, 1, 3, 0, 0, false), (32, .ireturn, 1, 0, 0, 0, false), (33, .iconst 0, 1, 1, 0, 0, false), (34, .ireturn, 1, 0, 0, 0, false)]
def y_K_fits : MethodName := ⟨rc_K, "fits", "(LModrings;ZIIILModringsLaw$Out;)I"⟩
def md_K_fits : MD := (rc_K, y_K_fits, method_7_code, 7, (some .int), [(0, 22, 25, 19), (0, 22, 29, 35)], [(0, 34, e209_0)])
abbrev n_K_alone : Nat := 210
def e210_0 : List Ent := [(0, .aload 4, 2, 4, 0, 0, false), (2, .aload_n 0, 1, 0, 0, 0, false), (3, .iload_n 1, 1, 1, 0, 0, false), (4, .iload_n 2, 1, 2, 0, 0, false), (5, .iload_n 3, 1, 3, 0, 0, false), (6, .invokevirtual 41, 3, 41, 3, 18, false), (9, .i2l, 1, 0, 0, 0, false), (10, .putfield 13, 3, 3, 0, 1, false), (13, .goto 11, 3, 24, 0, 0, false), (16, .astore 5, 2, 5, 0, 0, false), (18, .iconst 1, 1, 2, 0, 0, false), (19, .ireturn, 1, 0, 0, 0, false), (20, .astore 5, 2, 5, 0, 0, false), (22, .iconst 2, 1, 3, 0, 0, false), (23, .ireturn, 1, 0, 0, 0, false), (24, .iconst 0, 1, 1, 0, 0, false), (25, .ireturn, 1, 0, 0, 0, false)]
def y_K_alone : MethodName := ⟨rc_K, "alone", "(LModrings;ZIILModringsLaw$Out;)I"⟩
def md_K_alone : MD := (rc_K, y_K_alone, method_8_code, 6, (some .int), [(0, 13, 16, 19), (0, 13, 20, 35)], [(0, 25, e210_0)])
abbrev n_K_timesInt : Nat := 211
def e211_0 : List Ent := [(0, .aload_n 3, 1, 3, 0, 0, false), (1, .aload_n 0, 1, 0, 0, 0, false), (2, .iload_n 1, 1, 1, 0, 0, false), (3, .iload_n 2, 1, 2, 0, 0, false), (4, .invokevirtual 44, 3, 42, 2, 18, false), (7, .i2l, 1, 0, 0, 0, false), (8, .putfield 13, 3, 3, 0, 1, false), (11, .goto 7, 3, 18, 0, 0, false), (14, .astore 4, 2, 4, 0, 0, false), (16, .iconst 1, 1, 2, 0, 0, false), (17, .ireturn, 1, 0, 0, 0, false), (18, .iconst 0, 1, 1, 0, 0, false), (19, .ireturn, 1, 0, 0, 0, false)]
def y_K_timesInt : MethodName := ⟨rc_K, "timesInt", "(LModrings;IILModringsLaw$Out;)I"⟩
def md_K_timesInt : MD := (rc_K, y_K_timesInt, method_9_code, 5, (some .int), [(0, 11, 14, 19)], [(0, 19, e211_0)])
abbrev n_K_full : Nat := 212
def e212_0 : List Ent := [(0, .aload 4, 2, 4, 0, 0, false), (2, .aload_n 0, 1, 0, 0, 0, false), (3, .iload_n 1, 1, 1, 0, 0, false), (4, .iload_n 2, 1, 2, 0, 0, false), (5, .iload_n 3, 1, 3, 0, 0, false), (6, .invokevirtual 47, 3, 43, 3, 18, false), (9, .i2l, 1, 0, 0, 0, false), (10, .putfield 13, 3, 3, 0, 1, false), (13, .goto 7, 3, 20, 0, 0, false), (16, .astore 5, 2, 5, 0, 0, false), (18, .iconst 1, 1, 2, 0, 0, false), (19, .ireturn, 1, 0, 0, 0, false), (20, .iconst 0, 1, 1, 0, 0, false), (21, .ireturn, 1, 0, 0, 0, false)]
def y_K_full : MethodName := ⟨rc_K, "full", "(LModrings;IIILModringsLaw$Out;)I"⟩
def md_K_full : MD := (rc_K, y_K_full, method_10_code, 6, (some .int), [(0, 13, 16, 19)], [(0, 21, e212_0)])
abbrev n_K_high : Nat := 213
def e213_0 : List Ent := [(0, .aload 4, 2, 4, 0, 0, false), (2, .aload_n 0, 1, 0, 0, 0, false), (3, .iload_n 1, 1, 1, 0, 0, false), (4, .iload_n 2, 1, 2, 0, 0, false), (5, .iload_n 3, 1, 3, 0, 0, false), (6, .invokevirtual 51, 3, 44, 3, 18, false), (9, .i2l, 1, 0, 0, 0, false), (10, .putfield 13, 3, 3, 0, 1, false), (13, .goto 7, 3, 20, 0, 0, false), (16, .astore 5, 2, 5, 0, 0, false), (18, .iconst 1, 1, 2, 0, 0, false), (19, .ireturn, 1, 0, 0, 0, false), (20, .iconst 0, 1, 1, 0, 0, false), (21, .ireturn, 1, 0, 0, 0, false)]
def y_K_high : MethodName := ⟨rc_K, "high", "(LModrings;IIILModringsLaw$Out;)I"⟩
def md_K_high : MD := (rc_K, y_K_high, method_11_code, 6, (some .int), [(0, 13, 16, 19)], [(0, 21, e213_0)])
abbrev n_K_round : Nat := 214
def e214_0 : List Ent := [(0, .aload 5, 2, 5, 0, 0, false), (2, .aload_n 0, 1, 0, 0, 0, false), (3, .iload_n 1, 1, 1, 0, 0, false), (4, .iload_n 2, 1, 2, 0, 0, false), (5, .iload_n 3, 1, 3, 0, 0, false), (6, .iload 4, 2, 4, 0, 0, false), (8, .invokevirtual 54, 3, 45, 4, 18, false), (11, .i2l, 1, 0, 0, 0, false), (12, .putfield 13, 3, 3, 0, 1, false), (15, .goto 11, 3, 26, 0, 0, false), (18, .astore 6, 2, 6, 0, 0, false), (20, .iconst 1, 1, 2, 0, 0, false), (21, .ireturn, 1, 0, 0, 0, false), (22, .astore 6, 2, 6, 0, 0, false), (24, .iconst 2, 1, 3, 0, 0, false), (25, .ireturn, 1, 0, 0, 0, false), (26, .iconst 0, 1, 1, 0, 0, false), (27, .ireturn, 1, 0, 0, 0, false)]
def y_K_round : MethodName := ⟨rc_K, "round", "(LModrings;ZIIILModringsLaw$Out;)I"⟩
def md_K_round : MD := (rc_K, y_K_round, method_12_code, 7, (some .int), [(0, 15, 18, 19), (0, 15, 22, 35)], [(0, 27, e214_0)])
abbrev n_K_abs : Nat := 215
def e215_0 : List Ent := [(0, .aload_n 3, 1, 3, 0, 0, false), (1, .aload_n 0, 1, 0, 0, 0, false), (2, .iload_n 1, 1, 1, 0, 0, false), (3, .iload_n 2, 1, 2, 0, 0, false), (4, .invokevirtual 57, 3, 46, 2, 18, false), (7, .i2l, 1, 0, 0, 0, false), (8, .putfield 13, 3, 3, 0, 1, false), (11, .goto 7, 3, 18, 0, 0, false), (14, .astore 4, 2, 4, 0, 0, false), (16, .iconst 1, 1, 2, 0, 0, false), (17, .ireturn, 1, 0, 0, 0, false), (18, .iconst 0, 1, 1, 0, 0, false), (19, .ireturn, 1, 0, 0, 0, false)]
def y_K_abs : MethodName := ⟨rc_K, "abs", "(LModrings;ZILModringsLaw$Out;)I"⟩
def md_K_abs : MD := (rc_K, y_K_abs, method_13_code, 5, (some .int), [(0, 11, 14, 19)], [(0, 19, e215_0)])
abbrev n_K_extreme : Nat := 216
def e216_0 : List Ent := [(0, .aload 5, 2, 5, 0, 0, false), (2, .aload_n 0, 1, 0, 0, 0, false), (3, .iload_n 1, 1, 1, 0, 0, false), (4, .iload_n 2, 1, 2, 0, 0, false), (5, .iload_n 3, 1, 3, 0, 0, false), (6, .iload 4, 2, 4, 0, 0, false), (8, .invokevirtual 61, 3, 47, 4, 18, false), (11, .i2l, 1, 0, 0, 0, false), (12, .putfield 13, 3, 3, 0, 1, false), (15, .goto 7, 3, 22, 0, 0, false), (18, .astore 6, 2, 6, 0, 0, false), (20, .iconst 1, 1, 2, 0, 0, false), (21, .ireturn, 1, 0, 0, 0, false), (22, .iconst 0, 1, 1, 0, 0, false), (23, .ireturn, 1, 0, 0, 0, false)]
def y_K_extreme : MethodName := ⟨rc_K, "extreme", "(LModrings;ZIIZLModringsLaw$Out;)I"⟩
def md_K_extreme : MD := (rc_K, y_K_extreme, method_14_code, 7, (some .int), [(0, 15, 18, 19)], [(0, 23, e216_0)])
abbrev n_K_floor : Nat := 217
def e217_0 : List Ent := [(0, .aload 5, 2, 5, 0, 0, false), (2, .aload_n 0, 1, 0, 0, 0, false), (3, .iload_n 1, 1, 1, 0, 0, false), (4, .iload_n 2, 1, 2, 0, 0, false), (5, .iload_n 3, 1, 3, 0, 0, false), (6, .iload 4, 2, 4, 0, 0, false), (8, .invokevirtual 65, 3, 48, 4, 18, false), (11, .i2l, 1, 0, 0, 0, false), (12, .putfield 13, 3, 3, 0, 1, false), (15, .goto 7, 3, 22, 0, 0, false), (18, .astore 6, 2, 6, 0, 0, false), (20, .iconst 1, 1, 2, 0, 0, false), (21, .ireturn, 1, 0, 0, 0, false), (22, .iconst 0, 1, 1, 0, 0, false), (23, .ireturn, 1, 0, 0, 0, false)]
def y_K_floor : MethodName := ⟨rc_K, "floo\x72", "(LModrings;ZIIZLModringsLaw$Out;)I"⟩
def md_K_floor : MD := (rc_K, y_K_floor, method_15_code, 7, (some .int), [(0, 15, 18, 19)], [(0, 23, e217_0)])
abbrev n_K_floorInt : Nat := 218
def e218_0 : List Ent := [(0, .aload 4, 2, 4, 0, 0, false), (2, .aload_n 0, 1, 0, 0, 0, false), (3, .iload_n 1, 1, 1, 0, 0, false), (4, .iload_n 2, 1, 2, 0, 0, false), (5, .iload_n 3, 1, 3, 0, 0, false), (6, .invokevirtual 68, 3, 49, 3, 18, false), (9, .i2l, 1, 0, 0, 0, false), (10, .putfield 13, 3, 3, 0, 1, false), (13, .goto 7, 3, 20, 0, 0, false), (16, .astore 5, 2, 5, 0, 0, false), (18, .iconst 1, 1, 2, 0, 0, false), (19, .ireturn, 1, 0, 0, 0, false), (20, .iconst 0, 1, 1, 0, 0, false), (21, .ireturn, 1, 0, 0, 0, false)]
def y_K_floorInt : MethodName := ⟨rc_K, "floorInt", "(LModrings;IIZLModringsLaw$Out;)I"⟩
def md_K_floorInt : MD := (rc_K, y_K_floorInt, method_16_code, 6, (some .int), [(0, 13, 16, 19)], [(0, 21, e218_0)])
abbrev n_K_towards : Nat := 219
def e219_0 : List Ent := [(0, .aload 5, 2, 5, 0, 0, false), (2, .aload_n 0, 1, 0, 0, 0, false), (3, .iload_n 1, 1, 1, 0, 0, false), (4, .iload_n 2, 1, 2, 0, 0, false), (5, .iload_n 3, 1, 3, 0, 0, false), (6, .iload 4, 2, 4, 0, 0, false), (8, .invokevirtual 72, 3, 50, 4, 18, false), (11, .i2l, 1, 0, 0, 0, false), (12, .putfield 13, 3, 3, 0, 1, false), (15, .goto 7, 3, 22, 0, 0, false), (18, .astore 6, 2, 6, 0, 0, false), (20, .iconst 1, 1, 2, 0, 0, false), (21, .ireturn, 1, 0, 0, 0, false), (22, .iconst 0, 1, 1, 0, 0, false), (23, .ireturn, 1, 0, 0, 0, false)]
def y_K_towards : MethodName := ⟨rc_K, "towards", "(LModrings;ZIIZLModringsLaw$Out;)I"⟩
def md_K_towards : MD := (rc_K, y_K_towards, method_17_code, 7, (some .int), [(0, 15, 18, 19)], [(0, 23, e219_0)])
abbrev n_K_average : Nat := 220
def e220_0 : List Ent := [(0, .aload 5, 2, 5, 0, 0, false), (2, .aload_n 0, 1, 0, 0, 0, false), (3, .iload_n 1, 1, 1, 0, 0, false), (4, .iload_n 2, 1, 2, 0, 0, false), (5, .iload_n 3, 1, 3, 0, 0, false), (6, .iload 4, 2, 4, 0, 0, false), (8, .invokevirtual 75, 3, 51, 4, 18, false), (11, .i2l, 1, 0, 0, 0, false), (12, .putfield 13, 3, 3, 0, 1, false), (15, .goto 7, 3, 22, 0, 0, false), (18, .astore 6, 2, 6, 0, 0, false), (20, .iconst 1, 1, 2, 0, 0, false), (21, .ireturn, 1, 0, 0, 0, false), (22, .iconst 0, 1, 1, 0, 0, false), (23, .ireturn, 1, 0, 0, 0, false)]
def y_K_average : MethodName := ⟨rc_K, "average", "(LModrings;ZIIZLModringsLaw$Out;)I"⟩
def md_K_average : MD := (rc_K, y_K_average, method_18_code, 7, (some .int), [(0, 15, 18, 19)], [(0, 23, e220_0)])
abbrev n_K_chain : Nat := 221
def e221_0 : List Ent := [(0, .aload 5, 2, 5, 0, 0, false), (2, .aload_n 0, 1, 0, 0, 0, false), (3, .iload_n 1, 1, 1, 0, 0, false), (4, .iload_n 2, 1, 2, 0, 0, false), (5, .iload_n 3, 1, 3, 0, 0, false), (6, .iload 4, 2, 4, 0, 0, false), (8, .invokevirtual 78, 3, 52, 4, 18, false), (11, .i2l, 1, 0, 0, 0, false), (12, .putfield 13, 3, 3, 0, 1, false), (15, .goto 11, 3, 26, 0, 0, false), (18, .astore 6, 2, 6, 0, 0, false), (20, .iconst 1, 1, 2, 0, 0, false), (21, .ireturn, 1, 0, 0, 0, false), (22, .astore 6, 2, 6, 0, 0, false), (24, .iconst 2, 1, 3, 0, 0, false), (25, .ireturn, 1, 0, 0, 0, false), (26, .iconst 0, 1, 1, 0, 0, false), (27, .ireturn, 1, 0, 0, 0, false)]
def y_K_chain : MethodName := ⟨rc_K, "chain", "(LModrings;IIIILModringsLaw$Out;)I"⟩
def md_K_chain : MD := (rc_K, y_K_chain, method_19_code, 7, (some .int), [(0, 15, 18, 19), (0, 15, 22, 35)], [(0, 27, e221_0)])
abbrev n_K_atOnce : Nat := 222
def e222_0 : List Ent := [(0, .aload 5, 2, 5, 0, 0, false), (2, .aload_n 0, 1, 0, 0, 0, false), (3, .iload_n 1, 1, 1, 0, 0, false), (4, .iload_n 2, 1, 2, 0, 0, false), (5, .iload_n 3, 1, 3, 0, 0, false), (6, .iload 4, 2, 4, 0, 0, false), (8, .invokevirtual 82, 3, 53, 4, 18, false), (11, .i2l, 1, 0, 0, 0, false), (12, .putfield 13, 3, 3, 0, 1, false), (15, .goto 11, 3, 26, 0, 0, false), (18, .astore 6, 2, 6, 0, 0, false), (20, .iconst 1, 1, 2, 0, 0, false), (21, .ireturn, 1, 0, 0, 0, false), (22, .astore 6, 2, 6, 0, 0, false), (24, .iconst 2, 1, 3, 0, 0, false), (25, .ireturn, 1, 0, 0, 0, false), (26, .iconst 0, 1, 1, 0, 0, false), (27, .ireturn, 1, 0, 0, 0, false)]
def y_K_atOnce : MethodName := ⟨rc_K, "atOnce", "(LModrings;IIIILModringsLaw$Out;)I"⟩
def md_K_atOnce : MD := (rc_K, y_K_atOnce, method_20_code, 7, (some .int), [(0, 15, 18, 19), (0, 15, 22, 35)], [(0, 27, e222_0)])
abbrev n_K_distance : Nat := 223
def e223_0 : List Ent := [(0, .aload 4, 2, 4, 0, 0, false), (2, .aload_n 0, 1, 0, 0, 0, false), (3, .iload_n 1, 1, 1, 0, 0, false), (4, .iload_n 2, 1, 2, 0, 0, false), (5, .iload_n 3, 1, 3, 0, 0, false), (6, .invokevirtual 85, 3, 54, 3, 18, false), (9, .putfield 89, 3, 3, 1, 1, false), (12, .goto 7, 3, 19, 0, 0, false), (15, .astore 5, 2, 5, 0, 0, false), (17, .iconst 1, 1, 2, 0, 0, false), (18, .ireturn, 1, 0, 0, 0, false), (19, .iconst 0, 1, 1, 0, 0, false), (20, .ireturn, 1, 0, 0, 0, false)]
def y_K_distance : MethodName := ⟨rc_K, "distance", "(LModrings;ZIILModringsLaw$Out;)I"⟩
def md_K_distance : MD := (rc_K, y_K_distance, method_21_code, 6, (some .int), [(0, 12, 15, 19)], [(0, 20, e223_0)])
abbrev n_K_compare : Nat := 224
def e224_0 : List Ent := [(0, .aload 4, 2, 4, 0, 0, false), (2, .aload_n 0, 1, 0, 0, 0, false), (3, .iload_n 1, 1, 1, 0, 0, false), (4, .iload_n 2, 1, 2, 0, 0, false), (5, .iload_n 3, 1, 3, 0, 0, false), (6, .invokevirtual 93, 3, 55, 3, 18, false), (9, .i2l, 1, 0, 0, 0, false), (10, .putfield 13, 3, 3, 0, 1, false), (13, .goto 7, 3, 20, 0, 0, false), (16, .astore 5, 2, 5, 0, 0, false), (18, .iconst 1, 1, 2, 0, 0, false), (19, .ireturn, 1, 0, 0, 0, false), (20, .iconst 0, 1, 1, 0, 0, false), (21, .ireturn, 1, 0, 0, 0, false)]
def y_K_compare : MethodName := ⟨rc_K, "compare", "(LModrings;ZIILModringsLaw$Out;)I"⟩
def md_K_compare : MD := (rc_K, y_K_compare, method_22_code, 6, (some .int), [(0, 13, 16, 19)], [(0, 21, e224_0)])
abbrev n_K_text : Nat := 225
def e225_0 : List Ent := [(0, .aload_n 3, 1, 3, 0, 0, false), (1, .aload_n 0, 1, 0, 0, 0, false), (2, .iload_n 1, 1, 1, 0, 0, false), (3, .iload_n 2, 1, 2, 0, 0, false), (4, .invokevirtual 96, 3, 56, 2, 18, false), (7, .putfield 89, 3, 3, 1, 1, false), (10, .goto 7, 3, 17, 0, 0, false), (13, .astore 4, 2, 4, 0, 0, false), (15, .iconst 1, 1, 2, 0, 0, false), (16, .ireturn, 1, 0, 0, 0, false), (17, .iconst 0, 1, 1, 0, 0, false), (18, .ireturn, 1, 0, 0, 0, false)]
def y_K_text : MethodName := ⟨rc_K, "text", "(LModrings;ZILModringsLaw$Out;)I"⟩
def md_K_text : MD := (rc_K, y_K_text, method_23_code, 5, (some .int), [(0, 10, 13, 19)], [(0, 18, e225_0)])
abbrev n_K_ofNumber : Nat := 226
def e226_0 : List Ent := [(0, .aload 4, 2, 4, 0, 0, false), (2, .aload_n 0, 1, 0, 0, 0, false), (3, .iload_n 1, 1, 1, 0, 0, false), (4, .iload_n 2, 1, 2, 0, 0, false), (5, .iload_n 3, 1, 3, 0, 0, false), (6, .invokevirtual 100, 3, 57, 3, 18, false), (9, .i2l, 1, 0, 0, 0, false), (10, .putfield 13, 3, 3, 0, 1, false), (13, .goto 11, 3, 24, 0, 0, false), (16, .astore 5, 2, 5, 0, 0, false), (18, .iconst 1, 1, 2, 0, 0, false), (19, .ireturn, 1, 0, 0, 0, false), (20, .astore 5, 2, 5, 0, 0, false), (22, .iconst 2, 1, 3, 0, 0, false), (23, .ireturn, 1, 0, 0, 0, false), (24, .iconst 0, 1, 1, 0, 0, false), (25, .ireturn, 1, 0, 0, 0, false)]
def y_K_ofNumber : MethodName := ⟨rc_K, "ofNumbe\x72", "(LModrings;ZIILModringsLaw$Out;)I"⟩
def md_K_ofNumber : MD := (rc_K, y_K_ofNumber, method_24_code, 6, (some .int), [(0, 13, 16, 19), (0, 13, 20, 35)], [(0, 25, e226_0)])
abbrev n_K_rest : Nat := 227
def e227_0 : List Ent := [(0, .aload 4, 2, 4, 0, 0, false), (2, .aload_n 0, 1, 0, 0, 0, false), (3, .iload_n 1, 1, 1, 0, 0, false), (4, .iload_n 2, 1, 2, 0, 0, false), (5, .iload_n 3, 1, 3, 0, 0, false), (6, .invokevirtual 103, 3, 58, 3, 18, false), (9, .i2l, 1, 0, 0, 0, false), (10, .putfield 13, 3, 3, 0, 1, false), (13, .goto 11, 3, 24, 0, 0, false), (16, .astore 5, 2, 5, 0, 0, false), (18, .iconst 1, 1, 2, 0, 0, false), (19, .ireturn, 1, 0, 0, 0, false), (20, .astore 5, 2, 5, 0, 0, false), (22, .iconst 2, 1, 3, 0, 0, false), (23, .ireturn, 1, 0, 0, 0, false), (24, .iconst 0, 1, 1, 0, 0, false), (25, .ireturn, 1, 0, 0, 0, false)]
def y_K_rest : MethodName := ⟨rc_K, "rest", "(LModrings;ZIILModringsLaw$Out;)I"⟩
def md_K_rest : MD := (rc_K, y_K_rest, method_25_code, 6, (some .int), [(0, 13, 16, 19), (0, 13, 20, 35)], [(0, 25, e227_0)])
abbrev n_K_quotient : Nat := 228
def e228_0 : List Ent := [(0, .aload 4, 2, 4, 0, 0, false), (2, .aload_n 0, 1, 0, 0, 0, false), (3, .iload_n 1, 1, 1, 0, 0, false), (4, .iload_n 2, 1, 2, 0, 0, false), (5, .iload_n 3, 1, 3, 0, 0, false), (6, .invokevirtual 106, 3, 59, 3, 18, false), (9, .putfield 89, 3, 3, 1, 1, false), (12, .goto 11, 3, 23, 0, 0, false), (15, .astore 5, 2, 5, 0, 0, false), (17, .iconst 1, 1, 2, 0, 0, false), (18, .ireturn, 1, 0, 0, 0, false), (19, .astore 5, 2, 5, 0, 0, false), (21, .iconst 2, 1, 3, 0, 0, false), (22, .ireturn, 1, 0, 0, 0, false), (23, .iconst 0, 1, 1, 0, 0, false), (24, .ireturn, 1, 0, 0, 0, false)]
def y_K_quotient : MethodName := ⟨rc_K, "quotient", "(LModrings;ZIILModringsLaw$Out;)I"⟩
def md_K_quotient : MD := (rc_K, y_K_quotient, method_26_code, 6, (some .int), [(0, 12, 15, 19), (0, 12, 19, 35)], [(0, 24, e228_0)])
abbrev n_K_modulus : Nat := 229
def e229_0 : List Ent := [(0, .aload_n 3, 1, 3, 0, 0, false), (1, .aload_n 0, 1, 0, 0, 0, false), (2, .iload_n 1, 1, 1, 0, 0, false), (3, .iload_n 2, 1, 2, 0, 0, false), (4, .invokevirtual 109, 3, 60, 2, 18, false), (7, .i2l, 1, 0, 0, 0, false), (8, .putfield 13, 3, 3, 0, 1, false), (11, .goto 11, 3, 22, 0, 0, false), (14, .astore 4, 2, 4, 0, 0, false), (16, .iconst 1, 1, 2, 0, 0, false), (17, .ireturn, 1, 0, 0, 0, false), (18, .astore 4, 2, 4, 0, 0, false), (20, .iconst 2, 1, 3, 0, 0, false), (21, .ireturn, 1, 0, 0, 0, false), (22, .iconst 0, 1, 1, 0, 0, false), (23, .ireturn, 1, 0, 0, 0, false)]
def y_K_modulus : MethodName := ⟨rc_K, "modulus", "(LModrings;IILModringsLaw$Out;)I"⟩
def md_K_modulus : MD := (rc_K, y_K_modulus, method_27_code, 5, (some .int), [(0, 11, 14, 19), (0, 11, 18, 35)], [(0, 23, e229_0)])
abbrev n_K_bring : Nat := 230
def e230_0 : List Ent := [(0, .aload 5, 2, 5, 0, 0, false), (2, .aload_n 0, 1, 0, 0, 0, false), (3, .iload_n 1, 1, 1, 0, 0, false), (4, .iload_n 2, 1, 2, 0, 0, false), (5, .iload_n 3, 1, 3, 0, 0, false), (6, .iload 4, 2, 4, 0, 0, false), (8, .invokevirtual 112, 3, 61, 4, 18, false), (11, .i2l, 1, 0, 0, 0, false), (12, .putfield 13, 3, 3, 0, 1, false), (15, .goto 7, 3, 22, 0, 0, false), (18, .astore 6, 2, 6, 0, 0, false), (20, .iconst 1, 1, 2, 0, 0, false), (21, .ireturn, 1, 0, 0, 0, false), (22, .iconst 0, 1, 1, 0, 0, false), (23, .ireturn, 1, 0, 0, 0, false)]
def y_K_bring : MethodName := ⟨rc_K, "bring", "(LModrings;IIZILModringsLaw$Out;)I"⟩
def md_K_bring : MD := (rc_K, y_K_bring, method_28_code, 7, (some .int), [(0, 15, 18, 19)], [(0, 23, e230_0)])
abbrev n_K_lift : Nat := 231
def e231_0 : List Ent := [(0, .aload 5, 2, 5, 0, 0, false), (2, .aload_n 0, 1, 0, 0, 0, false), (3, .iload_n 1, 1, 1, 0, 0, false), (4, .iload_n 2, 1, 2, 0, 0, false), (5, .iload_n 3, 1, 3, 0, 0, false), (6, .iload 4, 2, 4, 0, 0, false), (8, .invokevirtual 116, 3, 62, 4, 18, false), (11, .i2l, 1, 0, 0, 0, false), (12, .putfield 13, 3, 3, 0, 1, false), (15, .goto 7, 3, 22, 0, 0, false), (18, .astore 6, 2, 6, 0, 0, false), (20, .iconst 1, 1, 2, 0, 0, false), (21, .ireturn, 1, 0, 0, 0, false), (22, .iconst 0, 1, 1, 0, 0, false), (23, .ireturn, 1, 0, 0, 0, false)]
def y_K_lift : MethodName := ⟨rc_K, "lift", "(LModrings;IIZILModringsLaw$Out;)I"⟩
def md_K_lift : MD := (rc_K, y_K_lift, method_29_code, 7, (some .int), [(0, 15, 18, 19)], [(0, 23, e231_0)])
abbrev n_K_plus : Nat := 232
def e232_0 : List Ent := [(0, .aload 5, 2, 5, 0, 0, false), (2, .aload_n 0, 1, 0, 0, 0, false), (3, .iload_n 1, 1, 1, 0, 0, false), (4, .iload_n 2, 1, 2, 0, 0, false), (5, .iload_n 3, 1, 3, 0, 0, false), (6, .iload 4, 2, 4, 0, 0, false), (8, .invokevirtual 119, 3, 63, 4, 18, false), (11, .i2l, 1, 0, 0, 0, false), (12, .putfield 13, 3, 3, 0, 1, false), (15, .goto 7, 3, 22, 0, 0, false), (18, .astore 6, 2, 6, 0, 0, false), (20, .iconst 1, 1, 2, 0, 0, false), (21, .ireturn, 1, 0, 0, 0, false), (22, .iconst 0, 1, 1, 0, 0, false), (23, .ireturn, 1, 0, 0, 0, false)]
def y_K_plus : MethodName := ⟨rc_K, "plus", "(LModrings;IIIZLModringsLaw$Out;)I"⟩
def md_K_plus : MD := (rc_K, y_K_plus, method_30_code, 7, (some .int), [(0, 15, 18, 19)], [(0, 23, e232_0)])
abbrev n_K_times : Nat := 233
def e233_0 : List Ent := [(0, .aload 4, 2, 4, 0, 0, false), (2, .aload_n 0, 1, 0, 0, 0, false), (3, .iload_n 1, 1, 1, 0, 0, false), (4, .iload_n 2, 1, 2, 0, 0, false), (5, .iload_n 3, 1, 3, 0, 0, false), (6, .invokevirtual 123, 3, 64, 3, 18, false), (9, .i2l, 1, 0, 0, 0, false), (10, .putfield 13, 3, 3, 0, 1, false), (13, .goto 7, 3, 20, 0, 0, false), (16, .astore 5, 2, 5, 0, 0, false), (18, .iconst 1, 1, 2, 0, 0, false), (19, .ireturn, 1, 0, 0, 0, false), (20, .iconst 0, 1, 1, 0, 0, false), (21, .ireturn, 1, 0, 0, 0, false)]
def y_K_times : MethodName := ⟨rc_K, "times", "(LModrings;IIILModringsLaw$Out;)I"⟩
def md_K_times : MD := (rc_K, y_K_times, method_31_code, 6, (some .int), [(0, 13, 16, 19)], [(0, 21, e233_0)])
abbrev n_K_power : Nat := 234
def e234_0 : List Ent := [(0, .aload 4, 2, 4, 0, 0, false), (2, .aload_n 0, 1, 0, 0, 0, false), (3, .iload_n 1, 1, 1, 0, 0, false), (4, .iload_n 2, 1, 2, 0, 0, false), (5, .iload_n 3, 1, 3, 0, 0, false), (6, .invokevirtual 126, 3, 65, 3, 18, false), (9, .i2l, 1, 0, 0, 0, false), (10, .putfield 13, 3, 3, 0, 1, false), (13, .goto 11, 3, 24, 0, 0, false), (16, .astore 5, 2, 5, 0, 0, false), (18, .iconst 1, 1, 2, 0, 0, false), (19, .ireturn, 1, 0, 0, 0, false), (20, .astore 5, 2, 5, 0, 0, false), (22, .iconst 2, 1, 3, 0, 0, false), (23, .ireturn, 1, 0, 0, 0, false), (24, .iconst 0, 1, 1, 0, 0, false), (25, .ireturn, 1, 0, 0, 0, false)]
def y_K_power : MethodName := ⟨rc_K, "powe\x72", "(LModrings;IIILModringsLaw$Out;)I"⟩
def md_K_power : MD := (rc_K, y_K_power, method_32_code, 6, (some .int), [(0, 13, 16, 19), (0, 13, 20, 35)], [(0, 25, e234_0)])
abbrev n_K_inverse : Nat := 235
def e235_0 : List Ent := [(0, .aload_n 3, 1, 3, 0, 0, false), (1, .aload_n 0, 1, 0, 0, 0, false), (2, .iload_n 1, 1, 1, 0, 0, false), (3, .iload_n 2, 1, 2, 0, 0, false), (4, .invokevirtual 129, 3, 66, 2, 18, false), (7, .i2l, 1, 0, 0, 0, false), (8, .putfield 13, 3, 3, 0, 1, false), (11, .goto 7, 3, 18, 0, 0, false), (14, .astore 4, 2, 4, 0, 0, false), (16, .iconst 1, 1, 2, 0, 0, false), (17, .ireturn, 1, 0, 0, 0, false), (18, .iconst 0, 1, 1, 0, 0, false), (19, .ireturn, 1, 0, 0, 0, false)]
def y_K_inverse : MethodName := ⟨rc_K, "inverse", "(LModrings;IILModringsLaw$Out;)I"⟩
def md_K_inverse : MD := (rc_K, y_K_inverse, method_33_code, 5, (some .int), [(0, 11, 14, 19)], [(0, 19, e235_0)])
abbrev n_K_isUnit : Nat := 236
def e236_0 : List Ent := [(0, .aload_n 3, 1, 3, 0, 0, false), (1, .aload_n 0, 1, 0, 0, 0, false), (2, .iload_n 1, 1, 1, 0, 0, false), (3, .iload_n 2, 1, 2, 0, 0, false), (4, .invokevirtual 132, 3, 67, 2, 18, false), (7, .ifCond .eq 7, 3, 14, 0, 0, false), (10, .lconst 1, 1, 1, 0, 0, false), (11, .goto 4, 3, 15, 0, 0, false), (14, .lconst 0, 1, 0, 0, 0, false), (15, .putfield 13, 3, 3, 0, 1, false), (18, .goto 7, 3, 25, 0, 0, false), (21, .astore 4, 2, 4, 0, 0, false), (23, .iconst 1, 1, 2, 0, 0, false), (24, .ireturn, 1, 0, 0, 0, false), (25, .iconst 0, 1, 1, 0, 0, false), (26, .ireturn, 1, 0, 0, 0, false)]
def y_K_isUnit : MethodName := ⟨rc_K, "isUnit", "(LModrings;IILModringsLaw$Out;)I"⟩
def md_K_isUnit : MD := (rc_K, y_K_isUnit, method_34_code, 5, (some .int), [(0, 18, 21, 19)], [(0, 26, e236_0)])
abbrev n_K_residue : Nat := 237
def e237_0 : List Ent := [(0, .aload_n 3, 1, 3, 0, 0, false), (1, .aload_n 0, 1, 0, 0, 0, false), (2, .iload_n 1, 1, 1, 0, 0, false), (3, .iload_n 2, 1, 2, 0, 0, false), (4, .invokevirtual 136, 3, 68, 2, 18, false), (7, .i2l, 1, 0, 0, 0, false), (8, .putfield 13, 3, 3, 0, 1, false), (11, .goto 7, 3, 18, 0, 0, false), (14, .astore 4, 2, 4, 0, 0, false), (16, .iconst 1, 1, 2, 0, 0, false), (17, .ireturn, 1, 0, 0, 0, false), (18, .iconst 0, 1, 1, 0, 0, false), (19, .ireturn, 1, 0, 0, 0, false)]
def y_K_residue : MethodName := ⟨rc_K, "residue", "(LModrings;IILModringsLaw$Out;)I"⟩
def md_K_residue : MD := (rc_K, y_K_residue, method_35_code, 5, (some .int), [(0, 11, 14, 19)], [(0, 19, e237_0)])
abbrev n_K_ringText : Nat := 238
def e238_0 : List Ent := [(0, .aload_n 2, 1, 2, 0, 0, false), (1, .aload_n 0, 1, 0, 0, 0, false), (2, .iload_n 1, 1, 1, 0, 0, false), (3, .invokevirtual 139, 3, 69, 1, 18, false), (6, .putfield 89, 3, 3, 1, 1, false), (9, .goto 6, 3, 15, 0, 0, false), (12, .astore_n 3, 1, 3, 0, 0, false), (13, .iconst 1, 1, 2, 0, 0, false), (14, .ireturn, 1, 0, 0, 0, false), (15, .iconst 0, 1, 1, 0, 0, false), (16, .ireturn, 1, 0, 0, 0, false)]
def y_K_ringText : MethodName := ⟨rc_K, "ringText", "(LModrings;ILModringsLaw$Out;)I"⟩
def md_K_ringText : MD := (rc_K, y_K_ringText, method_36_code, 4, (some .int), [(0, 9, 12, 19)], [(0, 16, e238_0)])
abbrev n_K_areAlike : Nat := 239
def e239_0 : List Ent := [(0, .aload 5, 2, 5, 0, 0, false), (2, .aload_n 0, 1, 0, 0, 0, false), (3, .iload_n 1, 1, 1, 0, 0, false), (4, .iload_n 2, 1, 2, 0, 0, false), (5, .iload_n 3, 1, 3, 0, 0, false), (6, .iload 4, 2, 4, 0, 0, false), (8, .invokevirtual 143, 3, 70, 4, 18, false), (11, .ifCond .eq 7, 3, 18, 0, 0, false), (14, .lconst 1, 1, 1, 0, 0, false), (15, .goto 4, 3, 19, 0, 0, false), (18, .lconst 0, 1, 0, 0, 0, false), (19, .putfield 13, 3, 3, 0, 1, false), (22, .goto 7, 3, 29, 0, 0, false), (25, .astore 6, 2, 6, 0, 0, false), (27, .iconst 1, 1, 2, 0, 0, false), (28, .ireturn, 1, 0, 0, 0, false), (29, .iconst 0, 1, 1, 0, 0, false), (30, .ireturn, 1, 0, 0, 0, false)]
def y_K_areAlike : MethodName := ⟨rc_K, "areAlike", "(LModrings;IZIILModringsLaw$Out;)I"⟩
def md_K_areAlike : MD := (rc_K, y_K_areAlike, method_37_code, 7, (some .int), [(0, 22, 25, 19)], [(0, 30, e239_0)])
abbrev n_K_together : Nat := 240
def e240_0 : List Ent := [(0, .aload 6, 2, 6, 0, 0, false), (2, .aload_n 0, 1, 0, 0, 0, false), (3, .iload_n 1, 1, 1, 0, 0, false), (4, .iload_n 2, 1, 2, 0, 0, false), (5, .iload_n 3, 1, 3, 0, 0, false), (6, .iload 4, 2, 4, 0, 0, false), (8, .iload 5, 2, 5, 0, 0, false), (10, .invokevirtual 147, 3, 71, 5, 18, false), (13, .i2l, 1, 0, 0, 0, false), (14, .putfield 13, 3, 3, 0, 1, false), (17, .goto 7, 3, 24, 0, 0, false), (20, .astore 7, 2, 7, 0, 0, false), (22, .iconst 1, 1, 2, 0, 0, false), (23, .ireturn, 1, 0, 0, 0, false), (24, .iconst 0, 1, 1, 0, 0, false), (25, .ireturn, 1, 0, 0, 0, false)]
def y_K_together : MethodName := ⟨rc_K, "togethe\x72", "(LModrings;IIIIILModringsLaw$Out;)I"⟩
def md_K_together : MD := (rc_K, y_K_together, method_38_code, 8, (some .int), [(0, 17, 20, 19)], [(0, 25, e240_0)])
abbrev n_K_common : Nat := 241
def e241_0 : List Ent := [(0, .aload 4, 2, 4, 0, 0, false), (2, .aload_n 0, 1, 0, 0, 0, false), (3, .iload_n 1, 1, 1, 0, 0, false), (4, .iload_n 2, 1, 2, 0, 0, false), (5, .iload_n 3, 1, 3, 0, 0, false), (6, .invokevirtual 151, 3, 72, 3, 18, false), (9, .putfield 89, 3, 3, 1, 1, false), (12, .goto 7, 3, 19, 0, 0, false), (15, .astore 5, 2, 5, 0, 0, false), (17, .iconst 1, 1, 2, 0, 0, false), (18, .ireturn, 1, 0, 0, 0, false), (19, .iconst 0, 1, 1, 0, 0, false), (20, .ireturn, 1, 0, 0, 0, false)]
def y_K_common : MethodName := ⟨rc_K, "common", "(LModrings;IIZLModringsLaw$Out;)I"⟩
def md_K_common : MD := (rc_K, y_K_common, method_39_code, 6, (some .int), [(0, 12, 15, 19)], [(0, 20, e241_0)])
abbrev n_K_house : Nat := 242
def e242_0 : List Ent := [(0, .aload_n 2, 1, 2, 0, 0, false), (1, .aload_n 0, 1, 0, 0, 0, false), (2, .iload_n 1, 1, 1, 0, 0, false), (3, .invokevirtual 155, 3, 73, 1, 18, false), (6, .i2l, 1, 0, 0, 0, false), (7, .putfield 13, 3, 3, 0, 1, false), (10, .goto 6, 3, 16, 0, 0, false), (13, .astore_n 3, 1, 3, 0, 0, false), (14, .iconst 1, 1, 2, 0, 0, false), (15, .ireturn, 1, 0, 0, 0, false), (16, .iconst 0, 1, 1, 0, 0, false), (17, .ireturn, 1, 0, 0, 0, false)]
def y_K_house : MethodName := ⟨rc_K, "house", "(LModrings;ILModringsLaw$Out;)I"⟩
def md_K_house : MD := (rc_K, y_K_house, method_40_code, 4, (some .int), [(0, 10, 13, 35)], [(0, 17, e242_0)])
abbrev n_K_law : Nat := 243
def e243_0 : List Ent := [(0, .new 8, 3, 2, 6, 0, false), (3, .dup, 1, 0, 0, 0, false), (4, .invokespecial 159, 3, 34, 0, 5, false), (7, .astore_n 1, 1, 1, 0, 0, false), (8, .new 160, 3, 4, 7, 0, false), (11, .dup, 1, 0, 0, 0, false), (12, .invokespecial 162, 3, 97, 0, 5, false), (15, .astore_n 2, 1, 2, 0, 0, false), (16, .new 14, 3, 3, 2, 0, false), (19, .dup, 1, 0, 0, 0, false), (20, .invokespecial 163, 3, 96, 0, 6, false), (23, .astore_n 3, 1, 3, 0, 0, false), (24, .iconst 0, 1, 1, 0, 0, false), (25, .istore 4, 2, 4, 0, 0, false), (27, .iload 4, 2, 4, 0, 0, true), (29, .aload_n 0, 1, 0, 0, 0, false), (30, .arraylength, 1, 0, 0, 0, false), (31, .bipush 6, 2, 27, 0, 0, false), (33, .isub, 1, 0, 0, 0, false), (34, .if_icmp .gt 2764, 3, 2798, 0, 0, false), (37, .aload_n 0, 1, 0, 0, 0, false), (38, .iload 4, 2, 4, 0, 0, false), (40, .iaload, 1, 0, 0, 0, false), (41, .bipush 63, 2, 28, 0, 0, false), (43, .iand, 1, 0, 0, 0, false), (44, .tableswitch 2748 0 41 #[184, 293, 361, 401, 441, 521, 601, 669, 709, 761, 813, 893, 949, 1045, 1141, 1209, 1305, 1401, 1465, 1529, 1597, 1665, 1721, 1789, 1857, 1925, 1965, 2045, 2125, 2205, 2257, 2309, 2349, 2389, 2429, 2457, 2537, 2613, 2681, 2709, 2722, 2735], 184, 2792, 0, 3, false)]
def e243_1 : List Ent := [(228, .aload_n 1, 1, 1, 0, 0, false), (229, .aload_n 0, 1, 0, 0, 0, false), (230, .iload 4, 2, 4, 0, 0, false), (232, .iconst 1, 1, 2, 0, 0, false), (233, .iadd, 1, 0, 0, 0, false), (234, .iaload, 1, 0, 0, 0, false), (235, .ifCond .eq 7, 3, 242, 0, 0, false), (238, .iconst 1, 1, 2, 0, 0, false), (239, .goto 4, 3, 243, 0, 0, false), (242, .iconst 0, 1, 1, 0, 0, false), (243, .aload_n 0, 1, 0, 0, 0, false), (244, .iload 4, 2, 4, 0, 0, false), (246, .iconst 2, 1, 3, 0, 0, false), (247, .iadd, 1, 0, 0, 0, false), (248, .iaload, 1, 0, 0, 0, false), (249, .aload_n 0, 1, 0, 0, 0, false), (250, .iload 4, 2, 4, 0, 0, false), (252, .iconst 3, 1, 4, 0, 0, false), (253, .iadd, 1, 0, 0, 0, false), (254, .iaload, 1, 0, 0, 0, false), (255, .aload_n 0, 1, 0, 0, 0, false), (256, .iload 4, 2, 4, 0, 0, false), (258, .iconst 4, 1, 5, 0, 0, false), (259, .iadd, 1, 0, 0, 0, false), (260, .iaload, 1, 0, 0, 0, false), (261, .aload_n 3, 1, 3, 0, 0, false), (262, .invokestatic 164, 3, 204, 6, 8, false), (265, .istore 5, 2, 5, 0, 0, false), (267, .aload_n 2, 1, 2, 0, 0, false), (268, .aload_n 0, 1, 0, 0, 0, false), (269, .iload 4, 2, 4, 0, 0, false), (271, .iconst 1, 1, 2, 0, 0, false), (272, .iadd, 1, 0, 0, 0, false), (273, .iaload, 1, 0, 0, 0, false), (274, .ifCond .eq 7, 3, 281, 0, 0, false), (277, .iconst 1, 1, 2, 0, 0, false), (278, .goto 4, 3, 282, 0, 0, false), (281, .iconst 0, 1, 1, 0, 0, false), (282, .aload_n 0, 1, 0, 0, 0, false), (283, .iload 4, 2, 4, 0, 0, false), (285, .iconst 2, 1, 3, 0, 0, false), (286, .iadd, 1, 0, 0, 0, false), (287, .iaload, 1, 0, 0, 0, false), (288, .aload_n 0, 1, 0, 0, 0, false), (289, .iload 4, 2, 4, 0, 0, false), (291, .iconst 3, 1, 4, 0, 0, false), (292, .iadd, 1, 0, 0, 0, false), (293, .iaload, 1, 0, 0, 0, false), (294, .aload_n 0, 1, 0, 0, 0, false), (295, .iload 4, 2, 4, 0, 0, false), (297, .iconst 4, 1, 5, 0, 0, false), (298, .iadd, 1, 0, 0, 0, false), (299, .iaload, 1, 0, 0, 0, false), (300, .invokevirtual 169, 3, 114, 4, 20, false), (303, .istore 6, 2, 6, 0, 0, false), (305, .aload_n 2, 1, 2, 0, 0, false), (306, .invokevirtual 170, 3, 98, 0, 20, false), (309, .iload 5, 2, 5, 0, 0, false), (311, .if_icmp .eq 5, 3, 316, 0, 0, false), (314, .iconst 0, 1, 1, 0, 0, false), (315, .ireturn, 1, 0, 0, 0, false), (316, .iload 5, 2, 5, 0, 0, false), (318, .ifCond .ne 16, 3, 334, 0, 0, false), (321, .aload_n 3, 1, 3, 0, 0, false), (322, .getfield 13, 3, 3, 0, 1, false), (325, .iload 6, 2, 6, 0, 0, false), (327, .i2l, 1, 0, 0, 0, false), (328, .lcmp, 1, 0, 0, 0, false), (329, .ifCond .eq 5, 3, 334, 0, 0, false), (332, .iconst 0, 1, 1, 0, 0, false), (333, .ireturn, 1, 0, 0, 0, false), (334, .goto 2458, 3, 2792, 0, 0, false)]
def e243_2 : List Ent := [(337, .aload_n 1, 1, 1, 0, 0, false), (338, .aload_n 0, 1, 0, 0, 0, false), (339, .iload 4, 2, 4, 0, 0, false), (341, .iconst 1, 1, 2, 0, 0, false), (342, .iadd, 1, 0, 0, 0, false), (343, .iaload, 1, 0, 0, 0, false), (344, .ifCond .eq 7, 3, 351, 0, 0, false), (347, .iconst 1, 1, 2, 0, 0, false), (348, .goto 4, 3, 352, 0, 0, false), (351, .iconst 0, 1, 1, 0, 0, false), (352, .aload_n 0, 1, 0, 0, 0, false), (353, .iload 4, 2, 4, 0, 0, false), (355, .iconst 2, 1, 3, 0, 0, false), (356, .iadd, 1, 0, 0, 0, false), (357, .iaload, 1, 0, 0, 0, false), (358, .aload_n 0, 1, 0, 0, 0, false), (359, .iload 4, 2, 4, 0, 0, false), (361, .iconst 3, 1, 4, 0, 0, false), (362, .iadd, 1, 0, 0, 0, false), (363, .iaload, 1, 0, 0, 0, false), (364, .aload_n 3, 1, 3, 0, 0, false), (365, .invokestatic 174, 3, 205, 5, 8, false), (368, .istore 5, 2, 5, 0, 0, false), (370, .aload_n 2, 1, 2, 0, 0, false), (371, .aload_n 0, 1, 0, 0, 0, false), (372, .iload 4, 2, 4, 0, 0, false), (374, .iconst 1, 1, 2, 0, 0, false), (375, .iadd, 1, 0, 0, 0, false), (376, .iaload, 1, 0, 0, 0, false), (377, .ifCond .eq 7, 3, 384, 0, 0, false), (380, .iconst 1, 1, 2, 0, 0, false), (381, .goto 4, 3, 385, 0, 0, false), (384, .iconst 0, 1, 1, 0, 0, false), (385, .aload_n 0, 1, 0, 0, 0, false), (386, .iload 4, 2, 4, 0, 0, false), (388, .iconst 2, 1, 3, 0, 0, false), (389, .iadd, 1, 0, 0, 0, false), (390, .iaload, 1, 0, 0, 0, false), (391, .aload_n 0, 1, 0, 0, 0, false), (392, .iload 4, 2, 4, 0, 0, false), (394, .iconst 3, 1, 4, 0, 0, false), (395, .iadd, 1, 0, 0, 0, false), (396, .iaload, 1, 0, 0, 0, false), (397, .invokevirtual 177, 3, 115, 3, 20, false), (400, .istore 6, 2, 6, 0, 0, false), (402, .goto 2390, 3, 2792, 0, 0, false)]
def e243_3 : List Ent := [(405, .aload_n 1, 1, 1, 0, 0, false), (406, .aload_n 0, 1, 0, 0, 0, false), (407, .iload 4, 2, 4, 0, 0, false), (409, .iconst 1, 1, 2, 0, 0, false), (410, .iadd, 1, 0, 0, 0, false), (411, .iaload, 1, 0, 0, 0, false), (412, .aload_n 0, 1, 0, 0, 0, false), (413, .iload 4, 2, 4, 0, 0, false), (415, .iconst 2, 1, 3, 0, 0, false), (416, .iadd, 1, 0, 0, 0, false), (417, .iaload, 1, 0, 0, 0, false), (418, .aload_n 3, 1, 3, 0, 0, false), (419, .invokestatic 178, 3, 206, 4, 8, false), (422, .istore 5, 2, 5, 0, 0, false), (424, .aload_n 2, 1, 2, 0, 0, false), (425, .aload_n 0, 1, 0, 0, 0, false), (426, .iload 4, 2, 4, 0, 0, false), (428, .iconst 1, 1, 2, 0, 0, false), (429, .iadd, 1, 0, 0, 0, false), (430, .iaload, 1, 0, 0, 0, false), (431, .aload_n 0, 1, 0, 0, 0, false), (432, .iload 4, 2, 4, 0, 0, false), (434, .iconst 2, 1, 3, 0, 0, false), (435, .iadd, 1, 0, 0, 0, false), (436, .iaload, 1, 0, 0, 0, false), (437, .invokevirtual 181, 3, 116, 2, 20, false), (440, .istore 6, 2, 6, 0, 0, false), (442, .goto 2350, 3, 2792, 0, 0, false)]
def e243_4 : List Ent := [(445, .aload_n 1, 1, 1, 0, 0, false), (446, .aload_n 0, 1, 0, 0, 0, false), (447, .iload 4, 2, 4, 0, 0, false), (449, .iconst 1, 1, 2, 0, 0, false), (450, .iadd, 1, 0, 0, 0, false), (451, .iaload, 1, 0, 0, 0, false), (452, .aload_n 0, 1, 0, 0, 0, false), (453, .iload 4, 2, 4, 0, 0, false), (455, .iconst 2, 1, 3, 0, 0, false), (456, .iadd, 1, 0, 0, 0, false), (457, .iaload, 1, 0, 0, 0, false), (458, .aload_n 3, 1, 3, 0, 0, false), (459, .invokestatic 182, 3, 207, 4, 8, false), (462, .istore 5, 2, 5, 0, 0, false), (464, .aload_n 2, 1, 2, 0, 0, false), (465, .aload_n 0, 1, 0, 0, 0, false), (466, .iload 4, 2, 4, 0, 0, false), (468, .iconst 1, 1, 2, 0, 0, false), (469, .iadd, 1, 0, 0, 0, false), (470, .iaload, 1, 0, 0, 0, false), (471, .aload_n 0, 1, 0, 0, 0, false), (472, .iload 4, 2, 4, 0, 0, false), (474, .iconst 2, 1, 3, 0, 0, false), (475, .iadd, 1, 0, 0, 0, false), (476, .iaload, 1, 0, 0, 0, false), (477, .invokevirtual 184, 3, 117, 2, 20, false), (480, .istore 6, 2, 6, 0, 0, false), (482, .goto 2310, 3, 2792, 0, 0, false)]
def e243_5 : List Ent := [(485, .aload_n 1, 1, 1, 0, 0, false), (486, .aload_n 0, 1, 0, 0, 0, false), (487, .iload 4, 2, 4, 0, 0, false), (489, .iconst 1, 1, 2, 0, 0, false), (490, .iadd, 1, 0, 0, 0, false), (491, .iaload, 1, 0, 0, 0, false), (492, .ifCond .eq 7, 3, 499, 0, 0, false), (495, .iconst 1, 1, 2, 0, 0, false), (496, .goto 4, 3, 500, 0, 0, false), (499, .iconst 0, 1, 1, 0, 0, false), (500, .aload_n 0, 1, 0, 0, 0, false), (501, .iload 4, 2, 4, 0, 0, false), (503, .iconst 2, 1, 3, 0, 0, false), (504, .iadd, 1, 0, 0, 0, false), (505, .iaload, 1, 0, 0, 0, false), (506, .aload_n 0, 1, 0, 0, 0, false), (507, .iload 4, 2, 4, 0, 0, false), (509, .iconst 3, 1, 4, 0, 0, false), (510, .iadd, 1, 0, 0, 0, false), (511, .iaload, 1, 0, 0, 0, false), (512, .aload_n 0, 1, 0, 0, 0, false), (513, .iload 4, 2, 4, 0, 0, false), (515, .iconst 4, 1, 5, 0, 0, false), (516, .iadd, 1, 0, 0, 0, false), (517, .iaload, 1, 0, 0, 0, false), (518, .aload_n 3, 1, 3, 0, 0, false), (519, .invokestatic 185, 3, 208, 6, 8, false), (522, .istore 5, 2, 5, 0, 0, false), (524, .aload_n 2, 1, 2, 0, 0, false), (525, .aload_n 0, 1, 0, 0, 0, false), (526, .iload 4, 2, 4, 0, 0, false), (528, .iconst 1, 1, 2, 0, 0, false), (529, .iadd, 1, 0, 0, 0, false), (530, .iaload, 1, 0, 0, 0, false), (531, .ifCond .eq 7, 3, 538, 0, 0, false), (534, .iconst 1, 1, 2, 0, 0, false), (535, .goto 4, 3, 539, 0, 0, false), (538, .iconst 0, 1, 1, 0, 0, false), (539, .aload_n 0, 1, 0, 0, 0, false), (540, .iload 4, 2, 4, 0, 0, false), (542, .iconst 2, 1, 3, 0, 0, false), (543, .iadd, 1, 0, 0, 0, false), (544, .iaload, 1, 0, 0, 0, false), (545, .aload_n 0, 1, 0, 0, 0, false), (546, .iload 4, 2, 4, 0, 0, false), (548, .iconst 3, 1, 4, 0, 0, false), (549, .iadd, 1, 0, 0, 0, false), (550, .iaload, 1, 0, 0, 0, false), (551, .aload_n 0, 1, 0, 0, 0, false), (552, .iload 4, 2, 4, 0, 0, false), (554, .iconst 4, 1, 5, 0, 0, false), (555, .iadd, 1, 0, 0, 0, false), (556, .iaload, 1, 0, 0, 0, false), (557, .invokevirtual 187, 3, 118, 4, 20, false), (560, .istore 6, 2, 6, 0, 0, false), (562, .goto 2230, 3, 2792, 0, 0, false)]
def e243_6 : List Ent := [(565, .aload_n 1, 1, 1, 0, 0, false), (566, .aload_n 0, 1, 0, 0, 0, false), (567, .iload 4, 2, 4, 0, 0, false), (569, .iconst 1, 1, 2, 0, 0, false), (570, .iadd, 1, 0, 0, 0, false), (571, .iaload, 1, 0, 0, 0, false), (572, .ifCond .eq 7, 3, 579, 0, 0, false), (575, .iconst 1, 1, 2, 0, 0, false), (576, .goto 4, 3, 580, 0, 0, false), (579, .iconst 0, 1, 1, 0, 0, false), (580, .aload_n 0, 1, 0, 0, 0, false), (581, .iload 4, 2, 4, 0, 0, false), (583, .iconst 2, 1, 3, 0, 0, false), (584, .iadd, 1, 0, 0, 0, false), (585, .iaload, 1, 0, 0, 0, false), (586, .aload_n 0, 1, 0, 0, 0, false), (587, .iload 4, 2, 4, 0, 0, false), (589, .iconst 3, 1, 4, 0, 0, false), (590, .iadd, 1, 0, 0, 0, false), (591, .iaload, 1, 0, 0, 0, false), (592, .aload_n 0, 1, 0, 0, 0, false), (593, .iload 4, 2, 4, 0, 0, false), (595, .iconst 4, 1, 5, 0, 0, false), (596, .iadd, 1, 0, 0, 0, false), (597, .iaload, 1, 0, 0, 0, false), (598, .aload_n 3, 1, 3, 0, 0, false), (599, .invokestatic 188, 3, 209, 6, 8, false), (602, .istore 5, 2, 5, 0, 0, false), (604, .aload_n 2, 1, 2, 0, 0, false), (605, .aload_n 0, 1, 0, 0, 0, false), (606, .iload 4, 2, 4, 0, 0, false), (608, .iconst 1, 1, 2, 0, 0, false), (609, .iadd, 1, 0, 0, 0, false), (610, .iaload, 1, 0, 0, 0, false), (611, .ifCond .eq 7, 3, 618, 0, 0, false), (614, .iconst 1, 1, 2, 0, 0, false), (615, .goto 4, 3, 619, 0, 0, false), (618, .iconst 0, 1, 1, 0, 0, false), (619, .aload_n 0, 1, 0, 0, 0, false), (620, .iload 4, 2, 4, 0, 0, false), (622, .iconst 2, 1, 3, 0, 0, false), (623, .iadd, 1, 0, 0, 0, false), (624, .iaload, 1, 0, 0, 0, false), (625, .aload_n 0, 1, 0, 0, 0, false), (626, .iload 4, 2, 4, 0, 0, false), (628, .iconst 3, 1, 4, 0, 0, false), (629, .iadd, 1, 0, 0, 0, false), (630, .iaload, 1, 0, 0, 0, false), (631, .aload_n 0, 1, 0, 0, 0, false), (632, .iload 4, 2, 4, 0, 0, false), (634, .iconst 4, 1, 5, 0, 0, false), (635, .iadd, 1, 0, 0, 0, false), (636, .iaload, 1, 0, 0, 0, false), (637, .invokevirtual 190, 3, 119, 4, 20, false), (640, .istore 6, 2, 6, 0, 0, false), (642, .goto 2150, 3, 2792, 0, 0, false)]
def e243_7 : List Ent := [(645, .aload_n 1, 1, 1, 0, 0, false), (646, .aload_n 0, 1, 0, 0, 0, false), (647, .iload 4, 2, 4, 0, 0, false), (649, .iconst 1, 1, 2, 0, 0, false), (650, .iadd, 1, 0, 0, 0, false), (651, .iaload, 1, 0, 0, 0, false), (652, .ifCond .eq 7, 3, 659, 0, 0, false), (655, .iconst 1, 1, 2, 0, 0, false), (656, .goto 4, 3, 660, 0, 0, false), (659, .iconst 0, 1, 1, 0, 0, false), (660, .aload_n 0, 1, 0, 0, 0, false), (661, .iload 4, 2, 4, 0, 0, false), (663, .iconst 2, 1, 3, 0, 0, false), (664, .iadd, 1, 0, 0, 0, false), (665, .iaload, 1, 0, 0, 0, false), (666, .aload_n 0, 1, 0, 0, 0, false), (667, .iload 4, 2, 4, 0, 0, false), (669, .iconst 3, 1, 4, 0, 0, false), (670, .iadd, 1, 0, 0, 0, false), (671, .iaload, 1, 0, 0, 0, false), (672, .aload_n 3, 1, 3, 0, 0, false), (673, .invokestatic 191, 3, 210, 5, 8, false), (676, .istore 5, 2, 5, 0, 0, false), (678, .aload_n 2, 1, 2, 0, 0, false), (679, .aload_n 0, 1, 0, 0, 0, false), (680, .iload 4, 2, 4, 0, 0, false), (682, .iconst 1, 1, 2, 0, 0, false), (683, .iadd, 1, 0, 0, 0, false), (684, .iaload, 1, 0, 0, 0, false), (685, .ifCond .eq 7, 3, 692, 0, 0, false), (688, .iconst 1, 1, 2, 0, 0, false), (689, .goto 4, 3, 693, 0, 0, false), (692, .iconst 0, 1, 1, 0, 0, false), (693, .aload_n 0, 1, 0, 0, 0, false), (694, .iload 4, 2, 4, 0, 0, false), (696, .iconst 2, 1, 3, 0, 0, false), (697, .iadd, 1, 0, 0, 0, false), (698, .iaload, 1, 0, 0, 0, false), (699, .aload_n 0, 1, 0, 0, 0, false), (700, .iload 4, 2, 4, 0, 0, false), (702, .iconst 3, 1, 4, 0, 0, false), (703, .iadd, 1, 0, 0, 0, false), (704, .iaload, 1, 0, 0, 0, false), (705, .invokevirtual 193, 3, 120, 3, 20, false), (708, .istore 6, 2, 6, 0, 0, false), (710, .goto 2082, 3, 2792, 0, 0, false)]
def e243_8 : List Ent := [(713, .aload_n 1, 1, 1, 0, 0, false), (714, .aload_n 0, 1, 0, 0, 0, false), (715, .iload 4, 2, 4, 0, 0, false), (717, .iconst 1, 1, 2, 0, 0, false), (718, .iadd, 1, 0, 0, 0, false), (719, .iaload, 1, 0, 0, 0, false), (720, .aload_n 0, 1, 0, 0, 0, false), (721, .iload 4, 2, 4, 0, 0, false), (723, .iconst 2, 1, 3, 0, 0, false), (724, .iadd, 1, 0, 0, 0, false), (725, .iaload, 1, 0, 0, 0, false), (726, .aload_n 3, 1, 3, 0, 0, false), (727, .invokestatic 194, 3, 211, 4, 8, false), (730, .istore 5, 2, 5, 0, 0, false), (732, .aload_n 2, 1, 2, 0, 0, false), (733, .aload_n 0, 1, 0, 0, 0, false), (734, .iload 4, 2, 4, 0, 0, false), (736, .iconst 1, 1, 2, 0, 0, false), (737, .iadd, 1, 0, 0, 0, false), (738, .iaload, 1, 0, 0, 0, false), (739, .aload_n 0, 1, 0, 0, 0, false), (740, .iload 4, 2, 4, 0, 0, false), (742, .iconst 2, 1, 3, 0, 0, false), (743, .iadd, 1, 0, 0, 0, false), (744, .iaload, 1, 0, 0, 0, false), (745, .invokevirtual 196, 3, 121, 2, 20, false), (748, .istore 6, 2, 6, 0, 0, false), (750, .goto 2042, 3, 2792, 0, 0, false)]
def e243_9 : List Ent := [(753, .aload_n 1, 1, 1, 0, 0, false), (754, .aload_n 0, 1, 0, 0, 0, false), (755, .iload 4, 2, 4, 0, 0, false), (757, .iconst 1, 1, 2, 0, 0, false), (758, .iadd, 1, 0, 0, 0, false), (759, .iaload, 1, 0, 0, 0, false), (760, .aload_n 0, 1, 0, 0, 0, false), (761, .iload 4, 2, 4, 0, 0, false), (763, .iconst 2, 1, 3, 0, 0, false), (764, .iadd, 1, 0, 0, 0, false), (765, .iaload, 1, 0, 0, 0, false), (766, .aload_n 0, 1, 0, 0, 0, false), (767, .iload 4, 2, 4, 0, 0, false), (769, .iconst 3, 1, 4, 0, 0, false), (770, .iadd, 1, 0, 0, 0, false), (771, .iaload, 1, 0, 0, 0, false), (772, .aload_n 3, 1, 3, 0, 0, false), (773, .invokestatic 197, 3, 212, 5, 8, false), (776, .istore 5, 2, 5, 0, 0, false), (778, .aload_n 2, 1, 2, 0, 0, false), (779, .aload_n 0, 1, 0, 0, 0, false), (780, .iload 4, 2, 4, 0, 0, false), (782, .iconst 1, 1, 2, 0, 0, false), (783, .iadd, 1, 0, 0, 0, false), (784, .iaload, 1, 0, 0, 0, false), (785, .aload_n 0, 1, 0, 0, 0, false), (786, .iload 4, 2, 4, 0, 0, false), (788, .iconst 2, 1, 3, 0, 0, false), (789, .iadd, 1, 0, 0, 0, false), (790, .iaload, 1, 0, 0, 0, false), (791, .aload_n 0, 1, 0, 0, 0, false), (792, .iload 4, 2, 4, 0, 0, false), (794, .iconst 3, 1, 4, 0, 0, false), (795, .iadd, 1, 0, 0, 0, false), (796, .iaload, 1, 0, 0, 0, false), (797, .invokevirtual 200, 3, 122, 3, 20, false), (800, .istore 6, 2, 6, 0, 0, false), (802, .goto 1990, 3, 2792, 0, 0, false)]
def e243_10 : List Ent := [(805, .aload_n 1, 1, 1, 0, 0, false), (806, .aload_n 0, 1, 0, 0, 0, false), (807, .iload 4, 2, 4, 0, 0, false), (809, .iconst 1, 1, 2, 0, 0, false), (810, .iadd, 1, 0, 0, 0, false), (811, .iaload, 1, 0, 0, 0, false), (812, .aload_n 0, 1, 0, 0, 0, false), (813, .iload 4, 2, 4, 0, 0, false), (815, .iconst 2, 1, 3, 0, 0, false), (816, .iadd, 1, 0, 0, 0, false), (817, .iaload, 1, 0, 0, 0, false), (818, .aload_n 0, 1, 0, 0, 0, false), (819, .iload 4, 2, 4, 0, 0, false), (821, .iconst 3, 1, 4, 0, 0, false), (822, .iadd, 1, 0, 0, 0, false), (823, .iaload, 1, 0, 0, 0, false), (824, .aload_n 3, 1, 3, 0, 0, false), (825, .invokestatic 201, 3, 213, 5, 8, false), (828, .istore 5, 2, 5, 0, 0, false), (830, .aload_n 2, 1, 2, 0, 0, false), (831, .aload_n 0, 1, 0, 0, 0, false), (832, .iload 4, 2, 4, 0, 0, false), (834, .iconst 1, 1, 2, 0, 0, false), (835, .iadd, 1, 0, 0, 0, false), (836, .iaload, 1, 0, 0, 0, false), (837, .aload_n 0, 1, 0, 0, 0, false), (838, .iload 4, 2, 4, 0, 0, false), (840, .iconst 2, 1, 3, 0, 0, false), (841, .iadd, 1, 0, 0, 0, false), (842, .iaload, 1, 0, 0, 0, false), (843, .aload_n 0, 1, 0, 0, 0, false), (844, .iload 4, 2, 4, 0, 0, false), (846, .iconst 3, 1, 4, 0, 0, false), (847, .iadd, 1, 0, 0, 0, false), (848, .iaload, 1, 0, 0, 0, false), (849, .invokevirtual 203, 3, 123, 3, 20, false), (852, .istore 6, 2, 6, 0, 0, false), (854, .goto 1938, 3, 2792, 0, 0, false)]
def e243_11 : List Ent := [(857, .aload_n 1, 1, 1, 0, 0, false), (858, .aload_n 0, 1, 0, 0, 0, false), (859, .iload 4, 2, 4, 0, 0, false), (861, .iconst 1, 1, 2, 0, 0, false), (862, .iadd, 1, 0, 0, 0, false), (863, .iaload, 1, 0, 0, 0, false), (864, .ifCond .eq 7, 3, 871, 0, 0, false), (867, .iconst 1, 1, 2, 0, 0, false), (868, .goto 4, 3, 872, 0, 0, false), (871, .iconst 0, 1, 1, 0, 0, false), (872, .aload_n 0, 1, 0, 0, 0, false), (873, .iload 4, 2, 4, 0, 0, false), (875, .iconst 2, 1, 3, 0, 0, false), (876, .iadd, 1, 0, 0, 0, false), (877, .iaload, 1, 0, 0, 0, false), (878, .aload_n 0, 1, 0, 0, 0, false), (879, .iload 4, 2, 4, 0, 0, false), (881, .iconst 3, 1, 4, 0, 0, false), (882, .iadd, 1, 0, 0, 0, false), (883, .iaload, 1, 0, 0, 0, false), (884, .aload_n 0, 1, 0, 0, 0, false), (885, .iload 4, 2, 4, 0, 0, false), (887, .iconst 4, 1, 5, 0, 0, false), (888, .iadd, 1, 0, 0, 0, false), (889, .iaload, 1, 0, 0, 0, false), (890, .aload_n 3, 1, 3, 0, 0, false), (891, .invokestatic 204, 3, 214, 6, 8, false), (894, .istore 5, 2, 5, 0, 0, false), (896, .aload_n 2, 1, 2, 0, 0, false), (897, .aload_n 0, 1, 0, 0, 0, false), (898, .iload 4, 2, 4, 0, 0, false), (900, .iconst 1, 1, 2, 0, 0, false), (901, .iadd, 1, 0, 0, 0, false), (902, .iaload, 1, 0, 0, 0, false), (903, .ifCond .eq 7, 3, 910, 0, 0, false), (906, .iconst 1, 1, 2, 0, 0, false), (907, .goto 4, 3, 911, 0, 0, false), (910, .iconst 0, 1, 1, 0, 0, false), (911, .aload_n 0, 1, 0, 0, 0, false), (912, .iload 4, 2, 4, 0, 0, false), (914, .iconst 2, 1, 3, 0, 0, false), (915, .iadd, 1, 0, 0, 0, false), (916, .iaload, 1, 0, 0, 0, false), (917, .aload_n 0, 1, 0, 0, 0, false), (918, .iload 4, 2, 4, 0, 0, false), (920, .iconst 3, 1, 4, 0, 0, false), (921, .iadd, 1, 0, 0, 0, false), (922, .iaload, 1, 0, 0, 0, false), (923, .aload_n 0, 1, 0, 0, 0, false), (924, .iload 4, 2, 4, 0, 0, false), (926, .iconst 4, 1, 5, 0, 0, false), (927, .iadd, 1, 0, 0, 0, false), (928, .iaload, 1, 0, 0, 0, false), (929, .invokevirtual 206, 3, 124, 4, 20, false), (932, .istore 6, 2, 6, 0, 0, false), (934, .goto 1858, 3, 2792, 0, 0, false)]
def e243_12 : List Ent := [(937, .aload_n 1, 1, 1, 0, 0, false), (938, .aload_n 0, 1, 0, 0, 0, false), (939, .iload 4, 2, 4, 0, 0, false), (941, .iconst 1, 1, 2, 0, 0, false), (942, .iadd, 1, 0, 0, 0, false), (943, .iaload, 1, 0, 0, 0, false), (944, .ifCond .eq 7, 3, 951, 0, 0, false), (947, .iconst 1, 1, 2, 0, 0, false), (948, .goto 4, 3, 952, 0, 0, false), (951, .iconst 0, 1, 1, 0, 0, false), (952, .aload_n 0, 1, 0, 0, 0, false), (953, .iload 4, 2, 4, 0, 0, false), (955, .iconst 2, 1, 3, 0, 0, false), (956, .iadd, 1, 0, 0, 0, false), (957, .iaload, 1, 0, 0, 0, false), (958, .aload_n 3, 1, 3, 0, 0, false), (959, .invokestatic 207, 3, 215, 4, 8, false), (962, .istore 5, 2, 5, 0, 0, false), (964, .aload_n 2, 1, 2, 0, 0, false), (965, .aload_n 0, 1, 0, 0, 0, false), (966, .iload 4, 2, 4, 0, 0, false), (968, .iconst 1, 1, 2, 0, 0, false), (969, .iadd, 1, 0, 0, 0, false), (970, .iaload, 1, 0, 0, 0, false), (971, .ifCond .eq 7, 3, 978, 0, 0, false), (974, .iconst 1, 1, 2, 0, 0, false), (975, .goto 4, 3, 979, 0, 0, false), (978, .iconst 0, 1, 1, 0, 0, false), (979, .aload_n 0, 1, 0, 0, 0, false), (980, .iload 4, 2, 4, 0, 0, false), (982, .iconst 2, 1, 3, 0, 0, false), (983, .iadd, 1, 0, 0, 0, false), (984, .iaload, 1, 0, 0, 0, false), (985, .invokevirtual 210, 3, 125, 2, 20, false), (988, .istore 6, 2, 6, 0, 0, false), (990, .goto 1802, 3, 2792, 0, 0, false)]
def e243_13 : List Ent := [(993, .aload_n 1, 1, 1, 0, 0, false), (994, .aload_n 0, 1, 0, 0, 0, false), (995, .iload 4, 2, 4, 0, 0, false), (997, .iconst 1, 1, 2, 0, 0, false), (998, .iadd, 1, 0, 0, 0, false), (999, .iaload, 1, 0, 0, 0, false), (1000, .ifCond .eq 7, 3, 1007, 0, 0, false), (1003, .iconst 1, 1, 2, 0, 0, false), (1004, .goto 4, 3, 1008, 0, 0, false), (1007, .iconst 0, 1, 1, 0, 0, false), (1008, .aload_n 0, 1, 0, 0, 0, false), (1009, .iload 4, 2, 4, 0, 0, false), (1011, .iconst 2, 1, 3, 0, 0, false), (1012, .iadd, 1, 0, 0, 0, false), (1013, .iaload, 1, 0, 0, 0, false), (1014, .aload_n 0, 1, 0, 0, 0, false), (1015, .iload 4, 2, 4, 0, 0, false), (1017, .iconst 3, 1, 4, 0, 0, false), (1018, .iadd, 1, 0, 0, 0, false), (1019, .iaload, 1, 0, 0, 0, false), (1020, .aload_n 0, 1, 0, 0, 0, false), (1021, .iload 4, 2, 4, 0, 0, false), (1023, .iconst 4, 1, 5, 0, 0, false), (1024, .iadd, 1, 0, 0, 0, false), (1025, .iaload, 1, 0, 0, 0, false), (1026, .ifCond .eq 7, 3, 1033, 0, 0, false), (1029, .iconst 1, 1, 2, 0, 0, false), (1030, .goto 4, 3, 1034, 0, 0, false), (1033, .iconst 0, 1, 1, 0, 0, false), (1034, .aload_n 3, 1, 3, 0, 0, false), (1035, .invokestatic 211, 3, 216, 6, 8, false), (1038, .istore 5, 2, 5, 0, 0, false), (1040, .aload_n 2, 1, 2, 0, 0, false), (1041, .aload_n 0, 1, 0, 0, 0, false), (1042, .iload 4, 2, 4, 0, 0, false), (1044, .iconst 1, 1, 2, 0, 0, false), (1045, .iadd, 1, 0, 0, 0, false), (1046, .iaload, 1, 0, 0, 0, false), (1047, .ifCond .eq 7, 3, 1054, 0, 0, false), (1050, .iconst 1, 1, 2, 0, 0, false), (1051, .goto 4, 3, 1055, 0, 0, false), (1054, .iconst 0, 1, 1, 0, 0, false), (1055, .aload_n 0, 1, 0, 0, 0, false), (1056, .iload 4, 2, 4, 0, 0, false), (1058, .iconst 2, 1, 3, 0, 0, false), (1059, .iadd, 1, 0, 0, 0, false), (1060, .iaload, 1, 0, 0, 0, false), (1061, .aload_n 0, 1, 0, 0, 0, false), (1062, .iload 4, 2, 4, 0, 0, false), (1064, .iconst 3, 1, 4, 0, 0, false), (1065, .iadd, 1, 0, 0, 0, false), (1066, .iaload, 1, 0, 0, 0, false), (1067, .aload_n 0, 1, 0, 0, 0, false), (1068, .iload 4, 2, 4, 0, 0, false), (1070, .iconst 4, 1, 5, 0, 0, false), (1071, .iadd, 1, 0, 0, 0, false), (1072, .iaload, 1, 0, 0, 0, false), (1073, .ifCond .eq 7, 3, 1080, 0, 0, false), (1076, .iconst 1, 1, 2, 0, 0, false), (1077, .goto 4, 3, 1081, 0, 0, false), (1080, .iconst 0, 1, 1, 0, 0, false), (1081, .invokevirtual 214, 3, 126, 4, 20, false), (1084, .istore 6, 2, 6, 0, 0, false), (1086, .goto 1706, 3, 2792, 0, 0, false)]
def e243_14 : List Ent := [(1089, .aload_n 1, 1, 1, 0, 0, false), (1090, .aload_n 0, 1, 0, 0, 0, false), (1091, .iload 4, 2, 4, 0, 0, false), (1093, .iconst 1, 1, 2, 0, 0, false), (1094, .iadd, 1, 0, 0, 0, false), (1095, .iaload, 1, 0, 0, 0, false), (1096, .ifCond .eq 7, 3, 1103, 0, 0, false), (1099, .iconst 1, 1, 2, 0, 0, false), (1100, .goto 4, 3, 1104, 0, 0, false), (1103, .iconst 0, 1, 1, 0, 0, false), (1104, .aload_n 0, 1, 0, 0, 0, false), (1105, .iload 4, 2, 4, 0, 0, false), (1107, .iconst 2, 1, 3, 0, 0, false), (1108, .iadd, 1, 0, 0, 0, false), (1109, .iaload, 1, 0, 0, 0, false), (1110, .aload_n 0, 1, 0, 0, 0, false), (1111, .iload 4, 2, 4, 0, 0, false), (1113, .iconst 3, 1, 4, 0, 0, false), (1114, .iadd, 1, 0, 0, 0, false), (1115, .iaload, 1, 0, 0, 0, false), (1116, .aload_n 0, 1, 0, 0, 0, false), (1117, .iload 4, 2, 4, 0, 0, false), (1119, .iconst 4, 1, 5, 0, 0, false), (1120, .iadd, 1, 0, 0, 0, false), (1121, .iaload, 1, 0, 0, 0, false), (1122, .ifCond .eq 7, 3, 1129, 0, 0, false), (1125, .iconst 1, 1, 2, 0, 0, false), (1126, .goto 4, 3, 1130, 0, 0, false), (1129, .iconst 0, 1, 1, 0, 0, false), (1130, .aload_n 3, 1, 3, 0, 0, false), (1131, .invokestatic 215, 3, 217, 6, 8, false), (1134, .istore 5, 2, 5, 0, 0, false), (1136, .aload_n 2, 1, 2, 0, 0, false), (1137, .aload_n 0, 1, 0, 0, 0, false), (1138, .iload 4, 2, 4, 0, 0, false), (1140, .iconst 1, 1, 2, 0, 0, false), (1141, .iadd, 1, 0, 0, 0, false), (1142, .iaload, 1, 0, 0, 0, false), (1143, .ifCond .eq 7, 3, 1150, 0, 0, false), (1146, .iconst 1, 1, 2, 0, 0, false), (1147, .goto 4, 3, 1151, 0, 0, false), (1150, .iconst 0, 1, 1, 0, 0, false), (1151, .aload_n 0, 1, 0, 0, 0, false), (1152, .iload 4, 2, 4, 0, 0, false), (1154, .iconst 2, 1, 3, 0, 0, false), (1155, .iadd, 1, 0, 0, 0, false), (1156, .iaload, 1, 0, 0, 0, false), (1157, .aload_n 0, 1, 0, 0, 0, false), (1158, .iload 4, 2, 4, 0, 0, false), (1160, .iconst 3, 1, 4, 0, 0, false), (1161, .iadd, 1, 0, 0, 0, false), (1162, .iaload, 1, 0, 0, 0, false), (1163, .aload_n 0, 1, 0, 0, 0, false), (1164, .iload 4, 2, 4, 0, 0, false), (1166, .iconst 4, 1, 5, 0, 0, false), (1167, .iadd, 1, 0, 0, 0, false), (1168, .iaload, 1, 0, 0, 0, false), (1169, .ifCond .eq 7, 3, 1176, 0, 0, false), (1172, .iconst 1, 1, 2, 0, 0, false), (1173, .goto 4, 3, 1177, 0, 0, false), (1176, .iconst 0, 1, 1, 0, 0, false), (1177, .invokevirtual 217, 3, 127, 4, 20, false), (1180, .istore 6, 2, 6, 0, 0, false), (1182, .goto 1610, 3, 2792, 0, 0, false)]
def e243_15 : List Ent := [(1185, .aload_n 1, 1, 1, 0, 0, false), (1186, .aload_n 0, 1, 0, 0, 0, false), (1187, .iload 4, 2, 4, 0, 0, false), (1189, .iconst 1, 1, 2, 0, 0, false), (1190, .iadd, 1, 0, 0, 0, false), (1191, .iaload, 1, 0, 0, 0, false), (1192, .aload_n 0, 1, 0, 0, 0, false), (1193, .iload 4, 2, 4, 0, 0, false), (1195, .iconst 2, 1, 3, 0, 0, false), (1196, .iadd, 1, 0, 0, 0, false), (1197, .iaload, 1, 0, 0, 0, false), (1198, .aload_n 0, 1, 0, 0, 0, false), (1199, .iload 4, 2, 4, 0, 0, false), (1201, .iconst 3, 1, 4, 0, 0, false), (1202, .iadd, 1, 0, 0, 0, false), (1203, .iaload, 1, 0, 0, 0, false), (1204, .ifCond .eq 7, 3, 1211, 0, 0, false), (1207, .iconst 1, 1, 2, 0, 0, false), (1208, .goto 4, 3, 1212, 0, 0, false), (1211, .iconst 0, 1, 1, 0, 0, false), (1212, .aload_n 3, 1, 3, 0, 0, false), (1213, .invokestatic 218, 3, 218, 5, 8, false), (1216, .istore 5, 2, 5, 0, 0, false), (1218, .aload_n 2, 1, 2, 0, 0, false), (1219, .aload_n 0, 1, 0, 0, 0, false), (1220, .iload 4, 2, 4, 0, 0, false), (1222, .iconst 1, 1, 2, 0, 0, false), (1223, .iadd, 1, 0, 0, 0, false), (1224, .iaload, 1, 0, 0, 0, false), (1225, .aload_n 0, 1, 0, 0, 0, false), (1226, .iload 4, 2, 4, 0, 0, false), (1228, .iconst 2, 1, 3, 0, 0, false), (1229, .iadd, 1, 0, 0, 0, false), (1230, .iaload, 1, 0, 0, 0, false), (1231, .aload_n 0, 1, 0, 0, 0, false), (1232, .iload 4, 2, 4, 0, 0, false), (1234, .iconst 3, 1, 4, 0, 0, false), (1235, .iadd, 1, 0, 0, 0, false), (1236, .iaload, 1, 0, 0, 0, false), (1237, .ifCond .eq 7, 3, 1244, 0, 0, false), (1240, .iconst 1, 1, 2, 0, 0, false), (1241, .goto 4, 3, 1245, 0, 0, false), (1244, .iconst 0, 1, 1, 0, 0, false), (1245, .invokevirtual 221, 3, 128, 3, 20, false), (1248, .istore 6, 2, 6, 0, 0, false), (1250, .goto 1542, 3, 2792, 0, 0, false)]
def e243_16 : List Ent := [(1253, .aload_n 1, 1, 1, 0, 0, false), (1254, .aload_n 0, 1, 0, 0, 0, false), (1255, .iload 4, 2, 4, 0, 0, false), (1257, .iconst 1, 1, 2, 0, 0, false), (1258, .iadd, 1, 0, 0, 0, false), (1259, .iaload, 1, 0, 0, 0, false), (1260, .ifCond .eq 7, 3, 1267, 0, 0, false), (1263, .iconst 1, 1, 2, 0, 0, false), (1264, .goto 4, 3, 1268, 0, 0, false), (1267, .iconst 0, 1, 1, 0, 0, false), (1268, .aload_n 0, 1, 0, 0, 0, false), (1269, .iload 4, 2, 4, 0, 0, false), (1271, .iconst 2, 1, 3, 0, 0, false), (1272, .iadd, 1, 0, 0, 0, false), (1273, .iaload, 1, 0, 0, 0, false), (1274, .aload_n 0, 1, 0, 0, 0, false), (1275, .iload 4, 2, 4, 0, 0, false), (1277, .iconst 3, 1, 4, 0, 0, false), (1278, .iadd, 1, 0, 0, 0, false), (1279, .iaload, 1, 0, 0, 0, false), (1280, .aload_n 0, 1, 0, 0, 0, false), (1281, .iload 4, 2, 4, 0, 0, false), (1283, .iconst 4, 1, 5, 0, 0, false), (1284, .iadd, 1, 0, 0, 0, false), (1285, .iaload, 1, 0, 0, 0, false), (1286, .ifCond .eq 7, 3, 1293, 0, 0, false), (1289, .iconst 1, 1, 2, 0, 0, false), (1290, .goto 4, 3, 1294, 0, 0, false), (1293, .iconst 0, 1, 1, 0, 0, false), (1294, .aload_n 3, 1, 3, 0, 0, false), (1295, .invokestatic 222, 3, 219, 6, 8, false), (1298, .istore 5, 2, 5, 0, 0, false), (1300, .aload_n 2, 1, 2, 0, 0, false), (1301, .aload_n 0, 1, 0, 0, 0, false), (1302, .iload 4, 2, 4, 0, 0, false), (1304, .iconst 1, 1, 2, 0, 0, false), (1305, .iadd, 1, 0, 0, 0, false), (1306, .iaload, 1, 0, 0, 0, false), (1307, .ifCond .eq 7, 3, 1314, 0, 0, false), (1310, .iconst 1, 1, 2, 0, 0, false), (1311, .goto 4, 3, 1315, 0, 0, false), (1314, .iconst 0, 1, 1, 0, 0, false), (1315, .aload_n 0, 1, 0, 0, 0, false), (1316, .iload 4, 2, 4, 0, 0, false), (1318, .iconst 2, 1, 3, 0, 0, false), (1319, .iadd, 1, 0, 0, 0, false), (1320, .iaload, 1, 0, 0, 0, false), (1321, .aload_n 0, 1, 0, 0, 0, false), (1322, .iload 4, 2, 4, 0, 0, false), (1324, .iconst 3, 1, 4, 0, 0, false), (1325, .iadd, 1, 0, 0, 0, false), (1326, .iaload, 1, 0, 0, 0, false), (1327, .aload_n 0, 1, 0, 0, 0, false), (1328, .iload 4, 2, 4, 0, 0, false), (1330, .iconst 4, 1, 5, 0, 0, false), (1331, .iadd, 1, 0, 0, 0, false), (1332, .iaload, 1, 0, 0, 0, false), (1333, .ifCond .eq 7, 3, 1340, 0, 0, false), (1336, .iconst 1, 1, 2, 0, 0, false), (1337, .goto 4, 3, 1341, 0, 0, false), (1340, .iconst 0, 1, 1, 0, 0, false), (1341, .invokevirtual 224, 3, 129, 4, 20, false), (1344, .istore 6, 2, 6, 0, 0, false), (1346, .goto 1446, 3, 2792, 0, 0, false)]
def e243_17 : List Ent := [(1349, .aload_n 1, 1, 1, 0, 0, false), (1350, .aload_n 0, 1, 0, 0, 0, false), (1351, .iload 4, 2, 4, 0, 0, false), (1353, .iconst 1, 1, 2, 0, 0, false), (1354, .iadd, 1, 0, 0, 0, false), (1355, .iaload, 1, 0, 0, 0, false), (1356, .ifCond .eq 7, 3, 1363, 0, 0, false), (1359, .iconst 1, 1, 2, 0, 0, false), (1360, .goto 4, 3, 1364, 0, 0, false), (1363, .iconst 0, 1, 1, 0, 0, false), (1364, .aload_n 0, 1, 0, 0, 0, false), (1365, .iload 4, 2, 4, 0, 0, false), (1367, .iconst 2, 1, 3, 0, 0, false), (1368, .iadd, 1, 0, 0, 0, false), (1369, .iaload, 1, 0, 0, 0, false), (1370, .aload_n 0, 1, 0, 0, 0, false), (1371, .iload 4, 2, 4, 0, 0, false), (1373, .iconst 3, 1, 4, 0, 0, false), (1374, .iadd, 1, 0, 0, 0, false), (1375, .iaload, 1, 0, 0, 0, false), (1376, .aload_n 0, 1, 0, 0, 0, false), (1377, .iload 4, 2, 4, 0, 0, false), (1379, .iconst 4, 1, 5, 0, 0, false), (1380, .iadd, 1, 0, 0, 0, false), (1381, .iaload, 1, 0, 0, 0, false), (1382, .ifCond .eq 7, 3, 1389, 0, 0, false), (1385, .iconst 1, 1, 2, 0, 0, false), (1386, .goto 4, 3, 1390, 0, 0, false), (1389, .iconst 0, 1, 1, 0, 0, false), (1390, .aload_n 3, 1, 3, 0, 0, false), (1391, .invokestatic 225, 3, 220, 6, 8, false), (1394, .istore 5, 2, 5, 0, 0, false), (1396, .aload_n 2, 1, 2, 0, 0, false), (1397, .aload_n 0, 1, 0, 0, 0, false), (1398, .iload 4, 2, 4, 0, 0, false), (1400, .iconst 1, 1, 2, 0, 0, false), (1401, .iadd, 1, 0, 0, 0, false), (1402, .iaload, 1, 0, 0, 0, false), (1403, .ifCond .eq 7, 3, 1410, 0, 0, false), (1406, .iconst 1, 1, 2, 0, 0, false), (1407, .goto 4, 3, 1411, 0, 0, false), (1410, .iconst 0, 1, 1, 0, 0, false), (1411, .aload_n 0, 1, 0, 0, 0, false), (1412, .iload 4, 2, 4, 0, 0, false), (1414, .iconst 2, 1, 3, 0, 0, false), (1415, .iadd, 1, 0, 0, 0, false), (1416, .iaload, 1, 0, 0, 0, false), (1417, .aload_n 0, 1, 0, 0, 0, false), (1418, .iload 4, 2, 4, 0, 0, false), (1420, .iconst 3, 1, 4, 0, 0, false), (1421, .iadd, 1, 0, 0, 0, false), (1422, .iaload, 1, 0, 0, 0, false), (1423, .aload_n 0, 1, 0, 0, 0, false), (1424, .iload 4, 2, 4, 0, 0, false), (1426, .iconst 4, 1, 5, 0, 0, false), (1427, .iadd, 1, 0, 0, 0, false), (1428, .iaload, 1, 0, 0, 0, false), (1429, .ifCond .eq 7, 3, 1436, 0, 0, false), (1432, .iconst 1, 1, 2, 0, 0, false), (1433, .goto 4, 3, 1437, 0, 0, false), (1436, .iconst 0, 1, 1, 0, 0, false), (1437, .invokevirtual 227, 3, 130, 4, 20, false), (1440, .istore 6, 2, 6, 0, 0, false), (1442, .goto 1350, 3, 2792, 0, 0, false)]
def e243_18 : List Ent := [(1445, .aload_n 1, 1, 1, 0, 0, false), (1446, .aload_n 0, 1, 0, 0, 0, false), (1447, .iload 4, 2, 4, 0, 0, false), (1449, .iconst 1, 1, 2, 0, 0, false), (1450, .iadd, 1, 0, 0, 0, false), (1451, .iaload, 1, 0, 0, 0, false), (1452, .aload_n 0, 1, 0, 0, 0, false), (1453, .iload 4, 2, 4, 0, 0, false), (1455, .iconst 2, 1, 3, 0, 0, false), (1456, .iadd, 1, 0, 0, 0, false), (1457, .iaload, 1, 0, 0, 0, false), (1458, .aload_n 0, 1, 0, 0, 0, false), (1459, .iload 4, 2, 4, 0, 0, false), (1461, .iconst 3, 1, 4, 0, 0, false), (1462, .iadd, 1, 0, 0, 0, false), (1463, .iaload, 1, 0, 0, 0, false), (1464, .aload_n 0, 1, 0, 0, 0, false), (1465, .iload 4, 2, 4, 0, 0, false), (1467, .iconst 4, 1, 5, 0, 0, false), (1468, .iadd, 1, 0, 0, 0, false), (1469, .iaload, 1, 0, 0, 0, false), (1470, .aload_n 3, 1, 3, 0, 0, false), (1471, .invokestatic 228, 3, 221, 6, 8, false), (1474, .istore 5, 2, 5, 0, 0, false), (1476, .aload_n 2, 1, 2, 0, 0, false), (1477, .aload_n 0, 1, 0, 0, 0, false), (1478, .iload 4, 2, 4, 0, 0, false), (1480, .iconst 1, 1, 2, 0, 0, false), (1481, .iadd, 1, 0, 0, 0, false), (1482, .iaload, 1, 0, 0, 0, false), (1483, .aload_n 0, 1, 0, 0, 0, false), (1484, .iload 4, 2, 4, 0, 0, false), (1486, .iconst 2, 1, 3, 0, 0, false), (1487, .iadd, 1, 0, 0, 0, false), (1488, .iaload, 1, 0, 0, 0, false), (1489, .aload_n 0, 1, 0, 0, 0, false), (1490, .iload 4, 2, 4, 0, 0, false), (1492, .iconst 3, 1, 4, 0, 0, false), (1493, .iadd, 1, 0, 0, 0, false), (1494, .iaload, 1, 0, 0, 0, false), (1495, .aload_n 0, 1, 0, 0, 0, false), (1496, .iload 4, 2, 4, 0, 0, false), (1498, .iconst 4, 1, 5, 0, 0, false), (1499, .iadd, 1, 0, 0, 0, false), (1500, .iaload, 1, 0, 0, 0, false), (1501, .invokevirtual 231, 3, 132, 4, 20, false), (1504, .istore 6, 2, 6, 0, 0, false), (1506, .goto 1286, 3, 2792, 0, 0, false)]
def e243_19 : List Ent := [(1509, .aload_n 1, 1, 1, 0, 0, false), (1510, .aload_n 0, 1, 0, 0, 0, false), (1511, .iload 4, 2, 4, 0, 0, false), (1513, .iconst 1, 1, 2, 0, 0, false), (1514, .iadd, 1, 0, 0, 0, false), (1515, .iaload, 1, 0, 0, 0, false), (1516, .aload_n 0, 1, 0, 0, 0, false), (1517, .iload 4, 2, 4, 0, 0, false), (1519, .iconst 2, 1, 3, 0, 0, false), (1520, .iadd, 1, 0, 0, 0, false), (1521, .iaload, 1, 0, 0, 0, false), (1522, .aload_n 0, 1, 0, 0, 0, false), (1523, .iload 4, 2, 4, 0, 0, false), (1525, .iconst 3, 1, 4, 0, 0, false), (1526, .iadd, 1, 0, 0, 0, false), (1527, .iaload, 1, 0, 0, 0, false), (1528, .aload_n 0, 1, 0, 0, 0, false), (1529, .iload 4, 2, 4, 0, 0, false), (1531, .iconst 4, 1, 5, 0, 0, false), (1532, .iadd, 1, 0, 0, 0, false), (1533, .iaload, 1, 0, 0, 0, false), (1534, .aload_n 3, 1, 3, 0, 0, false), (1535, .invokestatic 232, 3, 222, 6, 8, false), (1538, .istore 5, 2, 5, 0, 0, false), (1540, .aload_n 2, 1, 2, 0, 0, false), (1541, .aload_n 0, 1, 0, 0, 0, false), (1542, .iload 4, 2, 4, 0, 0, false), (1544, .iconst 1, 1, 2, 0, 0, false), (1545, .iadd, 1, 0, 0, 0, false), (1546, .iaload, 1, 0, 0, 0, false), (1547, .aload_n 0, 1, 0, 0, 0, false), (1548, .iload 4, 2, 4, 0, 0, false), (1550, .iconst 2, 1, 3, 0, 0, false), (1551, .iadd, 1, 0, 0, 0, false), (1552, .iaload, 1, 0, 0, 0, false), (1553, .aload_n 0, 1, 0, 0, 0, false), (1554, .iload 4, 2, 4, 0, 0, false), (1556, .iconst 3, 1, 4, 0, 0, false), (1557, .iadd, 1, 0, 0, 0, false), (1558, .iaload, 1, 0, 0, 0, false), (1559, .aload_n 0, 1, 0, 0, 0, false), (1560, .iload 4, 2, 4, 0, 0, false), (1562, .iconst 4, 1, 5, 0, 0, false), (1563, .iadd, 1, 0, 0, 0, false), (1564, .iaload, 1, 0, 0, 0, false), (1565, .invokevirtual 234, 3, 133, 4, 20, false), (1568, .istore 6, 2, 6, 0, 0, false), (1570, .goto 1222, 3, 2792, 0, 0, false)]
def e243_20 : List Ent := [(1573, .aload_n 1, 1, 1, 0, 0, false), (1574, .aload_n 0, 1, 0, 0, 0, false), (1575, .iload 4, 2, 4, 0, 0, false), (1577, .iconst 1, 1, 2, 0, 0, false), (1578, .iadd, 1, 0, 0, 0, false), (1579, .iaload, 1, 0, 0, 0, false), (1580, .ifCond .eq 7, 3, 1587, 0, 0, false), (1583, .iconst 1, 1, 2, 0, 0, false), (1584, .goto 4, 3, 1588, 0, 0, false), (1587, .iconst 0, 1, 1, 0, 0, false), (1588, .aload_n 0, 1, 0, 0, 0, false), (1589, .iload 4, 2, 4, 0, 0, false), (1591, .iconst 2, 1, 3, 0, 0, false), (1592, .iadd, 1, 0, 0, 0, false), (1593, .iaload, 1, 0, 0, 0, false), (1594, .aload_n 0, 1, 0, 0, 0, false), (1595, .iload 4, 2, 4, 0, 0, false), (1597, .iconst 3, 1, 4, 0, 0, false), (1598, .iadd, 1, 0, 0, 0, false), (1599, .iaload, 1, 0, 0, 0, false), (1600, .aload_n 3, 1, 3, 0, 0, false), (1601, .invokestatic 235, 3, 223, 5, 8, false), (1604, .istore 5, 2, 5, 0, 0, false), (1606, .aload_n 2, 1, 2, 0, 0, false), (1607, .aload_n 0, 1, 0, 0, 0, false), (1608, .iload 4, 2, 4, 0, 0, false), (1610, .iconst 1, 1, 2, 0, 0, false), (1611, .iadd, 1, 0, 0, 0, false), (1612, .iaload, 1, 0, 0, 0, false), (1613, .ifCond .eq 7, 3, 1620, 0, 0, false), (1616, .iconst 1, 1, 2, 0, 0, false), (1617, .goto 4, 3, 1621, 0, 0, false), (1620, .iconst 0, 1, 1, 0, 0, false), (1621, .aload_n 0, 1, 0, 0, 0, false), (1622, .iload 4, 2, 4, 0, 0, false), (1624, .iconst 2, 1, 3, 0, 0, false), (1625, .iadd, 1, 0, 0, 0, false), (1626, .iaload, 1, 0, 0, 0, false), (1627, .aload_n 0, 1, 0, 0, 0, false), (1628, .iload 4, 2, 4, 0, 0, false), (1630, .iconst 3, 1, 4, 0, 0, false), (1631, .iadd, 1, 0, 0, 0, false), (1632, .iaload, 1, 0, 0, 0, false), (1633, .invokevirtual 237, 3, 135, 3, 20, false), (1636, .astore 6, 2, 6, 0, 0, false), (1638, .goto 1154, 3, 2792, 0, 0, false)]
def e243_21 : List Ent := [(1641, .aload_n 1, 1, 1, 0, 0, false), (1642, .aload_n 0, 1, 0, 0, 0, false), (1643, .iload 4, 2, 4, 0, 0, false), (1645, .iconst 1, 1, 2, 0, 0, false), (1646, .iadd, 1, 0, 0, 0, false), (1647, .iaload, 1, 0, 0, 0, false), (1648, .ifCond .eq 7, 3, 1655, 0, 0, false), (1651, .iconst 1, 1, 2, 0, 0, false), (1652, .goto 4, 3, 1656, 0, 0, false), (1655, .iconst 0, 1, 1, 0, 0, false), (1656, .aload_n 0, 1, 0, 0, 0, false), (1657, .iload 4, 2, 4, 0, 0, false), (1659, .iconst 2, 1, 3, 0, 0, false), (1660, .iadd, 1, 0, 0, 0, false), (1661, .iaload, 1, 0, 0, 0, false), (1662, .aload_n 0, 1, 0, 0, 0, false), (1663, .iload 4, 2, 4, 0, 0, false), (1665, .iconst 3, 1, 4, 0, 0, false), (1666, .iadd, 1, 0, 0, 0, false), (1667, .iaload, 1, 0, 0, 0, false), (1668, .aload_n 3, 1, 3, 0, 0, false), (1669, .invokestatic 238, 3, 224, 5, 8, false), (1672, .istore 5, 2, 5, 0, 0, false), (1674, .aload_n 2, 1, 2, 0, 0, false), (1675, .aload_n 0, 1, 0, 0, 0, false), (1676, .iload 4, 2, 4, 0, 0, false), (1678, .iconst 1, 1, 2, 0, 0, false), (1679, .iadd, 1, 0, 0, 0, false), (1680, .iaload, 1, 0, 0, 0, false), (1681, .ifCond .eq 7, 3, 1688, 0, 0, false), (1684, .iconst 1, 1, 2, 0, 0, false), (1685, .goto 4, 3, 1689, 0, 0, false), (1688, .iconst 0, 1, 1, 0, 0, false), (1689, .aload_n 0, 1, 0, 0, 0, false), (1690, .iload 4, 2, 4, 0, 0, false), (1692, .iconst 2, 1, 3, 0, 0, false), (1693, .iadd, 1, 0, 0, 0, false), (1694, .iaload, 1, 0, 0, 0, false), (1695, .aload_n 0, 1, 0, 0, 0, false), (1696, .iload 4, 2, 4, 0, 0, false), (1698, .iconst 3, 1, 4, 0, 0, false), (1699, .iadd, 1, 0, 0, 0, false), (1700, .iaload, 1, 0, 0, 0, false), (1701, .invokevirtual 240, 3, 136, 3, 20, false), (1704, .istore 6, 2, 6, 0, 0, false), (1706, .goto 1086, 3, 2792, 0, 0, false)]
def e243_22 : List Ent := [(1709, .aload_n 1, 1, 1, 0, 0, false), (1710, .aload_n 0, 1, 0, 0, 0, false), (1711, .iload 4, 2, 4, 0, 0, false), (1713, .iconst 1, 1, 2, 0, 0, false), (1714, .iadd, 1, 0, 0, 0, false), (1715, .iaload, 1, 0, 0, 0, false), (1716, .ifCond .eq 7, 3, 1723, 0, 0, false), (1719, .iconst 1, 1, 2, 0, 0, false), (1720, .goto 4, 3, 1724, 0, 0, false), (1723, .iconst 0, 1, 1, 0, 0, false), (1724, .aload_n 0, 1, 0, 0, 0, false), (1725, .iload 4, 2, 4, 0, 0, false), (1727, .iconst 2, 1, 3, 0, 0, false), (1728, .iadd, 1, 0, 0, 0, false), (1729, .iaload, 1, 0, 0, 0, false), (1730, .aload_n 3, 1, 3, 0, 0, false), (1731, .invokestatic 241, 3, 225, 4, 8, false), (1734, .istore 5, 2, 5, 0, 0, false), (1736, .aload_n 2, 1, 2, 0, 0, false), (1737, .aload_n 0, 1, 0, 0, 0, false), (1738, .iload 4, 2, 4, 0, 0, false), (1740, .iconst 1, 1, 2, 0, 0, false), (1741, .iadd, 1, 0, 0, 0, false), (1742, .iaload, 1, 0, 0, 0, false), (1743, .ifCond .eq 7, 3, 1750, 0, 0, false), (1746, .iconst 1, 1, 2, 0, 0, false), (1747, .goto 4, 3, 1751, 0, 0, false), (1750, .iconst 0, 1, 1, 0, 0, false), (1751, .aload_n 0, 1, 0, 0, 0, false), (1752, .iload 4, 2, 4, 0, 0, false), (1754, .iconst 2, 1, 3, 0, 0, false), (1755, .iadd, 1, 0, 0, 0, false), (1756, .iaload, 1, 0, 0, 0, false), (1757, .invokevirtual 243, 3, 137, 2, 20, false), (1760, .astore 6, 2, 6, 0, 0, false), (1762, .goto 1030, 3, 2792, 0, 0, false)]
def e243_23 : List Ent := [(1765, .aload_n 1, 1, 1, 0, 0, false), (1766, .aload_n 0, 1, 0, 0, 0, false), (1767, .iload 4, 2, 4, 0, 0, false), (1769, .iconst 1, 1, 2, 0, 0, false), (1770, .iadd, 1, 0, 0, 0, false), (1771, .iaload, 1, 0, 0, 0, false), (1772, .ifCond .eq 7, 3, 1779, 0, 0, false), (1775, .iconst 1, 1, 2, 0, 0, false), (1776, .goto 4, 3, 1780, 0, 0, false), (1779, .iconst 0, 1, 1, 0, 0, false), (1780, .aload_n 0, 1, 0, 0, 0, false), (1781, .iload 4, 2, 4, 0, 0, false), (1783, .iconst 2, 1, 3, 0, 0, false), (1784, .iadd, 1, 0, 0, 0, false), (1785, .iaload, 1, 0, 0, 0, false), (1786, .aload_n 0, 1, 0, 0, 0, false), (1787, .iload 4, 2, 4, 0, 0, false), (1789, .iconst 3, 1, 4, 0, 0, false), (1790, .iadd, 1, 0, 0, 0, false), (1791, .iaload, 1, 0, 0, 0, false), (1792, .aload_n 3, 1, 3, 0, 0, false), (1793, .invokestatic 244, 3, 226, 5, 8, false), (1796, .istore 5, 2, 5, 0, 0, false), (1798, .aload_n 2, 1, 2, 0, 0, false), (1799, .aload_n 0, 1, 0, 0, 0, false), (1800, .iload 4, 2, 4, 0, 0, false), (1802, .iconst 1, 1, 2, 0, 0, false), (1803, .iadd, 1, 0, 0, 0, false), (1804, .iaload, 1, 0, 0, 0, false), (1805, .ifCond .eq 7, 3, 1812, 0, 0, false), (1808, .iconst 1, 1, 2, 0, 0, false), (1809, .goto 4, 3, 1813, 0, 0, false), (1812, .iconst 0, 1, 1, 0, 0, false), (1813, .aload_n 0, 1, 0, 0, 0, false), (1814, .iload 4, 2, 4, 0, 0, false), (1816, .iconst 2, 1, 3, 0, 0, false), (1817, .iadd, 1, 0, 0, 0, false), (1818, .iaload, 1, 0, 0, 0, false), (1819, .aload_n 0, 1, 0, 0, 0, false), (1820, .iload 4, 2, 4, 0, 0, false), (1822, .iconst 3, 1, 4, 0, 0, false), (1823, .iadd, 1, 0, 0, 0, false), (1824, .iaload, 1, 0, 0, 0, false), (1825, .invokevirtual 246, 3, 139, 3, 20, false), (1828, .istore 6, 2, 6, 0, 0, false), (1830, .goto 962, 3, 2792, 0, 0, false)]
def e243_24 : List Ent := [(1833, .aload_n 1, 1, 1, 0, 0, false), (1834, .aload_n 0, 1, 0, 0, 0, false), (1835, .iload 4, 2, 4, 0, 0, false), (1837, .iconst 1, 1, 2, 0, 0, false), (1838, .iadd, 1, 0, 0, 0, false), (1839, .iaload, 1, 0, 0, 0, false), (1840, .ifCond .eq 7, 3, 1847, 0, 0, false), (1843, .iconst 1, 1, 2, 0, 0, false), (1844, .goto 4, 3, 1848, 0, 0, false), (1847, .iconst 0, 1, 1, 0, 0, false), (1848, .aload_n 0, 1, 0, 0, 0, false), (1849, .iload 4, 2, 4, 0, 0, false), (1851, .iconst 2, 1, 3, 0, 0, false), (1852, .iadd, 1, 0, 0, 0, false), (1853, .iaload, 1, 0, 0, 0, false), (1854, .aload_n 0, 1, 0, 0, 0, false), (1855, .iload 4, 2, 4, 0, 0, false), (1857, .iconst 3, 1, 4, 0, 0, false), (1858, .iadd, 1, 0, 0, 0, false), (1859, .iaload, 1, 0, 0, 0, false), (1860, .aload_n 3, 1, 3, 0, 0, false), (1861, .invokestatic 247, 3, 227, 5, 8, false), (1864, .istore 5, 2, 5, 0, 0, false), (1866, .aload_n 2, 1, 2, 0, 0, false), (1867, .aload_n 0, 1, 0, 0, 0, false), (1868, .iload 4, 2, 4, 0, 0, false), (1870, .iconst 1, 1, 2, 0, 0, false), (1871, .iadd, 1, 0, 0, 0, false), (1872, .iaload, 1, 0, 0, 0, false), (1873, .ifCond .eq 7, 3, 1880, 0, 0, false), (1876, .iconst 1, 1, 2, 0, 0, false), (1877, .goto 4, 3, 1881, 0, 0, false), (1880, .iconst 0, 1, 1, 0, 0, false), (1881, .aload_n 0, 1, 0, 0, 0, false), (1882, .iload 4, 2, 4, 0, 0, false), (1884, .iconst 2, 1, 3, 0, 0, false), (1885, .iadd, 1, 0, 0, 0, false), (1886, .iaload, 1, 0, 0, 0, false), (1887, .aload_n 0, 1, 0, 0, 0, false), (1888, .iload 4, 2, 4, 0, 0, false), (1890, .iconst 3, 1, 4, 0, 0, false), (1891, .iadd, 1, 0, 0, 0, false), (1892, .iaload, 1, 0, 0, 0, false), (1893, .invokevirtual 249, 3, 140, 3, 20, false), (1896, .istore 6, 2, 6, 0, 0, false), (1898, .goto 894, 3, 2792, 0, 0, false)]
def e243_25 : List Ent := [(1901, .aload_n 1, 1, 1, 0, 0, false), (1902, .aload_n 0, 1, 0, 0, 0, false), (1903, .iload 4, 2, 4, 0, 0, false), (1905, .iconst 1, 1, 2, 0, 0, false), (1906, .iadd, 1, 0, 0, 0, false), (1907, .iaload, 1, 0, 0, 0, false), (1908, .ifCond .eq 7, 3, 1915, 0, 0, false), (1911, .iconst 1, 1, 2, 0, 0, false), (1912, .goto 4, 3, 1916, 0, 0, false), (1915, .iconst 0, 1, 1, 0, 0, false), (1916, .aload_n 0, 1, 0, 0, 0, false), (1917, .iload 4, 2, 4, 0, 0, false), (1919, .iconst 2, 1, 3, 0, 0, false), (1920, .iadd, 1, 0, 0, 0, false), (1921, .iaload, 1, 0, 0, 0, false), (1922, .aload_n 0, 1, 0, 0, 0, false), (1923, .iload 4, 2, 4, 0, 0, false), (1925, .iconst 3, 1, 4, 0, 0, false), (1926, .iadd, 1, 0, 0, 0, false), (1927, .iaload, 1, 0, 0, 0, false), (1928, .aload_n 3, 1, 3, 0, 0, false), (1929, .invokestatic 250, 3, 228, 5, 8, false), (1932, .istore 5, 2, 5, 0, 0, false), (1934, .aload_n 2, 1, 2, 0, 0, false), (1935, .aload_n 0, 1, 0, 0, 0, false), (1936, .iload 4, 2, 4, 0, 0, false), (1938, .iconst 1, 1, 2, 0, 0, false), (1939, .iadd, 1, 0, 0, 0, false), (1940, .iaload, 1, 0, 0, 0, false), (1941, .ifCond .eq 7, 3, 1948, 0, 0, false), (1944, .iconst 1, 1, 2, 0, 0, false), (1945, .goto 4, 3, 1949, 0, 0, false), (1948, .iconst 0, 1, 1, 0, 0, false), (1949, .aload_n 0, 1, 0, 0, 0, false), (1950, .iload 4, 2, 4, 0, 0, false), (1952, .iconst 2, 1, 3, 0, 0, false), (1953, .iadd, 1, 0, 0, 0, false), (1954, .iaload, 1, 0, 0, 0, false), (1955, .aload_n 0, 1, 0, 0, 0, false), (1956, .iload 4, 2, 4, 0, 0, false), (1958, .iconst 3, 1, 4, 0, 0, false), (1959, .iadd, 1, 0, 0, 0, false), (1960, .iaload, 1, 0, 0, 0, false), (1961, .invokevirtual 252, 3, 141, 3, 20, false), (1964, .astore 6, 2, 6, 0, 0, false), (1966, .goto 826, 3, 2792, 0, 0, false)]
def e243_26 : List Ent := [(1969, .aload_n 1, 1, 1, 0, 0, false), (1970, .aload_n 0, 1, 0, 0, 0, false), (1971, .iload 4, 2, 4, 0, 0, false), (1973, .iconst 1, 1, 2, 0, 0, false), (1974, .iadd, 1, 0, 0, 0, false), (1975, .iaload, 1, 0, 0, 0, false), (1976, .aload_n 0, 1, 0, 0, 0, false), (1977, .iload 4, 2, 4, 0, 0, false), (1979, .iconst 2, 1, 3, 0, 0, false), (1980, .iadd, 1, 0, 0, 0, false), (1981, .iaload, 1, 0, 0, 0, false), (1982, .aload_n 3, 1, 3, 0, 0, false), (1983, .invokestatic 253, 3, 229, 4, 8, false), (1986, .istore 5, 2, 5, 0, 0, false), (1988, .aload_n 2, 1, 2, 0, 0, false), (1989, .aload_n 0, 1, 0, 0, 0, false), (1990, .iload 4, 2, 4, 0, 0, false), (1992, .iconst 1, 1, 2, 0, 0, false), (1993, .iadd, 1, 0, 0, 0, false), (1994, .iaload, 1, 0, 0, 0, false), (1995, .aload_n 0, 1, 0, 0, 0, false), (1996, .iload 4, 2, 4, 0, 0, false), (1998, .iconst 2, 1, 3, 0, 0, false), (1999, .iadd, 1, 0, 0, 0, false), (2000, .iaload, 1, 0, 0, 0, false), (2001, .invokevirtual 255, 3, 143, 2, 20, false), (2004, .istore 6, 2, 6, 0, 0, false), (2006, .goto 786, 3, 2792, 0, 0, false)]
def e243_27 : List Ent := [(2009, .aload_n 1, 1, 1, 0, 0, false), (2010, .aload_n 0, 1, 0, 0, 0, false), (2011, .iload 4, 2, 4, 0, 0, false), (2013, .iconst 1, 1, 2, 0, 0, false), (2014, .iadd, 1, 0, 0, 0, false), (2015, .iaload, 1, 0, 0, 0, false), (2016, .aload_n 0, 1, 0, 0, 0, false), (2017, .iload 4, 2, 4, 0, 0, false), (2019, .iconst 2, 1, 3, 0, 0, false), (2020, .iadd, 1, 0, 0, 0, false), (2021, .iaload, 1, 0, 0, 0, false), (2022, .aload_n 0, 1, 0, 0, 0, false), (2023, .iload 4, 2, 4, 0, 0, false), (2025, .iconst 3, 1, 4, 0, 0, false), (2026, .iadd, 1, 0, 0, 0, false), (2027, .iaload, 1, 0, 0, 0, false), (2028, .ifCond .eq 7, 3, 2035, 0, 0, false), (2031, .iconst 1, 1, 2, 0, 0, false), (2032, .goto 4, 3, 2036, 0, 0, false), (2035, .iconst 0, 1, 1, 0, 0, false), (2036, .aload_n 0, 1, 0, 0, 0, false), (2037, .iload 4, 2, 4, 0, 0, false), (2039, .iconst 4, 1, 5, 0, 0, false), (2040, .iadd, 1, 0, 0, 0, false), (2041, .iaload, 1, 0, 0, 0, false), (2042, .aload_n 3, 1, 3, 0, 0, false), (2043, .invokestatic 256, 3, 230, 6, 8, false), (2046, .istore 5, 2, 5, 0, 0, false), (2048, .aload_n 2, 1, 2, 0, 0, false), (2049, .aload_n 0, 1, 0, 0, 0, false), (2050, .iload 4, 2, 4, 0, 0, false), (2052, .iconst 1, 1, 2, 0, 0, false), (2053, .iadd, 1, 0, 0, 0, false), (2054, .iaload, 1, 0, 0, 0, false), (2055, .aload_n 0, 1, 0, 0, 0, false), (2056, .iload 4, 2, 4, 0, 0, false), (2058, .iconst 2, 1, 3, 0, 0, false), (2059, .iadd, 1, 0, 0, 0, false), (2060, .iaload, 1, 0, 0, 0, false), (2061, .aload_n 0, 1, 0, 0, 0, false), (2062, .iload 4, 2, 4, 0, 0, false), (2064, .iconst 3, 1, 4, 0, 0, false), (2065, .iadd, 1, 0, 0, 0, false), (2066, .iaload, 1, 0, 0, 0, false), (2067, .ifCond .eq 7, 3, 2074, 0, 0, false), (2070, .iconst 1, 1, 2, 0, 0, false), (2071, .goto 4, 3, 2075, 0, 0, false), (2074, .iconst 0, 1, 1, 0, 0, false), (2075, .aload_n 0, 1, 0, 0, 0, false), (2076, .iload 4, 2, 4, 0, 0, false), (2078, .iconst 4, 1, 5, 0, 0, false), (2079, .iadd, 1, 0, 0, 0, false), (2080, .iaload, 1, 0, 0, 0, false), (2081, .invokevirtual 259, 3, 144, 4, 20, false), (2084, .istore 6, 2, 6, 0, 0, false), (2086, .goto 706, 3, 2792, 0, 0, false)]
def e243_28 : List Ent := [(2089, .aload_n 1, 1, 1, 0, 0, false), (2090, .aload_n 0, 1, 0, 0, 0, false), (2091, .iload 4, 2, 4, 0, 0, false), (2093, .iconst 1, 1, 2, 0, 0, false), (2094, .iadd, 1, 0, 0, 0, false), (2095, .iaload, 1, 0, 0, 0, false), (2096, .aload_n 0, 1, 0, 0, 0, false), (2097, .iload 4, 2, 4, 0, 0, false), (2099, .iconst 2, 1, 3, 0, 0, false), (2100, .iadd, 1, 0, 0, 0, false), (2101, .iaload, 1, 0, 0, 0, false), (2102, .aload_n 0, 1, 0, 0, 0, false), (2103, .iload 4, 2, 4, 0, 0, false), (2105, .iconst 3, 1, 4, 0, 0, false), (2106, .iadd, 1, 0, 0, 0, false), (2107, .iaload, 1, 0, 0, 0, false), (2108, .ifCond .eq 7, 3, 2115, 0, 0, false), (2111, .iconst 1, 1, 2, 0, 0, false), (2112, .goto 4, 3, 2116, 0, 0, false), (2115, .iconst 0, 1, 1, 0, 0, false), (2116, .aload_n 0, 1, 0, 0, 0, false), (2117, .iload 4, 2, 4, 0, 0, false), (2119, .iconst 4, 1, 5, 0, 0, false), (2120, .iadd, 1, 0, 0, 0, false), (2121, .iaload, 1, 0, 0, 0, false), (2122, .aload_n 3, 1, 3, 0, 0, false), (2123, .invokestatic 260, 3, 231, 6, 8, false), (2126, .istore 5, 2, 5, 0, 0, false), (2128, .aload_n 2, 1, 2, 0, 0, false), (2129, .aload_n 0, 1, 0, 0, 0, false), (2130, .iload 4, 2, 4, 0, 0, false), (2132, .iconst 1, 1, 2, 0, 0, false), (2133, .iadd, 1, 0, 0, 0, false), (2134, .iaload, 1, 0, 0, 0, false), (2135, .aload_n 0, 1, 0, 0, 0, false), (2136, .iload 4, 2, 4, 0, 0, false), (2138, .iconst 2, 1, 3, 0, 0, false), (2139, .iadd, 1, 0, 0, 0, false), (2140, .iaload, 1, 0, 0, 0, false), (2141, .aload_n 0, 1, 0, 0, 0, false), (2142, .iload 4, 2, 4, 0, 0, false), (2144, .iconst 3, 1, 4, 0, 0, false), (2145, .iadd, 1, 0, 0, 0, false), (2146, .iaload, 1, 0, 0, 0, false), (2147, .ifCond .eq 7, 3, 2154, 0, 0, false), (2150, .iconst 1, 1, 2, 0, 0, false), (2151, .goto 4, 3, 2155, 0, 0, false), (2154, .iconst 0, 1, 1, 0, 0, false), (2155, .aload_n 0, 1, 0, 0, 0, false), (2156, .iload 4, 2, 4, 0, 0, false), (2158, .iconst 4, 1, 5, 0, 0, false), (2159, .iadd, 1, 0, 0, 0, false), (2160, .iaload, 1, 0, 0, 0, false), (2161, .invokevirtual 262, 3, 145, 4, 20, false), (2164, .istore 6, 2, 6, 0, 0, false), (2166, .goto 626, 3, 2792, 0, 0, false)]
def e243_29 : List Ent := [(2169, .aload_n 1, 1, 1, 0, 0, false), (2170, .aload_n 0, 1, 0, 0, 0, false), (2171, .iload 4, 2, 4, 0, 0, false), (2173, .iconst 1, 1, 2, 0, 0, false), (2174, .iadd, 1, 0, 0, 0, false), (2175, .iaload, 1, 0, 0, 0, false), (2176, .aload_n 0, 1, 0, 0, 0, false), (2177, .iload 4, 2, 4, 0, 0, false), (2179, .iconst 2, 1, 3, 0, 0, false), (2180, .iadd, 1, 0, 0, 0, false), (2181, .iaload, 1, 0, 0, 0, false), (2182, .aload_n 0, 1, 0, 0, 0, false), (2183, .iload 4, 2, 4, 0, 0, false), (2185, .iconst 3, 1, 4, 0, 0, false), (2186, .iadd, 1, 0, 0, 0, false), (2187, .iaload, 1, 0, 0, 0, false), (2188, .aload_n 0, 1, 0, 0, 0, false), (2189, .iload 4, 2, 4, 0, 0, false), (2191, .iconst 4, 1, 5, 0, 0, false), (2192, .iadd, 1, 0, 0, 0, false), (2193, .iaload, 1, 0, 0, 0, false), (2194, .ifCond .eq 7, 3, 2201, 0, 0, false), (2197, .iconst 1, 1, 2, 0, 0, false), (2198, .goto 4, 3, 2202, 0, 0, false), (2201, .iconst 0, 1, 1, 0, 0, false), (2202, .aload_n 3, 1, 3, 0, 0, false), (2203, .invokestatic 263, 3, 232, 6, 8, false), (2206, .istore 5, 2, 5, 0, 0, false), (2208, .aload_n 2, 1, 2, 0, 0, false), (2209, .aload_n 0, 1, 0, 0, 0, false), (2210, .iload 4, 2, 4, 0, 0, false), (2212, .iconst 1, 1, 2, 0, 0, false), (2213, .iadd, 1, 0, 0, 0, false), (2214, .iaload, 1, 0, 0, 0, false), (2215, .aload_n 0, 1, 0, 0, 0, false), (2216, .iload 4, 2, 4, 0, 0, false), (2218, .iconst 2, 1, 3, 0, 0, false), (2219, .iadd, 1, 0, 0, 0, false), (2220, .iaload, 1, 0, 0, 0, false), (2221, .aload_n 0, 1, 0, 0, 0, false), (2222, .iload 4, 2, 4, 0, 0, false), (2224, .iconst 3, 1, 4, 0, 0, false), (2225, .iadd, 1, 0, 0, 0, false), (2226, .iaload, 1, 0, 0, 0, false), (2227, .aload_n 0, 1, 0, 0, 0, false), (2228, .iload 4, 2, 4, 0, 0, false), (2230, .iconst 4, 1, 5, 0, 0, false), (2231, .iadd, 1, 0, 0, 0, false), (2232, .iaload, 1, 0, 0, 0, false), (2233, .ifCond .eq 7, 3, 2240, 0, 0, false), (2236, .iconst 1, 1, 2, 0, 0, false), (2237, .goto 4, 3, 2241, 0, 0, false), (2240, .iconst 0, 1, 1, 0, 0, false), (2241, .invokevirtual 266, 3, 146, 4, 20, false), (2244, .istore 6, 2, 6, 0, 0, false), (2246, .goto 546, 3, 2792, 0, 0, false)]
def e243_30 : List Ent := [(2249, .aload_n 1, 1, 1, 0, 0, false), (2250, .aload_n 0, 1, 0, 0, 0, false), (2251, .iload 4, 2, 4, 0, 0, false), (2253, .iconst 1, 1, 2, 0, 0, false), (2254, .iadd, 1, 0, 0, 0, false), (2255, .iaload, 1, 0, 0, 0, false), (2256, .aload_n 0, 1, 0, 0, 0, false), (2257, .iload 4, 2, 4, 0, 0, false), (2259, .iconst 2, 1, 3, 0, 0, false), (2260, .iadd, 1, 0, 0, 0, false), (2261, .iaload, 1, 0, 0, 0, false), (2262, .aload_n 0, 1, 0, 0, 0, false), (2263, .iload 4, 2, 4, 0, 0, false), (2265, .iconst 3, 1, 4, 0, 0, false), (2266, .iadd, 1, 0, 0, 0, false), (2267, .iaload, 1, 0, 0, 0, false), (2268, .aload_n 3, 1, 3, 0, 0, false), (2269, .invokestatic 267, 3, 233, 5, 8, false), (2272, .istore 5, 2, 5, 0, 0, false), (2274, .aload_n 2, 1, 2, 0, 0, false), (2275, .aload_n 0, 1, 0, 0, 0, false), (2276, .iload 4, 2, 4, 0, 0, false), (2278, .iconst 1, 1, 2, 0, 0, false), (2279, .iadd, 1, 0, 0, 0, false), (2280, .iaload, 1, 0, 0, 0, false), (2281, .aload_n 0, 1, 0, 0, 0, false), (2282, .iload 4, 2, 4, 0, 0, false), (2284, .iconst 2, 1, 3, 0, 0, false), (2285, .iadd, 1, 0, 0, 0, false), (2286, .iaload, 1, 0, 0, 0, false), (2287, .aload_n 0, 1, 0, 0, 0, false), (2288, .iload 4, 2, 4, 0, 0, false), (2290, .iconst 3, 1, 4, 0, 0, false), (2291, .iadd, 1, 0, 0, 0, false), (2292, .iaload, 1, 0, 0, 0, false), (2293, .invokevirtual 269, 3, 147, 3, 20, false), (2296, .istore 6, 2, 6, 0, 0, false), (2298, .goto 494, 3, 2792, 0, 0, false)]
def e243_31 : List Ent := [(2301, .aload_n 1, 1, 1, 0, 0, false), (2302, .aload_n 0, 1, 0, 0, 0, false), (2303, .iload 4, 2, 4, 0, 0, false), (2305, .iconst 1, 1, 2, 0, 0, false), (2306, .iadd, 1, 0, 0, 0, false), (2307, .iaload, 1, 0, 0, 0, false), (2308, .aload_n 0, 1, 0, 0, 0, false), (2309, .iload 4, 2, 4, 0, 0, false), (2311, .iconst 2, 1, 3, 0, 0, false), (2312, .iadd, 1, 0, 0, 0, false), (2313, .iaload, 1, 0, 0, 0, false), (2314, .aload_n 0, 1, 0, 0, 0, false), (2315, .iload 4, 2, 4, 0, 0, false), (2317, .iconst 3, 1, 4, 0, 0, false), (2318, .iadd, 1, 0, 0, 0, false), (2319, .iaload, 1, 0, 0, 0, false), (2320, .aload_n 3, 1, 3, 0, 0, false), (2321, .invokestatic 270, 3, 234, 5, 8, false), (2324, .istore 5, 2, 5, 0, 0, false), (2326, .aload_n 2, 1, 2, 0, 0, false), (2327, .aload_n 0, 1, 0, 0, 0, false), (2328, .iload 4, 2, 4, 0, 0, false), (2330, .iconst 1, 1, 2, 0, 0, false), (2331, .iadd, 1, 0, 0, 0, false), (2332, .iaload, 1, 0, 0, 0, false), (2333, .aload_n 0, 1, 0, 0, 0, false), (2334, .iload 4, 2, 4, 0, 0, false), (2336, .iconst 2, 1, 3, 0, 0, false), (2337, .iadd, 1, 0, 0, 0, false), (2338, .iaload, 1, 0, 0, 0, false), (2339, .aload_n 0, 1, 0, 0, 0, false), (2340, .iload 4, 2, 4, 0, 0, false), (2342, .iconst 3, 1, 4, 0, 0, false), (2343, .iadd, 1, 0, 0, 0, false), (2344, .iaload, 1, 0, 0, 0, false), (2345, .invokevirtual 272, 3, 148, 3, 20, false), (2348, .istore 6, 2, 6, 0, 0, false), (2350, .goto 442, 3, 2792, 0, 0, false)]
def e243_32 : List Ent := [(2353, .aload_n 1, 1, 1, 0, 0, false), (2354, .aload_n 0, 1, 0, 0, 0, false), (2355, .iload 4, 2, 4, 0, 0, false), (2357, .iconst 1, 1, 2, 0, 0, false), (2358, .iadd, 1, 0, 0, 0, false), (2359, .iaload, 1, 0, 0, 0, false), (2360, .aload_n 0, 1, 0, 0, 0, false), (2361, .iload 4, 2, 4, 0, 0, false), (2363, .iconst 2, 1, 3, 0, 0, false), (2364, .iadd, 1, 0, 0, 0, false), (2365, .iaload, 1, 0, 0, 0, false), (2366, .aload_n 3, 1, 3, 0, 0, false), (2367, .invokestatic 273, 3, 235, 4, 8, false), (2370, .istore 5, 2, 5, 0, 0, false), (2372, .aload_n 2, 1, 2, 0, 0, false), (2373, .aload_n 0, 1, 0, 0, 0, false), (2374, .iload 4, 2, 4, 0, 0, false), (2376, .iconst 1, 1, 2, 0, 0, false), (2377, .iadd, 1, 0, 0, 0, false), (2378, .iaload, 1, 0, 0, 0, false), (2379, .aload_n 0, 1, 0, 0, 0, false), (2380, .iload 4, 2, 4, 0, 0, false), (2382, .iconst 2, 1, 3, 0, 0, false), (2383, .iadd, 1, 0, 0, 0, false), (2384, .iaload, 1, 0, 0, 0, false), (2385, .invokevirtual 275, 3, 150, 2, 20, false), (2388, .istore 6, 2, 6, 0, 0, false), (2390, .goto 402, 3, 2792, 0, 0, false)]
def e243_33 : List Ent := [(2393, .aload_n 1, 1, 1, 0, 0, false), (2394, .aload_n 0, 1, 0, 0, 0, false), (2395, .iload 4, 2, 4, 0, 0, false), (2397, .iconst 1, 1, 2, 0, 0, false), (2398, .iadd, 1, 0, 0, 0, false), (2399, .iaload, 1, 0, 0, 0, false), (2400, .aload_n 0, 1, 0, 0, 0, false), (2401, .iload 4, 2, 4, 0, 0, false), (2403, .iconst 2, 1, 3, 0, 0, false), (2404, .iadd, 1, 0, 0, 0, false), (2405, .iaload, 1, 0, 0, 0, false), (2406, .aload_n 3, 1, 3, 0, 0, false), (2407, .invokestatic 276, 3, 236, 4, 8, false), (2410, .istore 5, 2, 5, 0, 0, false), (2412, .aload_n 2, 1, 2, 0, 0, false), (2413, .aload_n 0, 1, 0, 0, 0, false), (2414, .iload 4, 2, 4, 0, 0, false), (2416, .iconst 1, 1, 2, 0, 0, false), (2417, .iadd, 1, 0, 0, 0, false), (2418, .iaload, 1, 0, 0, 0, false), (2419, .aload_n 0, 1, 0, 0, 0, false), (2420, .iload 4, 2, 4, 0, 0, false), (2422, .iconst 2, 1, 3, 0, 0, false), (2423, .iadd, 1, 0, 0, 0, false), (2424, .iaload, 1, 0, 0, 0, false), (2425, .invokevirtual 278, 3, 151, 2, 20, false), (2428, .istore 6, 2, 6, 0, 0, false), (2430, .goto 362, 3, 2792, 0, 0, false)]
def e243_34 : List Ent := [(2433, .aload_n 1, 1, 1, 0, 0, false), (2434, .aload_n 0, 1, 0, 0, 0, false), (2435, .iload 4, 2, 4, 0, 0, false), (2437, .iconst 1, 1, 2, 0, 0, false), (2438, .iadd, 1, 0, 0, 0, false), (2439, .iaload, 1, 0, 0, 0, false), (2440, .aload_n 0, 1, 0, 0, 0, false), (2441, .iload 4, 2, 4, 0, 0, false), (2443, .iconst 2, 1, 3, 0, 0, false), (2444, .iadd, 1, 0, 0, 0, false), (2445, .iaload, 1, 0, 0, 0, false), (2446, .aload_n 3, 1, 3, 0, 0, false), (2447, .invokestatic 279, 3, 237, 4, 8, false), (2450, .istore 5, 2, 5, 0, 0, false), (2452, .aload_n 2, 1, 2, 0, 0, false), (2453, .aload_n 0, 1, 0, 0, 0, false), (2454, .iload 4, 2, 4, 0, 0, false), (2456, .iconst 1, 1, 2, 0, 0, false), (2457, .iadd, 1, 0, 0, 0, false), (2458, .iaload, 1, 0, 0, 0, false), (2459, .aload_n 0, 1, 0, 0, 0, false), (2460, .iload 4, 2, 4, 0, 0, false), (2462, .iconst 2, 1, 3, 0, 0, false), (2463, .iadd, 1, 0, 0, 0, false), (2464, .iaload, 1, 0, 0, 0, false), (2465, .invokevirtual 281, 3, 152, 2, 20, false), (2468, .istore 6, 2, 6, 0, 0, false), (2470, .goto 322, 3, 2792, 0, 0, false)]
def e243_35 : List Ent := [(2473, .aload_n 1, 1, 1, 0, 0, false), (2474, .aload_n 0, 1, 0, 0, 0, false), (2475, .iload 4, 2, 4, 0, 0, false), (2477, .iconst 1, 1, 2, 0, 0, false), (2478, .iadd, 1, 0, 0, 0, false), (2479, .iaload, 1, 0, 0, 0, false), (2480, .aload_n 3, 1, 3, 0, 0, false), (2481, .invokestatic 282, 3, 238, 3, 8, false), (2484, .istore 5, 2, 5, 0, 0, false), (2486, .aload_n 2, 1, 2, 0, 0, false), (2487, .aload_n 0, 1, 0, 0, 0, false), (2488, .iload 4, 2, 4, 0, 0, false), (2490, .iconst 1, 1, 2, 0, 0, false), (2491, .iadd, 1, 0, 0, 0, false), (2492, .iaload, 1, 0, 0, 0, false), (2493, .invokevirtual 285, 3, 153, 1, 20, false), (2496, .astore 6, 2, 6, 0, 0, false), (2498, .goto 294, 3, 2792, 0, 0, false)]
def e243_36 : List Ent := [(2501, .aload_n 1, 1, 1, 0, 0, false), (2502, .aload_n 0, 1, 0, 0, 0, false), (2503, .iload 4, 2, 4, 0, 0, false), (2505, .iconst 1, 1, 2, 0, 0, false), (2506, .iadd, 1, 0, 0, 0, false), (2507, .iaload, 1, 0, 0, 0, false), (2508, .aload_n 0, 1, 0, 0, 0, false), (2509, .iload 4, 2, 4, 0, 0, false), (2511, .iconst 2, 1, 3, 0, 0, false), (2512, .iadd, 1, 0, 0, 0, false), (2513, .iaload, 1, 0, 0, 0, false), (2514, .ifCond .eq 7, 3, 2521, 0, 0, false), (2517, .iconst 1, 1, 2, 0, 0, false), (2518, .goto 4, 3, 2522, 0, 0, false), (2521, .iconst 0, 1, 1, 0, 0, false), (2522, .aload_n 0, 1, 0, 0, 0, false), (2523, .iload 4, 2, 4, 0, 0, false), (2525, .iconst 3, 1, 4, 0, 0, false), (2526, .iadd, 1, 0, 0, 0, false), (2527, .iaload, 1, 0, 0, 0, false), (2528, .aload_n 0, 1, 0, 0, 0, false), (2529, .iload 4, 2, 4, 0, 0, false), (2531, .iconst 4, 1, 5, 0, 0, false), (2532, .iadd, 1, 0, 0, 0, false), (2533, .iaload, 1, 0, 0, 0, false), (2534, .aload_n 3, 1, 3, 0, 0, false), (2535, .invokestatic 286, 3, 239, 6, 8, false), (2538, .istore 5, 2, 5, 0, 0, false), (2540, .aload_n 2, 1, 2, 0, 0, false), (2541, .aload_n 0, 1, 0, 0, 0, false), (2542, .iload 4, 2, 4, 0, 0, false), (2544, .iconst 1, 1, 2, 0, 0, false), (2545, .iadd, 1, 0, 0, 0, false), (2546, .iaload, 1, 0, 0, 0, false), (2547, .aload_n 0, 1, 0, 0, 0, false), (2548, .iload 4, 2, 4, 0, 0, false), (2550, .iconst 2, 1, 3, 0, 0, false), (2551, .iadd, 1, 0, 0, 0, false), (2552, .iaload, 1, 0, 0, 0, false), (2553, .ifCond .eq 7, 3, 2560, 0, 0, false), (2556, .iconst 1, 1, 2, 0, 0, false), (2557, .goto 4, 3, 2561, 0, 0, false), (2560, .iconst 0, 1, 1, 0, 0, false), (2561, .aload_n 0, 1, 0, 0, 0, false), (2562, .iload 4, 2, 4, 0, 0, false), (2564, .iconst 3, 1, 4, 0, 0, false), (2565, .iadd, 1, 0, 0, 0, false), (2566, .iaload, 1, 0, 0, 0, false), (2567, .aload_n 0, 1, 0, 0, 0, false), (2568, .iload 4, 2, 4, 0, 0, false), (2570, .iconst 4, 1, 5, 0, 0, false), (2571, .iadd, 1, 0, 0, 0, false), (2572, .iaload, 1, 0, 0, 0, false), (2573, .invokevirtual 289, 3, 154, 4, 20, false), (2576, .istore 6, 2, 6, 0, 0, false), (2578, .goto 214, 3, 2792, 0, 0, false)]
def e243_37 : List Ent := [(2581, .aload_n 1, 1, 1, 0, 0, false), (2582, .aload_n 0, 1, 0, 0, 0, false), (2583, .iload 4, 2, 4, 0, 0, false), (2585, .iconst 1, 1, 2, 0, 0, false), (2586, .iadd, 1, 0, 0, 0, false), (2587, .iaload, 1, 0, 0, 0, false), (2588, .aload_n 0, 1, 0, 0, 0, false), (2589, .iload 4, 2, 4, 0, 0, false), (2591, .iconst 2, 1, 3, 0, 0, false), (2592, .iadd, 1, 0, 0, 0, false), (2593, .iaload, 1, 0, 0, 0, false), (2594, .aload_n 0, 1, 0, 0, 0, false), (2595, .iload 4, 2, 4, 0, 0, false), (2597, .iconst 3, 1, 4, 0, 0, false), (2598, .iadd, 1, 0, 0, 0, false), (2599, .iaload, 1, 0, 0, 0, false), (2600, .aload_n 0, 1, 0, 0, 0, false), (2601, .iload 4, 2, 4, 0, 0, false), (2603, .iconst 4, 1, 5, 0, 0, false), (2604, .iadd, 1, 0, 0, 0, false), (2605, .iaload, 1, 0, 0, 0, false), (2606, .aload_n 0, 1, 0, 0, 0, false), (2607, .iload 4, 2, 4, 0, 0, false), (2609, .iconst 5, 1, 6, 0, 0, false), (2610, .iadd, 1, 0, 0, 0, false), (2611, .iaload, 1, 0, 0, 0, false), (2612, .aload_n 3, 1, 3, 0, 0, false), (2613, .invokestatic 290, 3, 240, 7, 8, false), (2616, .istore 5, 2, 5, 0, 0, false), (2618, .aload_n 2, 1, 2, 0, 0, false), (2619, .aload_n 0, 1, 0, 0, 0, false), (2620, .iload 4, 2, 4, 0, 0, false), (2622, .iconst 1, 1, 2, 0, 0, false), (2623, .iadd, 1, 0, 0, 0, false), (2624, .iaload, 1, 0, 0, 0, false), (2625, .aload_n 0, 1, 0, 0, 0, false), (2626, .iload 4, 2, 4, 0, 0, false), (2628, .iconst 2, 1, 3, 0, 0, false), (2629, .iadd, 1, 0, 0, 0, false), (2630, .iaload, 1, 0, 0, 0, false), (2631, .aload_n 0, 1, 0, 0, 0, false), (2632, .iload 4, 2, 4, 0, 0, false), (2634, .iconst 3, 1, 4, 0, 0, false), (2635, .iadd, 1, 0, 0, 0, false), (2636, .iaload, 1, 0, 0, 0, false), (2637, .aload_n 0, 1, 0, 0, 0, false), (2638, .iload 4, 2, 4, 0, 0, false), (2640, .iconst 4, 1, 5, 0, 0, false), (2641, .iadd, 1, 0, 0, 0, false), (2642, .iaload, 1, 0, 0, 0, false), (2643, .aload_n 0, 1, 0, 0, 0, false), (2644, .iload 4, 2, 4, 0, 0, false), (2646, .iconst 5, 1, 6, 0, 0, false), (2647, .iadd, 1, 0, 0, 0, false), (2648, .iaload, 1, 0, 0, 0, false), (2649, .invokevirtual 293, 3, 155, 5, 20, false), (2652, .istore 6, 2, 6, 0, 0, false), (2654, .goto 138, 3, 2792, 0, 0, false)]
def e243_38 : List Ent := [(2657, .aload_n 1, 1, 1, 0, 0, false), (2658, .aload_n 0, 1, 0, 0, 0, false), (2659, .iload 4, 2, 4, 0, 0, false), (2661, .iconst 1, 1, 2, 0, 0, false), (2662, .iadd, 1, 0, 0, 0, false), (2663, .iaload, 1, 0, 0, 0, false), (2664, .aload_n 0, 1, 0, 0, 0, false), (2665, .iload 4, 2, 4, 0, 0, false), (2667, .iconst 2, 1, 3, 0, 0, false), (2668, .iadd, 1, 0, 0, 0, false), (2669, .iaload, 1, 0, 0, 0, false), (2670, .aload_n 0, 1, 0, 0, 0, false), (2671, .iload 4, 2, 4, 0, 0, false), (2673, .iconst 3, 1, 4, 0, 0, false), (2674, .iadd, 1, 0, 0, 0, false), (2675, .iaload, 1, 0, 0, 0, false), (2676, .ifCond .eq 7, 3, 2683, 0, 0, false), (2679, .iconst 1, 1, 2, 0, 0, false), (2680, .goto 4, 3, 2684, 0, 0, false), (2683, .iconst 0, 1, 1, 0, 0, false), (2684, .aload_n 3, 1, 3, 0, 0, false), (2685, .invokestatic 294, 3, 241, 5, 8, false), (2688, .istore 5, 2, 5, 0, 0, false), (2690, .aload_n 2, 1, 2, 0, 0, false), (2691, .aload_n 0, 1, 0, 0, 0, false), (2692, .iload 4, 2, 4, 0, 0, false), (2694, .iconst 1, 1, 2, 0, 0, false), (2695, .iadd, 1, 0, 0, 0, false), (2696, .iaload, 1, 0, 0, 0, false), (2697, .aload_n 0, 1, 0, 0, 0, false), (2698, .iload 4, 2, 4, 0, 0, false), (2700, .iconst 2, 1, 3, 0, 0, false), (2701, .iadd, 1, 0, 0, 0, false), (2702, .iaload, 1, 0, 0, 0, false), (2703, .aload_n 0, 1, 0, 0, 0, false), (2704, .iload 4, 2, 4, 0, 0, false), (2706, .iconst 3, 1, 4, 0, 0, false), (2707, .iadd, 1, 0, 0, 0, false), (2708, .iaload, 1, 0, 0, 0, false), (2709, .ifCond .eq 7, 3, 2716, 0, 0, false), (2712, .iconst 1, 1, 2, 0, 0, false), (2713, .goto 4, 3, 2717, 0, 0, false), (2716, .iconst 0, 1, 1, 0, 0, false), (2717, .invokevirtual 296, 3, 156, 3, 20, false), (2720, .astore 6, 2, 6, 0, 0, false), (2722, .goto 70, 3, 2792, 0, 0, false)]
def e243_39 : List Ent := [(2725, .aload_n 1, 1, 1, 0, 0, false), (2726, .aload_n 0, 1, 0, 0, 0, false), (2727, .iload 4, 2, 4, 0, 0, false), (2729, .iconst 1, 1, 2, 0, 0, false), (2730, .iadd, 1, 0, 0, 0, false), (2731, .iaload, 1, 0, 0, 0, false), (2732, .aload_n 3, 1, 3, 0, 0, false), (2733, .invokestatic 297, 3, 242, 3, 8, false), (2736, .istore 5, 2, 5, 0, 0, false), (2738, .aload_n 2, 1, 2, 0, 0, false), (2739, .aload_n 0, 1, 0, 0, 0, false), (2740, .iload 4, 2, 4, 0, 0, false), (2742, .iconst 1, 1, 2, 0, 0, false), (2743, .iadd, 1, 0, 0, 0, false), (2744, .iaload, 1, 0, 0, 0, false), (2745, .invokevirtual 299, 3, 158, 1, 20, false), (2748, .istore 6, 2, 6, 0, 0, false), (2750, .goto 42, 3, 2792, 0, 0, false)]
def e243_40 : List Ent := [(2753, .aload_n 1, 1, 1, 0, 0, false), (2754, .invokevirtual 300, 3, 74, 0, 18, false), (2757, .pop, 1, 0, 0, 0, false), (2758, .aload_n 2, 1, 2, 0, 0, false), (2759, .invokevirtual 303, 3, 159, 0, 20, false), (2762, .pop, 1, 0, 0, 0, false), (2763, .goto 29, 3, 2792, 0, 0, false)]
def e243_41 : List Ent := [(2766, .aload_n 1, 1, 1, 0, 0, false), (2767, .invokevirtual 304, 3, 75, 0, 18, false), (2770, .pop, 1, 0, 0, 0, false), (2771, .aload_n 2, 1, 2, 0, 0, false), (2772, .invokevirtual 308, 3, 160, 0, 20, false), (2775, .pop, 1, 0, 0, 0, false), (2776, .goto 16, 3, 2792, 0, 0, false)]
def e243_42 : List Ent := [(2779, .aload_n 1, 1, 1, 0, 0, false), (2780, .invokevirtual 309, 3, 76, 0, 18, false), (2783, .pop2, 1, 0, 0, 0, false), (2784, .aload_n 2, 1, 2, 0, 0, false), (2785, .invokevirtual 313, 3, 161, 0, 20, false), (2788, .pop2, 1, 0, 0, 0, false), (2789, .goto 3, 3, 2792, 0, 0, false)]
def e243_43 : List Ent := [(2792, .iinc 4 6, 3, 4, 27, 0, false), (2795, .goto (-2768), 3, 27, 0, 0, false), (2798, .iconst 1, 1, 2, 0, 0, false), (2799, .ireturn, 1, 0, 0, 0, false)]
def y_K_law : MethodName := ⟨rc_K, "law", "([I)Z"⟩
def md_K_law : MD := (rc_K, y_K_law, code, 7, (some .boolean), [], [(0, 44, e243_0), (228, 334, e243_1), (337, 402, e243_2), (405, 442, e243_3), (445, 482, e243_4), (485, 562, e243_5), (565, 642, e243_6), (645, 710, e243_7), (713, 750, e243_8), (753, 802, e243_9), (805, 854, e243_10), (857, 934, e243_11), (937, 990, e243_12), (993, 1086, e243_13), (1089, 1182, e243_14), (1185, 1250, e243_15), (1253, 1346, e243_16), (1349, 1442, e243_17), (1445, 1506, e243_18), (1509, 1570, e243_19), (1573, 1638, e243_20), (1641, 1706, e243_21), (1709, 1762, e243_22), (1765, 1830, e243_23), (1833, 1898, e243_24), (1901, 1966, e243_25), (1969, 2006, e243_26), (2009, 2086, e243_27), (2089, 2166, e243_28), (2169, 2246, e243_29), (2249, 2298, e243_30), (2301, 2350, e243_31), (2353, 2390, e243_32), (2393, 2430, e243_33), (2433, 2470, e243_34), (2473, 2498, e243_35), (2501, 2578, e243_36), (2581, 2654, e243_37), (2657, 2722, e243_38), (2725, 2750, e243_39), (2753, 2763, e243_40), (2766, 2776, e243_41), (2779, 2789, e243_42), (2792, 2799, e243_43)])
def lxM : List MethodName := [y_ASB_ensureCapacityInternal, y_ASB_newCapacity, y_ASB_inflateIfNeededFor, y_ASB_putStringAt]
def kZ : List Nat := [237, 151]
def mT : List MD := [md_D_ofSigned, md_D_ofUnsigned, md_D_appendBackwards, md_D_countOf, md_A_holdForPair, md_A_holdForAverages, md_A_holdForFloor, md_A_holdForTowards, md_A_holdForProduct, md_A_holdForResidue, md_A_keepResidues, md_A_holdForMeeting, md_R_sizeOf, md_R_residueOf, md_R_raised, md_R_greatestDivisor, md_R_hasInverse, md_R_inverseOf, md_R_inverseBelow, md_R_meetingOf, md_W_order, md_W_isWithin, md_W_goneRound, md_W_edge, md_W_joined, md_W_isExact, md_W_isTrue, md_W_upperHalf, md_W_averageOf, md_W_floorOf, md_W_restOf, md_W_quotientTowards, md_W_restTowards, md_W_chained, md_X_new, md_X_put, md_X_copy, md_X_widen, md_X_narrow, md_X_exact, md_X_fits, md_X_alone, md_X_timesInt, md_X_full, md_X_high, md_X_round, md_X_abs, md_X_extreme, md_X_floor, md_X_floorInt, md_X_towards, md_X_average, md_X_chain, md_X_atOnce, md_X_distance, md_X_compare, md_X_text, md_X_ofNumber, md_X_rest, md_X_quotient, md_X_modulus, md_X_bring, md_X_lift, md_X_plus, md_X_times, md_X_power, md_X_inverse, md_X_isUnit, md_X_residue, md_X_ringText, md_X_areAlike, md_X_together, md_X_common, md_X_house, md_X_knock, md_X_isSound, md_X_digest, md_X_needIndex, md_X_needChoice, md_X_needNotZero, md_X_needDivisors, md_X_numberAt, md_X_modulusAt, md_X_residueAt, md_X_refuse, md_X_keep, md_X_keepRound, md_X_keepExact, md_X_keepFloor, md_X_keepResidue, md_X_countZeros, md_X_countUnits, md_X_digestNumbers, md_X_areNumbersSound, md_X_areRingsSound, md_X_areMeetingsSound, md_O_new, md_M_new, md_M_thrown, md_M_refuse, md_M_start, md_M_isNo, md_M_isNoRing, md_M_no, md_M_sign, md_M_now, md_M_become, md_M_above, md_M_both, md_M_isWithin, md_M_floorOf, md_M_restOf, md_M_gcd, md_M_against, md_M_put, md_M_copy, md_M_widen, md_M_narrow, md_M_exact, md_M_fits, md_M_alone, md_M_timesInt, md_M_full, md_M_high, md_M_round, md_M_abs, md_M_extreme, md_M_floor, md_M_floorInt, md_M_towards, md_M_average, md_M_areWrong, md_M_chain, md_M_atOnce, md_M_plain, md_M_distance, md_M_compare, md_M_text, md_M_ofNow, md_M_ofNumber, md_M_rest, md_M_quotient, md_M_come, md_M_modulus, md_M_bring, md_M_lift, md_M_plus, md_M_times, md_M_power, md_M_isUnitNow, md_M_inverse, md_M_isUnit, md_M_residue, md_M_ringText, md_M_areAlike, md_M_together, md_M_common, md_M_houseNow, md_M_house, md_M_knock, md_M_isSound, md_M_digest, md_ASB_new, md_ASB_length, md_ASB_ensureCapacityInternal, md_ASB_newCapacity, md_ASB_append_T, md_ASB_append_C, md_ASB_append_I, md_ASB_append_J, md_ASB_reverse, md_ASB_getValue, md_ASB_isLatin1, md_ASB_inflateIfNeededFor, md_ASB_putStringAt, md_INT_getChars, md_INT_stringSize, md_LNG_getChars, md_LNG_stringSize, md_MA_floorDiv, md_MA_abs, md_MA_max_II, md_MA_max_JJ, md_MA_min_II, md_MA_min_JJ, md_STR_new_Q, md_STR_length, md_STR_getBytes, md_STR_new_QN, md_STR_coder, md_SB_new, md_SB_append_T, md_SB_append_C, md_SB_append_I, md_SB_append_J, md_SB_reverse, md_SB_toString, md_SB_length, md_L1_canEncode, md_ARR_copyOf, md_ARR_checkLength, md_ARR_copyOfRange, md_ARR_copyOfRangeByte, md_AS_newLength, md_K_put, md_K_copy, md_K_widen, md_K_narrow, md_K_exact, md_K_fits, md_K_alone, md_K_timesInt, md_K_full, md_K_high, md_K_round, md_K_abs, md_K_extreme, md_K_floor, md_K_floorInt, md_K_towards, md_K_average, md_K_chain, md_K_atOnce, md_K_distance, md_K_compare, md_K_text, md_K_ofNumber, md_K_rest, md_K_quotient, md_K_modulus, md_K_bring, md_K_lift, md_K_plus, md_K_times, md_K_power, md_K_inverse, md_K_isUnit, md_K_residue, md_K_ringText, md_K_areAlike, md_K_together, md_K_common, md_K_house, md_K_law]
def kC : List (Nat × Nat) := [(19, 0), (35, 1)]
def kE : List String := ["java/lang/IndexOutOfBoundsException", "java/lang/IllegalArgumentException"]
def LR : List (String × Nat × String) := [(rc_X, 149, "the exponent is below 0"), (rc_X, 235, "there is no such one"), (rc_X, 238, "there is no such choice"), (rc_X, 240, "a divisor is 0"), (rc_X, 242, "a divisor is below 1")]
def LTx : List (String × Nat × String) := [(rc_M, 98, ""), (rc_M, 156, ": "), (rc_M, 158, " ")]
def kStr : List String := ["", ": ", " ", "the exponent is below 0", "there is no such one", "there is no such choice", "a divisor is 0", "a divisor is below 1", " > "]
end
section
/-! THE SMALL MACHINE: values, cells, steps. '.ref i' is the i-th cell made since the law began; '.retAddr c' a fixed cell (0 the script, 10 + j a text, 30 + j its bytes, 50 and 51 the tables of digits) -/
abbrev GP : Type := Launch × va_G × (Nat → ClassId) × (Nat → Nat) × Nat × (Nat → Int32) × Nat
abbrev gl (P : GP) : Launch := P.1
abbrev gD (P : GP) : va_G := P.2.1
abbrev gC (P : GP) : Nat → ClassId := P.2.2.1
abbrev gA (P : GP) : Nat → Nat := P.2.2.2.1
abbrev gN (P : GP) : Nat := P.2.2.2.2.1
abbrev gX (P : GP) : Nat → Int32 := P.2.2.2.2.2.1
abbrev gL (P : GP) : Nat := P.2.2.2.2.2.2
def gF (P : GP) : Nat → Prop := fun q => gN P ≤ q
def nth {α : Type} : List α → Nat → Option α
  | [], _ => none
  | x :: _, 0 => some x
  | _ :: t, n + 1 => nth t n
theorem nth_eq {α : Type} : ∀ (l : List α) (n : Nat), nth l n = l[n]?
  | [], _ => rfl
  | _ :: _, 0 => rfl
  | _ :: t, n + 1 => by rw [nth, nth_eq t n]; rfl
def mV (P : GP) : Value → Value
  | .ref i => .ref (gN P + i)
  | .retAddr c => .ref (gA P c)
  | v => v
abbrev mAc : Type := (Nat → Int32) ⊕ (Nat → Int64) ⊕ (Nat → UInt32) ⊕ (Nat → UInt64) ⊕ (Nat → Option Nat)
def mRA (P : GP) : mAc → mAc
  | .inr (.inr (.inr (.inr f))) => .inr (.inr (.inr (.inr (fun j => (f j).map (fun i => gN P + i)))))
  | x => x
abbrev mH : Type := List va_E
def mC (P : GP) (i : Nat) (c : va_E) (H : Heap) : Prop := match c with
  | .inl (k, n, f) => H[gN P + i]? = some (vp_cell (gC P k) (n, mRA P f))
  | .inr (ci, fs) => ci < 5 → va_at (gD P) mCl (gN P + i, .inr (ci, fs.map (mV P))) H
def Wd (P : GP) (h : mH) (H : Heap) : Prop := H.size = gN P + h.length ∧ ∀ i c, nth h i = some c → mC P i c H
abbrev mLs : Type := List (Option Value)
def lvl (P : GP) : Nat → mLs → List (Nat × Value)
  | _, [] => []
  | j, none :: t => lvl P (j + 1) t
  | j, some v :: t => (j, mV P v) :: lvl P (j + 1) t
def LV (P : GP) (ls : Array Slot) (n : Nat) (L : mLs) : Prop := lv_has ls n (lvl P 0 L) ∧ L.length ≤ n
def md0 : MD := ("", ⟨"", "", ""⟩, ⟨#[]⟩, 0, none, [], [])
def md (a : Nat) : MD := match nth mT a with | some x => x | none => md0
abbrev mOwn (a : Nat) : String := (md a).1
abbrev mY (a : Nat) : MethodName := (md a).2.1
abbrev mCode (a : Nat) : ByteArray := (md a).2.2.1
abbrev mMax (a : Nat) : Nat := (md a).2.2.2.1
abbrev mRet (a : Nat) : Option FieldType := (md a).2.2.2.2.1
abbrev mEx (a : Nat) : List (Nat × Nat × Nat × Nat) := (md a).2.2.2.2.2.1
abbrev mChk (a : Nat) : List Chk := (md a).2.2.2.2.2.2
def seekE : List Ent → Nat → List Ent
  | [], _ => []
  | e :: es, pc => match Nat.beq e.1 pc with | true => e :: es | false => seekE es pc
def seekC : List Chk → Nat → List Ent
  | [], _ => []
  | k :: r, pc => match Nat.ble k.1 pc && Nat.ble pc k.2.1 with | true => seekE k.2.2 pc | false => seekC r pc
def tys (P : GP) : List (ClassId × FieldType) := [(gC P 0, .byte), (gC P 1, .int), (gC P 2, .long), (gC P 3, .array .int)]
def lx : List Cond := lxM.map (fun y => .selects rc_SB y y)
/-- the tables' words, and what the private methods of a class above a text's builder add -/
def lT : List Cond := lw_tbl ++ lx
def TB : List Cond := lT.filter goodWord
def headw (a : Nat) : Cond := match mEx a with | [] => .code (mY a) (mCode a) (mMax a) (mRet a) | x :: r => .codeWith (mY a) (mCode a) (mMax a) (mRet a) (x :: r)
def WS (a : Nat) : List Cond := headw a :: TB
def kSl : List Nat := [0, 2, 1]
def kSb : List (List Int32) := [[], [58, 32], [32]]
def dTen (j : Nat) : Int32 := Int32.ofNat (48 + j / 10)
def dOne (j : Nat) : Int32 := Int32.ofNat (48 + j % 10)
def isNest (w : Jvm.Cond) : Bool := match w with | .fieldLinkNest .. => true | .methodLinkNest .. => true | _ => false
def WF : List Jvm.Cond := lT.filter (fun w => w.onTables && w.keepsFace)
def WN : List Jvm.Cond := lT.filter isNest
def exN (k : Nat) : String := match nth kE k with | some x => x | none => ""
/-- what every method finds, in the state that it starts in -/
def Env (P : GP) (U : State) : Prop := va_K (gD P) mCl (tys P) U ∧ gN P ≤ U.heap.size ∧ va_X (gA P 0) (gL P) (gX P) U U.heap ∧ gA P 0 < gN P ∧
  (∀ w ∈ WF, w.before #[] U = true) ∧ (∀ w ∈ WN, w.before #[] U = true) ∧
  vx_Zq Bundle.tN "UNASSIGNED_STACK" Bundle.steD (gF P) U U.heap ∧ vx_Zq Bundle.tN "SUPPRESSED_SENTINEL" Bundle.listD (gF P) U U.heap ∧
  (∀ q ∈ LR, ∃ sa : Nat, vk_R q.1 q.2.1 q.2.2 sa U) ∧ (∀ i q, nth LTx i = some q → vk_R q.1 q.2.1 q.2.2 (gA P (10 + i)) U) ∧
  vk_S 3 kSl kSb (fun i => gA P (10 + i)) (fun i => gA P (30 + i)) (gF P) U U.heap ∧
  va_Z "java/lang/String" "COMPACT_STRINGS" "Z" (.int 1) (gF P) U U.heap ∧
  (va_Z "java/lang/Integer" "DigitTens" "[B" (.ref (gA P 50)) (gF P) U U.heap ∧ va_T .byte (gA P 50) 100 (fun j => .int (dTen j)) (gF P) U U.heap) ∧
  (va_Z "java/lang/Integer" "DigitOnes" "[B" (.ref (gA P 51)) (gF P) U U.heap ∧ va_T .byte (gA P 51) 100 (fun j => .int (dOne j)) (gF P) U U.heap) ∧
  (va_Nc (exN 1) (exN 0) U ∧ va_Nc (exN 0) (exN 1) U) ∧ ((gl P).stackTraces = false ∧ (Jvm.Cond.arrayOver (.array .int)).before #[] U = true)
abbrev Res : Type := Option Value ⊕ Nat
abbrev Kt : Type := Res → mH → Prop
def QcK (P : GP) (K : Kt) : Array Value → State → Outcome → State → Prop := fun _ st o t => ∃ (v : Option Value) (h : mH), o = .returned (v.map (mV P)) ∧ K (.inl v) h ∧ Wd P h t.heap ∧ va_F (gF P) st t
def XcK (P : GP) (K : Kt) : String → State → State → Prop := fun E st t => ∃ (k : Nat) (h : mH), (k < 2 ∧ E = exN k) ∧ K (.inr k) h ∧ Wd P h t.heap ∧ va_F (gF P) st t
def PcK (P : GP) (args : List Value) (h : mH) : Array Value → State → Prop := fun a U => a = (args.map (mV P)).toArray ∧ Env P U ∧ Wd P h U.heap
/-- method a, called with args over h: in d frames, mc cells, ms slots it answers or throws so that K holds -/
def M (P : GP) (a : Nat) (args : List Value) (h : mH) (mc ms d : Nat) (K : Kt) : Prop :=
  vx_Met (gl P) (mY a) (WS a) { frames := d, cells := mc, slots := ms, locals := 100 * d } (PcK P args h) (QcK P K) (XcK P K) mc ms (gF P)
/-- what stays through a method's body -/
def Fx (P : GP) (a d : Nat) (p : Program) (R : Room) (s : State) (m : MethodId) (args : Array Value) (meth : Method) (c : Code) : Prop :=
  p.tables.exec = Jvm.exec ∧ c.code = mCode a ∧ c.maxLocals = mMax a ∧ meth.sig.returnType = mRet a ∧ s.vm.findClass (mOwn a) = some m.cls ∧ (∀ w ∈ TB, w.before args s = true) ∧ Env P s ∧ meth.locks = false ∧ meth.name = (mY a).name ∧ c.exceptionTable.toList = tableOf (mEx a) ∧ d ≤ R.frames ∧ 100 * d ≤ R.locals
def Dy (P : GP) (R : Room) (s : State) (H : Heap) (locs : List Loc) (cells slots : Nat) (h : mH) (cb sb : Nat) : Prop := cells + cb ≤ R.cells ∧ slots + sb ≤ R.slots ∧ va_S (gF P) s.heap H locs ∧ Wd P h H
/-- method a at pc, with locals L, stack st, heap h, cb cells and sb slots left: it comes to an end with K -/
def G (P : GP) (a : Nat) (K : Kt) (d pc : Nat) (L : mLs) (st : List Value) (h : mH) (cb sb : Nat) : Prop :=
  ∀ (p : Program) (e : Jvm.Env) (R : Room) (s : State) (m : MethodId) (args : Array Value) (below : List Frame) (meth : Method) (c : Code) (H : Heap) (locs : List Loc) (cells slots : Nat) (ls : Array Slot),
    Fx P a d p R s m args meth c → Dy P R s H locs cells slots h cb sb → LV P ls (mMax a) L →
    W p (gl P) e R s m args below meth c H locs cells slots (vx_MQ below (QcK P K) (XcK P K) args s R.cells R.slots (gF P)) (F0 m pc ls (st.map (mV P)))
end
section
/-! the steps of the small machine: 'run n cs L st h cb sb' is what is left to show, some n steps on -/
abbrev Ct : Type := List Ent → mLs → List Value → mH → Nat → Nat → Prop
def nxt (P : GP) (a : Nat) (K : Kt) (d : Nat) (k : Ct) (pc : Nat) (cs : List Ent) (L : mLs) (st : List Value) (h : mH) (cb sb : Nat) : Prop :=
  match cs with
  | [] => G P a K d pc L st h cb sb
  | e :: es => match Nat.beq e.1 pc with
    | true => match e.2.2.2.2.2.2 with
      | true => G P a K d e.1 L st h cb sb
      | false => k (e :: es) L st h cb sb
    | false => False
def jmp (P : GP) (a : Nat) (K : Kt) (d : Nat) (k : Ct) (t : Nat) : mLs → List Value → mH → Nat → Nat → Prop := nxt P a K d k t (seekC (mChk a) t)
def p1i (st : List Value) (f : Int32 → List Value → Prop) : Prop := match st with | .int x :: r => f x r | _ => False
def p2i (st : List Value) (f : Int32 → Int32 → List Value → Prop) : Prop := match st with | .int y :: .int x :: r => f x y r | _ => False
def p1l (st : List Value) (f : Int64 → List Value → Prop) : Prop := match st with | .long x :: r => f x r | _ => False
def p2l (st : List Value) (f : Int64 → Int64 → List Value → Prop) : Prop := match st with | .long y :: .long x :: r => f x y r | _ => False
def plj (st : List Value) (f : Int64 → Int32 → List Value → Prop) : Prop := match st with | .int y :: .long x :: r => f x y r | _ => False
def ldI (L : mLs) (i : Nat) (f : Int32 → Prop) : Prop := match nth L i with | some (some (.int x)) => f x | _ => False
def ldL (L : mLs) (i : Nat) (f : Int64 → Prop) : Prop := match nth L i with | some (some (.long x)) => f x | _ => False
def ldA (L : mLs) (i : Nat) (f : Value → Prop) : Prop := match nth L i with
  | some (some (.ref x)) => f (.ref x)
  | some (some (.retAddr x)) => f (.retAddr x)
  | some (some .null) => f .null
  | _ => False
def cat2 (x : Option Value) : Bool := match x with | some (.long _) => true | some (.double _) => true | _ => false
/-- a value of one slot (or none that is known) is put at place i -/
def set1 : mLs → Nat → Option Value → (mLs → Prop) → Prop
  | _ :: t, 0, v, f => f (v :: t)
  | x :: _ :: t, 1, v, f => match cat2 x with | true => f (none :: v :: t) | false => f (x :: v :: t)
  | x :: t, n + 2, v, f => set1 t (n + 1) v (fun l => f (x :: l))
  | _, _, _, _ => False
def set2 : mLs → Nat → Option Value → (mLs → Prop) → Prop
  | _ :: _ :: t, 0, v, f => f (v :: none :: t)
  | x :: _ :: _ :: t, 1, v, f => match cat2 x with | true => f (none :: v :: none :: t) | false => f (x :: v :: none :: t)
  | x :: t, n + 2, v, f => set2 t (n + 1) v (fun l => f (x :: l))
  | _, _, _, _ => False
def cI (i : Nat) (f : Int32 → Prop) : Prop := match nth kI i with | some v => f v | none => False
def cJ (i : Nat) (f : Int64 → Prop) : Prop := match nth kJ i with | some v => f v | none => False
def condI (c : ClassFile.Cond) (x y : Int32) (t f : Prop) : Prop := match c with
  | .eq => (x = y → t) ∧ (¬ x = y → f)
  | .ne => (x = y → f) ∧ (¬ x = y → t)
  | .lt => (x < y → t) ∧ (¬ x < y → f)
  | .ge => (x < y → f) ∧ (¬ x < y → t)
  | .gt => (y < x → t) ∧ (¬ y < x → f)
  | .le => (y < x → f) ∧ (¬ y < x → t)
def condL (c : ClassFile.Cond) (x y : Int64) (t f : Prop) : Prop := match c with
  | .eq => (x = y → t) ∧ (¬ x = y → f)
  | .ne => (x = y → f) ∧ (¬ x = y → t)
  | .lt => (x < y → t) ∧ (¬ x < y → f)
  | .ge => (x < y → f) ∧ (¬ x < y → t)
  | .gt => (y < x → t) ∧ (¬ y < x → f)
  | .le => (y < x → f) ∧ (¬ y < x → t)
def swi : List (Int32 × Nat) → Int32 → (Nat → Prop) → Nat → Prop
  | [], _, f, df => f df
  | q :: r, v, f, df => (v = q.1 → f q.2) ∧ (¬ v = q.1 → swi r v f df)
def popN : Nat → List Value → List Value → (List Value → List Value → Prop) → Prop
  | 0, st, as, f => f as st
  | n + 1, v :: st, as, f => popN n st (v :: as) f
  | _ + 1, [], _, _ => False
def catS : List Value → Nat
  | [] => 0
  | v :: r => v.category + catS r
def mDf (ci : Nat) : List Value := match ci with
  | 0 => [.null, .int 0, .int 0, .int 0]
  | 1 => [.null, .int 0, .int 0, .int 0]
  | 2 => [.null, .null, .null, .null, .int 0, .int 0]
  | 3 => [.long 0, .null]
  | _ => [.int 0, .null, .null, .null, .null, .int 0, .int 0]
def mTy (ci k : Nat) : FieldType := match ci with | 0 => yT0 k | 1 => yT1 k | 2 => yT2 k | 3 => yT3 k | _ => yT4 k
def fitK (ty : FieldType) (v : Value) (q : Prop) : Prop := match ty with
  | .int => match v with | .int _ => q | _ => False
  | .long => match v with | .long _ => q | _ => False
  | .array _ => match v with | .ref _ => q | .null => q | .retAddr _ => q | _ => False
  | .object _ => match v with | .ref _ => q | .null => q | .retAddr _ => q | _ => False
  | .byte => match v with | .int x => (narrow .byte (.int x) = .int x ∧ fits .byte (.int x) = true) ∧ q | _ => False
  | .boolean => match v with | .int x => (narrow .boolean (.int x) = .int x ∧ fits .boolean (.int x) = true) ∧ q | _ => False
  | _ => False
def gtf (h : mH) (st : List Value) (ci j : Nat) (f : Value → List Value → Prop) : Prop := match st with
  | .ref i :: r => match nth h i with
    | some (.inr (cj, fs)) => match Nat.beq cj ci with
      | true => match nth fs j with | some v => f v r | none => False
      | false => False
    | _ => False
  | .retAddr c :: r => match Nat.ble 10 c && Nat.blt c 13 && Nat.beq ci 0 with
    | true => match j with | 0 => f (.retAddr (c + 20)) r | 1 => f (.int 0) r | _ => False
    | false => False
  | _ => False
def ptf (h : mH) (st : List Value) (ci j : Nat) (f : mH → List Value → Prop) : Prop := match st with
  | v :: .ref i :: r => match nth h i with
    | some (.inr (cj, fs)) => match Nat.beq cj ci with
      | true => match nth fs j with | some _ => fitK (mTy ci j) v (f (h.set i (.inr (ci, fs.set j v))) r) | none => False
      | false => False
    | _ => False
  | _ => False
/-- bytes that are fixed: of the texts, and of the tables of digits -/
def cBy (c : Nat) : Option (Nat × (Nat → Int32)) := match Nat.ble 30 c && Nat.blt c 33 with
  | true => match nth kSl (c - 30) with | some n => some (n, fun j => (kSb.getD (c - 30) []).getD j 0) | none => none
  | false => match Nat.beq c 50 with | true => some (100, dTen) | false => match Nat.beq c 51 with | true => some (100, dOne) | false => none
def alI (P : GP) (h : mH) (st : List Value) (f : Value → List Value → Prop) : Prop := match st with
  | .int j :: .ref i :: r => match nth h i with
    | some (.inl (k, n, .inl g)) => match Nat.beq k 1 with | true => vp_in j n ∧ f (.int (g j.toNatClampNeg)) r | false => False
    | _ => False
  | .int j :: .retAddr c :: r => match c with | 0 => vp_in j (gL P) ∧ f (.int (gX P j.toNatClampNeg)) r | _ => False
  | _ => False
def alB (h : mH) (st : List Value) (f : Value → List Value → Prop) : Prop := match st with
  | .int j :: .ref i :: r => match nth h i with
    | some (.inl (k, n, .inl g)) => match Nat.beq k 0 with | true => vp_in j n ∧ f (.int (g j.toNatClampNeg)) r | false => False
    | _ => False
  | .int j :: .retAddr c :: r => match cBy c with | some (n, g) => vp_in j n ∧ f (.int (g j.toNatClampNeg)) r | none => False
  | _ => False
def alL (h : mH) (st : List Value) (f : Value → List Value → Prop) : Prop := match st with
  | .int j :: .ref i :: r => match nth h i with
    | some (.inl (k, n, .inr (.inl g))) => match Nat.beq k 2 with | true => vp_in j n ∧ f (.long (g j.toNatClampNeg)) r | false => False
    | _ => False
  | _ => False
def alA (h : mH) (st : List Value) (f : Value → List Value → Prop) : Prop := match st with
  | .int j :: .ref i :: r => match nth h i with
    | some (.inl (k, n, .inr (.inr (.inr (.inr g))))) => match Nat.beq k 3 with | true => vp_in j n ∧ (∀ q, g j.toNatClampNeg = some q → f (.ref q) r) ∧ ¬ g j.toNatClampNeg = none | false => False
    | _ => False
  | _ => False
def asI (h : mH) (st : List Value) (f : mH → List Value → Prop) : Prop := match st with
  | .int x :: .int j :: .ref i :: r => match nth h i with
    | some (.inl (k, n, .inl g)) => match Nat.beq k 1 with | true => vp_in j n ∧ f (h.set i (.inl (k, n, .inl (upd g j.toNatClampNeg x)))) r | false => False
    | _ => False
  | _ => False
def asB (h : mH) (st : List Value) (f : mH → List Value → Prop) : Prop := match st with
  | .int x :: .int j :: .ref i :: r => match nth h i with
    | some (.inl (k, n, .inl g)) => match Nat.beq k 0 with | true => vp_in j n ∧ f (h.set i (.inl (k, n, .inl (upd g j.toNatClampNeg (vp_nar .byte x))))) r | false => False
    | _ => False
  | _ => False
def asL (h : mH) (st : List Value) (f : mH → List Value → Prop) : Prop := match st with
  | .long x :: .int j :: .ref i :: r => match nth h i with
    | some (.inl (k, n, .inr (.inl g))) => match Nat.beq k 2 with | true => vp_in j n ∧ f (h.set i (.inl (k, n, .inr (.inl (vp_updL g j.toNatClampNeg x))))) r | false => False
    | _ => False
  | _ => False
def aln (P : GP) (h : mH) (st : List Value) (f : Value → List Value → Prop) : Prop := match st with
  | .ref i :: r => match nth h i with | some (.inl (k, n, _)) => (match Nat.blt k 4 with | true => f (.int (Int32.ofNat n)) r | false => False) | _ => False
  | .retAddr c :: r => match c with | 0 => f (.int (Int32.ofNat (gL P))) r | c' + 1 => match cBy (c' + 1) with | some (n, _) => f (.int (Int32.ofNat n)) r | none => False
  | _ => False
def isR (t : Option FieldType) : Bool := match t with | some (.object _) => true | some (.array _) => true | _ => false
def junk : va_E := .inr (9, [])
/-- which of the two exceptions an entry of a table names -/
def catE : List (Nat × Nat) → Nat → Option Nat
  | [], _ => none
  | q :: r, i => match Nat.beq q.1 i with | true => some q.2 | false => catE r i
def findH : List (Nat × Nat × Nat × Nat) → Nat → Nat → Option Nat
  | [], _, _ => none
  | x :: r, pc, E => match Nat.ble x.1 pc && Nat.blt pc x.2.1 with
    | true => match catE kC x.2.2.2 with
      | some E2 => match Nat.beq E2 E with | true => some x.2.2.1 | false => findH r pc E
      | none => some 65535
    | false => findH r pc E
def thr (P : GP) (a : Nat) (K : Kt) (d : Nat) (k : Ct) (pc : Nat) (L : mLs) (h : mH) (cb sb E : Nat) : Prop := match findH (mEx a) pc E with
  | none => K (.inr E) h
  | some t => match seekC (mChk a) t with
    | e :: cs => match e.2.1 with
      | .astore _ => set1 L e.2.2.2.1 none (fun L => nxt P a K d k (e.1 + e.2.2.1) cs L [] h cb sb)
      | .astore_n _ => set1 L e.2.2.2.1 none (fun L => nxt P a K d k (e.1 + e.2.2.1) cs L [] h cb sb)
      | _ => False
    | [] => False
def cal (P : GP) (a : Nat) (K : Kt) (d : Nat) (k : Ct) (pc n : Nat) (cs : List Ent) (L : mLs) (h : mH) (cb sb x : Nat) (as r : List Value) : Prop :=
  match Nat.ble (catS r) 8 with
  | true => ∃ mc ms d' : Nat, M P x as h mc ms d' (fun res h' => match res with
      | .inl v => match v with
        | some w => nxt P a K d k (pc + n) cs L (w :: r) h' (cb - mc) (sb - ms)
        | none => nxt P a K d k (pc + n) cs L r h' (cb - mc) (sb - ms)
      | .inr E => thr P a K d k pc L h' (cb - mc) (sb - ms) E) ∧ mc ≤ cb ∧ ms ≤ sb ∧ d' + 1 ≤ d
  | false => False
def stepI (P : GP) (a : Nat) (K : Kt) (d : Nat) (k : Ct) (e : Ent) (cs : List Ent) (L : mLs) (st : List Value) (h : mH) (cb sb : Nat) : Prop :=
  match e with
  | (pc, i, n, x, y, z, _) => match i with
    | .iconst _ => cI x fun v => nxt P a K d k (pc + n) cs L (.int v :: st) h cb sb
    | .bipush _ => cI x fun v => nxt P a K d k (pc + n) cs L (.int v :: st) h cb sb
    | .sipush _ => cI x fun v => nxt P a K d k (pc + n) cs L (.int v :: st) h cb sb
    | .lconst _ => cJ x fun v => nxt P a K d k (pc + n) cs L (.long v :: st) h cb sb
    | .ldc2_w _ => cJ x fun v => nxt P a K d k (pc + n) cs L (.long v :: st) h cb sb
    | .aconst_null => nxt P a K d k (pc + n) cs L (.null :: st) h cb sb
    | .iload _ => ldI L x fun v => nxt P a K d k (pc + n) cs L (.int v :: st) h cb sb
    | .iload_n _ => ldI L x fun v => nxt P a K d k (pc + n) cs L (.int v :: st) h cb sb
    | .lload _ => ldL L x fun v => nxt P a K d k (pc + n) cs L (.long v :: st) h cb sb
    | .lload_n _ => ldL L x fun v => nxt P a K d k (pc + n) cs L (.long v :: st) h cb sb
    | .aload _ => ldA L x fun v => nxt P a K d k (pc + n) cs L (v :: st) h cb sb
    | .aload_n _ => ldA L x fun v => nxt P a K d k (pc + n) cs L (v :: st) h cb sb
    | .istore _ => p1i st fun v r => set1 L x (some (.int v)) fun L => nxt P a K d k (pc + n) cs L r h cb sb
    | .istore_n _ => p1i st fun v r => set1 L x (some (.int v)) fun L => nxt P a K d k (pc + n) cs L r h cb sb
    | .lstore _ => p1l st fun v r => set2 L x (some (.long v)) fun L => nxt P a K d k (pc + n) cs L r h cb sb
    | .lstore_n _ => p1l st fun v r => set2 L x (some (.long v)) fun L => nxt P a K d k (pc + n) cs L r h cb sb
    | .astore _ => match st with
      | .ref v :: r => set1 L x (some (.ref v)) fun L => nxt P a K d k (pc + n) cs L r h cb sb
      | .retAddr v :: r => set1 L x (some (.retAddr v)) fun L => nxt P a K d k (pc + n) cs L r h cb sb
      | _ => False
    | .astore_n _ => match st with
      | .ref v :: r => set1 L x (some (.ref v)) fun L => nxt P a K d k (pc + n) cs L r h cb sb
      | .retAddr v :: r => set1 L x (some (.retAddr v)) fun L => nxt P a K d k (pc + n) cs L r h cb sb
      | _ => False
    | .iinc _ _ => ldI L x fun v => cI y fun w => set1 L x (some (.int (v + w))) fun L => nxt P a K d k (pc + n) cs L st h cb sb
    | .iadd => p2i st fun u v r => nxt P a K d k (pc + n) cs L (.int (u + v) :: r) h cb sb
    | .isub => p2i st fun u v r => nxt P a K d k (pc + n) cs L (.int (u - v) :: r) h cb sb
    | .imul => p2i st fun u v r => nxt P a K d k (pc + n) cs L (.int (u * v) :: r) h cb sb
    | .iand => p2i st fun u v r => nxt P a K d k (pc + n) cs L (.int (u &&& v) :: r) h cb sb
    | .ior => p2i st fun u v r => nxt P a K d k (pc + n) cs L (.int (u ||| v) :: r) h cb sb
    | .idiv => p2i st fun u v r => ¬ v = 0 ∧ nxt P a K d k (pc + n) cs L (.int (u / v) :: r) h cb sb
    | .irem => p2i st fun u v r => ¬ v = 0 ∧ nxt P a K d k (pc + n) cs L (.int (u - u / v * v) :: r) h cb sb
    | .ineg => p1i st fun v r => nxt P a K d k (pc + n) cs L (.int (-v) :: r) h cb sb
    | .ishl => p2i st fun u v r => nxt P a K d k (pc + n) cs L (.int (u <<< (v &&& 31)) :: r) h cb sb
    | .ishr => p2i st fun u v r => nxt P a K d k (pc + n) cs L (.int (u >>> (v &&& 31)) :: r) h cb sb
    | .iushr => p2i st fun u v r => nxt P a K d k (pc + n) cs L (.int (u.toUInt32 >>> (v.toUInt32 &&& Int32.toUInt32 31)).toInt32 :: r) h cb sb
    | .i2l => p1i st fun v r => nxt P a K d k (pc + n) cs L (.long v.toInt64 :: r) h cb sb
    | .i2b => p1i st fun v r => nxt P a K d k (pc + n) cs L (.int v.toInt8.toInt32 :: r) h cb sb
    | .i2c => p1i st fun v r => nxt P a K d k (pc + n) cs L (.int (v.toUInt32 % 65536).toInt32 :: r) h cb sb
    | .l2i => p1l st fun v r => nxt P a K d k (pc + n) cs L (.int v.toInt32 :: r) h cb sb
    | .ladd => p2l st fun u v r => nxt P a K d k (pc + n) cs L (.long (u + v) :: r) h cb sb
    | .lsub => p2l st fun u v r => nxt P a K d k (pc + n) cs L (.long (u - v) :: r) h cb sb
    | .lmul => p2l st fun u v r => nxt P a K d k (pc + n) cs L (.long (u * v) :: r) h cb sb
    | .land => p2l st fun u v r => nxt P a K d k (pc + n) cs L (.long (u &&& v) :: r) h cb sb
    | .lor => p2l st fun u v r => nxt P a K d k (pc + n) cs L (.long (u ||| v) :: r) h cb sb
    | .lxor => p2l st fun u v r => nxt P a K d k (pc + n) cs L (.long (u ^^^ v) :: r) h cb sb
    | .ldiv => p2l st fun u v r => ¬ v = 0 ∧ nxt P a K d k (pc + n) cs L (.long (u / v) :: r) h cb sb
    | .lrem => p2l st fun u v r => ¬ v = 0 ∧ nxt P a K d k (pc + n) cs L (.long (u - u / v * v) :: r) h cb sb
    | .lneg => p1l st fun v r => nxt P a K d k (pc + n) cs L (.long (-v) :: r) h cb sb
    | .lshl => plj st fun u v r => nxt P a K d k (pc + n) cs L (.long (u <<< (v.toInt64 &&& 63)) :: r) h cb sb
    | .lshr => plj st fun u v r => nxt P a K d k (pc + n) cs L (.long (u >>> (v.toInt64 &&& 63)) :: r) h cb sb
    | .lushr => plj st fun u v r => nxt P a K d k (pc + n) cs L (.long (u.toUInt64 >>> (v.toInt64.toUInt64 &&& Int64.toUInt64 63)).toInt64 :: r) h cb sb
    | .dup => match st with | .ref v :: r => nxt P a K d k (pc + n) cs L (.ref v :: .ref v :: r) h cb sb | .int v :: r => nxt P a K d k (pc + n) cs L (.int v :: .int v :: r) h cb sb | _ => False
    | .dup_x1 => match st with
      | .int v :: .ref w :: r => nxt P a K d k (pc + n) cs L (.int v :: .ref w :: .int v :: r) h cb sb
      | _ => False
    | .pop => match st with | .ref _ :: r => nxt P a K d k (pc + n) cs L r h cb sb | .int _ :: r => nxt P a K d k (pc + n) cs L r h cb sb | _ => False
    | .pop2 => p1l st fun _ r => nxt P a K d k (pc + n) cs L r h cb sb
    | .ifCond c _ => p1i st fun v r => condI c v 0 (jmp P a K d k x L r h cb sb) (nxt P a K d k (pc + n) cs L r h cb sb)
    | .if_icmp c _ => p2i st fun u v r => condI c u v (jmp P a K d k x L r h cb sb) (nxt P a K d k (pc + n) cs L r h cb sb)
    | .lcmp => p2l st fun u v r => match cs with
      | (pc2, j, n2, x2, _, _, fl) :: cs2 => match Nat.beq pc2 (pc + n) && !fl with
        | true => match j with
          | .ifCond c _ => condL c u v (jmp P a K d k x2 L r h cb sb) (nxt P a K d k (pc2 + n2) cs2 L r h cb sb)
          | _ => False
        | false => False
      | [] => False
    | .goto _ => jmp P a K d k x L st h cb sb
    | .ifnonnull _ => match st with
      | .ref _ :: r => jmp P a K d k x L r h cb sb
      | .retAddr _ :: r => jmp P a K d k x L r h cb sb
      | _ => False
    | .tableswitch _ _ _ _ => p1i st fun v r => match nth kS z with
      | some l => swi l v (fun t => jmp P a K d k t L r h cb sb) x
      | none => False
    | .getfield _ => gtf h st x y fun v r => nxt P a K d k (pc + n) cs L (v :: r) h cb sb
    | .putfield _ => ptf h st x y fun h r => nxt P a K d k (pc + n) cs L r h cb sb
    | .getstatic _ => match x with
      | 0 => nxt P a K d k (pc + n) cs L (.int 1 :: st) h cb sb
      | 1 => nxt P a K d k (pc + n) cs L (.retAddr 50 :: st) h cb sb
      | 2 => nxt P a K d k (pc + n) cs L (.retAddr 51 :: st) h cb sb
      | _ => False
    | .iaload => alI P h st fun v r => nxt P a K d k (pc + n) cs L (v :: r) h cb sb
    | .baload => alB h st fun v r => nxt P a K d k (pc + n) cs L (v :: r) h cb sb
    | .laload => alL h st fun v r => nxt P a K d k (pc + n) cs L (v :: r) h cb sb
    | .aaload => alA h st fun v r => nxt P a K d k (pc + n) cs L (v :: r) h cb sb
    | .iastore => asI h st fun h r => nxt P a K d k (pc + n) cs L r h cb sb
    | .bastore => asB h st fun h r => nxt P a K d k (pc + n) cs L r h cb sb
    | .lastore => asL h st fun h r => nxt P a K d k (pc + n) cs L r h cb sb
    | .arraylength => aln P h st fun v r => nxt P a K d k (pc + n) cs L (v :: r) h cb sb
    | .ldc _ => match y with
      | 0 => cI x fun v => nxt P a K d k (pc + n) cs L (.int v :: st) h cb sb
      | 1 => match Nat.blt x 3 with | true => nxt P a K d k (pc + n) cs L (.retAddr (10 + x) :: st) h cb sb | false => False
      | _ => False
    | .new _ => match Nat.ble 100 x with
      | true => match mEx a with
        | [] => (1 ≤ cb ∧ 6 ≤ sb ∧ 6 ≤ d ∧ catS st ≤ 8) ∧ ∀ j, K (.inr (x - 100)) (h ++ List.replicate j junk)
        | _ :: _ => False
      | false => match Nat.ble 5 x with
        | true => False
        | false => (1 ≤ cb ∧ y ≤ sb) ∧ nxt P a K d k (pc + n) cs L (.ref h.length :: st) (h ++ [.inr (x, mDf x)]) (cb - 1) (sb - y)
    | .newarray _ => p1i st fun v r => (¬ v < 0 ∧ 1 ≤ cb ∧ v.toNatClampNeg ≤ sb ∧ v.toNatClampNeg ≤ 67108864) ∧ match x with
      | 0 => nxt P a K d k (pc + n) cs L (.ref h.length :: r) (h ++ [.inl (0, v.toNatClampNeg, .inl (fun _ => 0))]) (cb - 1) (sb - v.toNatClampNeg)
      | 1 => nxt P a K d k (pc + n) cs L (.ref h.length :: r) (h ++ [.inl (1, v.toNatClampNeg, .inl (fun _ => 0))]) (cb - 1) (sb - v.toNatClampNeg)
      | 2 => nxt P a K d k (pc + n) cs L (.ref h.length :: r) (h ++ [.inl (2, v.toNatClampNeg, .inr (.inl (fun _ => 0)))]) (cb - 1) (sb - v.toNatClampNeg)
      | _ => False
    | .invokestatic _ => match z with
      | 0 => popN y st [] fun as r => cal P a K d k pc n cs L h cb sb x as r
      | 8 => popN y st [] fun as r => cal P a K d k pc n cs L h cb sb x as r
      | _ => False
    | .invokevirtual _ => match Nat.beq (z / 16) 1 || Nat.beq (z / 16) 2 || Nat.beq (z / 16) 3 with
      | true => popN (y + 1) st [] fun as r => match as with
        | .ref i :: as' => match nth h i with
          | some (.inr (ci, _)) => match Nat.beq ci (z % 16) with
            | true => cal P a K d k pc n cs L h cb sb x (.ref i :: as') r
            | false => False
          | _ => False
        | .retAddr c :: as' => match Nat.beq (z % 16) 0 && Nat.ble 10 c && Nat.blt c 13 with
          | true => cal P a K d k pc n cs L h cb sb x (.retAddr c :: as') r
          | false => False
        | _ => False
      | false => False
    | .invokespecial _ => match z with
      | 4 => popN (y + 1) st [] fun as r => match as with
        | .ref i :: as' => match nth h i with
          | some (.inr (ci, _)) => match Nat.blt ci 5 with
            | true => cal P a K d k pc n cs L h cb sb x (.ref i :: as') r
            | false => False
          | _ => False
        | _ => False
      | 5 => popN (y + 1) st [] fun as r => match as with | .ref i :: as' => cal P a K d k pc n cs L h cb sb x (.ref i :: as') r | _ => False
      | 6 => popN (y + 1) st [] fun as r => match as with | .ref i :: as' => cal P a K d k pc n cs L h cb sb x (.ref i :: as') r | _ => False
      | 7 => match st with
        | .ref _ :: r => match Nat.ble (catS r) 8 && Nat.ble 1 d with
          | true => nxt P a K d k (pc + n) cs L r h cb sb
          | false => False
        | _ => False
      | _ => False
    | .return_ => match st with | [] => (match mRet a with | none => K (.inl none) h | some _ => False) | _ :: _ => False
    | .ireturn => p1i st fun v r => match r with
      | [] => match mRet a with
        | some .int => K (.inl (some (.int v))) h
        | some ty => narrow ty (.int v) = .int v ∧ K (.inl (some (.int v))) h
        | none => False
      | _ => False
    | .lreturn => p1l st fun v r => match r with
      | [] => match mRet a with | some .long => K (.inl (some (.long v))) h | _ => False
      | _ => False
    | .areturn => match st with
      | [.ref v] => match isR (mRet a) with | true => K (.inl (some (.ref v))) h | false => False
      | [.retAddr v] => match isR (mRet a) with | true => K (.inl (some (.retAddr v))) h | false => False
      | _ => False
    | _ => False
def run (P : GP) (a : Nat) (K : Kt) (d : Nat) : Nat → Ct
  | 0 => fun cs L st h cb sb => match cs with | [] => False | e :: _ => G P a K d e.1 L st h cb sb
  | n + 1 => fun cs L st h cb sb => match cs with
    | [] => False
    | e :: es => stepI P a K d (run P a K d n) e es L st h cb sb
end
section
/-! what each instruction's entry promises, decided by program; plain facts of the small machine's parts -/
/-- kinds of words: 0 good ones, 1 of nest mates, 2 those of the tables alone -/
def okK (k : Nat) (w : Jvm.Cond) : Bool := match k with | 0 => goodWord w | 1 => isNest w | _ => w.onTables && w.keepsFace
def nmX : List String := ["java/lang/RuntimeException", "java/lang/Exception"]
def mTt (ci : Nat) : u_T := match ci with | 0 => tT0 | 1 => tT1 | 2 => tT2 | 3 => tT3 | _ => tT4
def mNn (ci : Nat) : Nat := match ci with | 0 => 4 | 1 => 4 | 2 => 6 | 3 => 2 | _ => 7
def mCn (ci : Nat) : String := match ci with | 0 => rc_STR | 1 => rc_SB | 2 => rc_X | 3 => rc_O | _ => rc_M
def lnS (x y : Nat) : Bool := decide ((mY x).cls ≠ "java/lang/invoke/MethodHandle" ∧ (mY x).cls ≠ "java/lang/invoke/VarHandle" ∧ (parseMethodDescriptor (mY x).desc).map (fun d => d.parameters.length) = some y) && Nat.ble (mMax x) 81
def oY (x : Nat) : MethodName := ⟨rc_ASB, (mY x).name, (mY x).desc⟩
def fWd (a ix x y : Nat) : Jvm.Cond := .fieldLink (mOwn a) ix (mTt x y).1 (mTt x y).2.1 (mTt x y).2.2.1
def fWn (a ix x y : Nat) : Jvm.Cond := .fieldLinkNest (mOwn a) ix (mTt x y).1 (mTt x y).2.1 (mTt x y).2.2.1 (mOwn a)
/-- the words that an entry needs -/
def lnW (a : Nat) (i : Instr) (x y z : Nat) : List (Nat × Jvm.Cond) := match i with
  | .ldc2_w ix => match nth kJ x with | some v => [(0, .constantLong (mOwn a) ix v)] | none => []
  | .getfield ix => match z with | 1 => [(1, fWn a ix x y)] | _ => [(0, fWd a ix x y)]
  | .putfield ix => match z with | 1 => [(1, fWn a ix x y)] | _ => [(0, fWd a ix x y)]
  | .getstatic ix => match x with
    | 0 => [(0, .fieldLink (mOwn a) ix "java/lang/String" "COMPACT_STRINGS" "Z")]
    | 1 => [(0, .fieldLink (mOwn a) ix "java/lang/Integer" "DigitTens" "[B")]
    | 2 => [(0, .fieldLink (mOwn a) ix "java/lang/Integer" "DigitOnes" "[B")]
    | _ => []
  | .ldc ix => match y with
    | 0 => match nth kI x with | some v => [(0, .constant (mOwn a) ix v)] | none => []
    | _ => []
  | .new ix => match Nat.ble 100 x with
    | true => [(0, .classLink (mOwn a) ix (exN (x - 100))), (0, .initialized (exN (x - 100)))]
    | false => match Nat.ble 5 x with
      | true => []
      | false => [(0, .classLink (mOwn a) ix (mCn x)), (0, .instantiable (mCn x) (mNn x)), (0, .initialized (mCn x))]
  | .newarray _ => match x with | 0 => [(0, .arrayClass .byte)] | 1 => [(0, .arrayClass .int)] | 2 => [(0, .arrayClass .long)] | _ => []
  | .invokestatic ix => match z with
    | 0 => [(0, .methodLink (mOwn a) ix (mY x)), (0, .static (mY x)), (0, .initialized (mY x).cls), (0, headw x)]
    | 8 => [(0, .methodLink (mOwn a) ix (mY x)), (0, .static (mY x)), (0, .initialized (mY x).cls), (0, headw x)]
    | _ => []
  | .invokevirtual ix => match z / 16 with
    | 1 => [(0, .methodLink (mOwn a) ix (mY x)), (0, .instanceMethod (mY x)), (0, .selects (mCn (z % 16)) (mY x) (mY x)), (0, .initialized (mCn (z % 16))), (0, headw x)]
    | 2 => [(0, .methodLink (mOwn a) ix (mY x)), (0, .sameMethod (mY x).cls (mY x).cls (mY x).name (mY x).desc), (0, .selects (mCn (z % 16)) (mY x) (mY x)), (0, .instanceMethod (mY x)), (0, .initialized (mY x).cls), (0, headw x)]
    | 3 => [(0, .methodLink (mOwn a) ix (oY x)), (0, .sameMethod rc_ASB rc_ASB (mY x).name (mY x).desc), (0, .instanceMethod (oY x)), (0, .selects (mCn (z % 16)) (oY x) (mY x)), (0, .instanceMethod (mY x)), (0, .initialized (mY x).cls), (0, headw x), (0, headw n_ASB_length)]
    | _ => []
  | .invokespecial ix => match z with
    | 4 => [(0, .methodLink (mOwn a) ix (mY x)), (0, .sameMethod (mY x).cls (mY x).cls (mY x).name (mY x).desc), (0, .superclass (mOwn a) (mY x).cls), (0, .instanceMethod (mY x)), (0, .initialized (mY x).cls), (0, headw x)]
    | 5 => [(0, .methodLink (mOwn a) ix (mY x)), (0, .instanceMethod (mY x)), (0, .initialized (mY x).cls), (0, headw x)]
    | 6 => [(1, .methodLinkNest (mOwn a) ix (mY x) (mOwn a)), (0, .instanceMethod (mY x)), (0, .initialized (mY x).cls), (0, headw x)]
    | 7 => [(0, .methodLink (mOwn a) ix Lib.objectInit), (0, .instanceMethod Lib.objectInit), (0, .code Lib.objectInit ⟨#[0xb1]⟩ 1 none)]
    | _ => []
  | _ => []
def lnk (a pc : Nat) (i : Instr) (n x y z : Nat) : Bool := match i with
  | .iconst v => Nat.beq n 1 && decide (nth kI x = some (Int32.ofInt v))
  | .bipush v => Nat.beq n 2 && decide (nth kI x = some (Int8.ofInt v).toInt32)
  | .sipush v => Nat.beq n 3 && decide (nth kI x = some (Int16.ofInt v).toInt32)
  | .lconst v => Nat.beq n 1 && decide (nth kJ x = some (Int64.ofNat (v : Nat)))
  | .ldc2_w ix => Nat.beq n 3
  | .iload j => Nat.beq n 2 && Nat.beq j x
  | .iload_n j => Nat.beq n 1 && Nat.beq j.val x
  | .lload j => Nat.beq n 2 && Nat.beq j x
  | .lload_n j => Nat.beq n 1 && Nat.beq j.val x
  | .aload j => Nat.beq n 2 && Nat.beq j x
  | .aload_n j => Nat.beq n 1 && Nat.beq j.val x
  | .istore j => Nat.beq n 2 && Nat.beq j x
  | .istore_n j => Nat.beq n 1 && Nat.beq j.val x
  | .lstore j => Nat.beq n 2 && Nat.beq j x
  | .lstore_n j => Nat.beq n 1 && Nat.beq j.val x
  | .astore j => Nat.beq n 2 && Nat.beq j x
  | .astore_n j => Nat.beq n 1 && Nat.beq j.val x
  | .iinc j v => Nat.beq n 3 && Nat.beq j x && decide (nth kI y = some (Int32.ofInt v))
  | .ifCond _ o => Nat.beq n 3 && decide ((pc : Int) + o = (x : Int))
  | .if_icmp _ o => Nat.beq n 3 && decide ((pc : Int) + o = (x : Int))
  | .goto o => Nat.beq n 3 && decide ((pc : Int) + o = (x : Int))
  | .ifnonnull o => Nat.beq n 3 && decide ((pc : Int) + o = (x : Int))
  | .tableswitch df lo hi offs => decide ((pc : Int) + df = (x : Int)) && decide (lo = 0) && match nth kS z with
    | some l => decide (hi + 1 = (l.length : Int)) && (List.range l.length).all (fun j => decide (∃ q, nth l j = some q ∧ q.1.toInt = (j : Int) ∧ ∃ o, offs[j]? = some o ∧ (pc : Int) + o = (q.2 : Int)))
    | none => false
  | .getfield _ => Nat.beq n 3 && Nat.blt x 5 && Nat.blt y (mNn x) && Nat.blt z 2
  | .putfield _ => Nat.beq n 3 && Nat.blt x 5 && Nat.blt y (mNn x) && match z with
    | 0 => !(mTt x y).2.2.2
    | 1 => !(mTt x y).2.2.2
    | 2 => (mTt x y).2.2.2 && decide ((mY a).name = "<init>") && decide ((mTt x y).1 = mOwn a)
    | _ => false
  | .getstatic _ => Nat.beq n 3
  | .ldc ix => Nat.beq n 2 && match y with
    | 1 => (match Nat.blt x 3 with | true => (match nth LTx x with | some t => decide (t.1 = mOwn a) && Nat.beq t.2.1 ix | none => false) | false => true)
    | _ => true
  | .new ix => Nat.beq n 3 && match Nat.ble 100 x with
    | true => decide (decode (mCode a) (pc + 3) = .ok (.dup, 1)) && decide (decode (mCode a) (pc + 4) = .ok (.ldc y, 2)) && decide (decode (mCode a) (pc + 6) = .ok (.invokespecial z, 3)) && decide (decode (mCode a) (pc + 9) = .ok (.athrow, 1)) &&
      (LR.any (fun q => decide (q.1 = mOwn a) && Nat.beq q.2.1 y)) && decide (mOwn a = rc_X) && decide (nth kZ (x - 100) = some z) && Nat.blt x 102
    | false => match Nat.ble 5 x with
      | true => true
      | false => Nat.beq y (mNn x)
  | .newarray t => Nat.beq n 2 && (match x with
    | 0 => decide (t = .byte)
    | 1 => decide (t = .int)
    | 2 => decide (t = .long)
    | _ => false)
  | .invokestatic _ => Nat.beq n 3 && match z with
    | 0 => lnS x y && decide (mEx x = [])
    | 8 => lnS x y && decide (mEx x ≠ [])
    | _ => true
  | .invokevirtual _ => Nat.beq n 3 && match z / 16 with
    | 1 => lnS x y && decide (mEx x = []) && decide ((mY x).cls = mCn (z % 16)) && Nat.blt (z % 16) 5
    | 2 => lnS x y && decide (mEx x = []) && Nat.blt (z % 16) 5
    | 3 => lnS x y && decide (mEx x = []) && Nat.blt (z % 16) 5 && decide (oY x = mY n_ASB_length) && decide (mEx n_ASB_length = [])
    | _ => true
  | .invokespecial _ => Nat.beq n 3 && match z with
    | 4 => lnS x y && decide (mEx x = []) && decide ((mY x).name ≠ "<init>")
    | 5 => lnS x y && decide (mEx x = []) && decide ((mY x).name = "<init>") && decide (mRet x = none)
    | 6 => lnS x y && decide (mEx x = []) && decide ((mY x).name = "<init>") && decide (mRet x = none)
    | _ => true
  | .checkcast _ => Nat.beq n 3
  | .ldc_w _ => Nat.beq n 3
  | .multianewarray _ _ => Nat.beq n 4
  | _ => Nat.beq n 1
def chkE (a : Nat) (e : Ent) : Bool := decide (decode (mCode a) e.1 = .ok (e.2.1, e.2.2.1)) && lnk a e.1 e.2.1 e.2.2.1 e.2.2.2.1 e.2.2.2.2.1 e.2.2.2.2.2.1
def wlE (a : Nat) (e : Ent) : List (Nat × Jvm.Cond) := lnW a e.2.1 e.2.2.2.1 e.2.2.2.2.1 e.2.2.2.2.2.1
def OkE (a : Nat) (e : Ent) : Prop := chkE a e = true ∧ ∀ q ∈ wlE a e, q.2 ∈ lT ∧ okK q.1 q.2 = true
def clsL : List String := [rc_D, rc_A, rc_R, rc_W, rc_X, rc_M, rc_O, rc_K, rc_SB, rc_ASB, rc_STR, rc_INT, rc_LNG, rc_ARR, rc_AS, rc_L1]
theorem clsL_ok : ∀ c ∈ clsL, plainName c = true := by decide +kernel
def mathL : List MethodName := [y_MA_floorDiv, y_MA_abs, y_MA_max_II, y_MA_max_JJ, y_MA_min_II, y_MA_min_JJ]
theorem mathL_ok : ∀ y ∈ mathL, plainFor y = true := by decide +kernel
def exOkB (a : Nat) : Bool := ((clsL.any (fun c => decide (c = (mY a).cls)) || mathL.any (fun y => decide (y = mY a))) && decide ((mY a).cls = mOwn a)) && (mEx a).all (fun x => decide (mOwn a = rc_K) && match catE kC x.2.2.2 with | some E => Nat.blt E 2 | none => false)
def AllOk (a : Nat) : Prop := (∀ ch ∈ mChk a, ∀ e ∈ ch.2.2, OkE a e) ∧ exOkB a = true
def wlA (a : Nat) : List (Nat × Jvm.Cond) := (mChk a).flatMap (fun ch => ch.2.2.flatMap (wlE a))
def allOkB (a : Nat) (ps : List Nat) : Bool := exOkB a && ((mChk a).all (fun ch => ch.2.2.all (chkE a)) && (decide ((wlA a).map (fun q => some q.2) = ps.map (nth lT)) && (wlA a).all (fun q => okK q.1 q.2)))
theorem nth_mem {α : Type} {l : List α} {n : Nat} {x : α} (h : nth l n = some x) : x ∈ l := by
  rw [nth_eq] at h
  exact List.mem_of_getElem? h
theorem allOk_of {a : Nat} (ps : List Nat) (h : allOkB a ps = true) : AllOk a := by
  unfold allOkB at h
  simp only [Bool.and_eq_true, decide_eq_true_eq] at h
  obtain ⟨h0, h1, h2, h3⟩ := h
  refine ⟨?_, h0⟩
  intro ch hc e he
  refine ⟨List.all_eq_true.mp (List.all_eq_true.mp h1 ch hc) e he, fun q hq => ?_⟩
  have hq2 : q ∈ wlA a := List.mem_flatMap.mpr ⟨ch, hc, List.mem_flatMap.mpr ⟨e, he, hq⟩⟩
  refine ⟨?_, List.all_eq_true.mp h3 q hq2⟩
  have h4 : some q.2 ∈ (wlA a).map (fun q => some q.2) := List.mem_map.mpr ⟨q, hq2, rfl⟩
  rw [h2] at h4
  obtain ⟨p, -, hp⟩ := List.mem_map.mp h4
  exact nth_mem hp
def chkD (cc : ByteArray) (a : Nat) (e : Ent) : Bool := decide (decode cc e.1 = .ok (e.2.1, e.2.2.1)) && lnk a e.1 e.2.1 e.2.2.1 e.2.2.2.1 e.2.2.2.2.1 e.2.2.2.2.2.1
theorem okD {a : Nat} {cc : ByteArray} (hc : mCode a = cc) {es : List Ent} (ps : List Nat) (h1 : es.all (chkD cc a) = true) (h2 : decide ((es.flatMap (wlE a)).map (fun q => some q.2) = ps.map (nth lT)) = true) (h3 : (es.flatMap (wlE a)).all (fun q => okK q.1 q.2) = true) : ∀ e ∈ es, OkE a e := by
  intro e he
  have e1 := List.all_eq_true.mp h1 e he
  subst hc
  refine ⟨e1, fun q hq => ?_⟩
  have hq2 : q ∈ es.flatMap (wlE a) := List.mem_flatMap.mpr ⟨e, he, hq⟩
  refine ⟨?_, List.all_eq_true.mp h3 q hq2⟩
  have h4 : some q.2 ∈ (es.flatMap (wlE a)).map (fun q => some q.2) := List.mem_map.mpr ⟨q, hq2, rfl⟩
  rw [of_decide_eq_true h2] at h4
  obtain ⟨p, -, hp⟩ := List.mem_map.mp h4
  exact nth_mem hp
theorem okCh {a : Nat} {es : List Ent} (ps : List Nat) (h : (es.all (chkE a) && (decide ((es.flatMap (wlE a)).map (fun q => some q.2) = ps.map (nth lT)) && (es.flatMap (wlE a)).all (fun q => okK q.1 q.2))) = true) : ∀ e ∈ es, OkE a e := by
  simp only [Bool.and_eq_true, decide_eq_true_eq] at h
  obtain ⟨h1, h2, h3⟩ := h
  intro e he
  refine ⟨List.all_eq_true.mp h1 e he, fun q hq => ?_⟩
  have hq2 : q ∈ es.flatMap (wlE a) := List.mem_flatMap.mpr ⟨e, he, hq⟩
  refine ⟨?_, List.all_eq_true.mp h3 q hq2⟩
  have h4 : some q.2 ∈ (es.flatMap (wlE a)).map (fun q => some q.2) := List.mem_map.mpr ⟨q, hq2, rfl⟩
  rw [h2] at h4
  obtain ⟨p, -, hp⟩ := List.mem_map.mp h4
  exact nth_mem hp
theorem TB_in {w : Jvm.Cond} (h : w ∈ lT ∧ okK 0 w = true) : w ∈ TB := List.mem_filter.mpr ⟨h.1, h.2⟩
theorem WN_in {w : Jvm.Cond} (h : w ∈ lT ∧ okK 1 w = true) : w ∈ WN := List.mem_filter.mpr ⟨h.1, h.2⟩
theorem TB_good {w : Jvm.Cond} (h : w ∈ TB) : goodWord w = true := (List.mem_filter.mp h).2
def IsE (a : Nat) (cs : List Ent) : Prop := ∀ e ∈ cs, OkE a e
theorem seekE_in : ∀ (es : List Ent) (pc : Nat), ∀ e ∈ seekE es pc, e ∈ es
  | [], _, e, h => by simp [seekE] at h
  | x :: es, pc, e, h => by
    unfold seekE at h
    split at h
    · exact h
    · exact List.mem_cons_of_mem _ (seekE_in es pc e h)
theorem seekE_hd : ∀ (es : List Ent) (pc : Nat) (e : Ent) (r : List Ent), seekE es pc = e :: r → e.1 = pc
  | [], _, e, r, h => by simp [seekE] at h
  | x :: es, pc, e, r, h => by
    unfold seekE at h
    split at h
    · rename_i hb
      cases h
      exact Nat.eq_of_beq_eq_true hb
    · exact seekE_hd es pc e r h
theorem seekC_in : ∀ (cs : List Chk) (pc : Nat), ∀ e ∈ seekC cs pc, ∃ ch ∈ cs, e ∈ ch.2.2
  | [], _, e, h => by simp [seekC] at h
  | x :: cs, pc, e, h => by
    unfold seekC at h
    split at h
    · exact ⟨x, List.mem_cons_self, seekE_in _ _ e h⟩
    · obtain ⟨ch, h1, h2⟩ := seekC_in cs pc e h
      exact ⟨ch, List.mem_cons_of_mem _ h1, h2⟩
theorem seekC_hd : ∀ (cs : List Chk) (pc : Nat) (e : Ent) (r : List Ent), seekC cs pc = e :: r → e.1 = pc
  | [], _, e, r, h => by simp [seekC] at h
  | x :: cs, pc, e, r, h => by
    unfold seekC at h
    split at h
    · exact seekE_hd _ _ e r h
    · exact seekC_hd cs pc e r h
theorem isE_seek {a : Nat} (h : AllOk a) (t : Nat) : IsE a (seekC (mChk a) t) := fun e he => by
  obtain ⟨ch, h1, h2⟩ := seekC_in _ _ e he
  exact h.1 ch h1 e h2
/-- what is known of k: where it stands, the method comes to its end -/
def Goes1 (P : GP) (a : Nat) (K : Kt) (d : Nat) (k : Ct) : Prop := ∀ (e : Ent) (es : List Ent) (L : mLs) (st : List Value) (h : mH) (cb sb : Nat), IsE a (e :: es) → k (e :: es) L st h cb sb → G P a K d e.1 L st h cb sb
theorem nxt_go {P : GP} {a : Nat} {K : Kt} {d : Nat} {k : Ct} {pc : Nat} {cs : List Ent} {L : mLs} {st : List Value} {h : mH} {cb sb : Nat} (hk : Goes1 P a K d k) (hc : IsE a cs) (q : nxt P a K d k pc cs L st h cb sb) : G P a K d pc L st h cb sb := by
  unfold nxt at q
  split at q
  · exact q
  · split at q
    · rename_i hb
      have e1 := Nat.eq_of_beq_eq_true hb
      split at q
      · rw [← e1]; exact q
      · rw [← e1]; exact hk _ _ _ _ _ _ _ hc q
    · exact q.elim
theorem jmp_go {P : GP} {a : Nat} {K : Kt} {d : Nat} {k : Ct} {t : Nat} {L : mLs} {st : List Value} {h : mH} {cb sb : Nat} (hk : Goes1 P a K d k) (hA : AllOk a) (q : jmp P a K d k t L st h cb sb) : G P a K d t L st h cb sb := nxt_go hk (isE_seek hA t) q
/-! locals -/
theorem lvl_mem (P : GP) : ∀ (L : mLs) (i j : Nat) (v : Value), nth L j = some (some v) → (i + j, mV P v) ∈ lvl P i L
  | [], _, _, _, h => by simp [nth] at h
  | none :: t, i, 0, v, h => by simp [nth] at h
  | some w :: t, i, 0, v, h => by
    simp only [nth, Option.some.injEq] at h
    subst h
    exact List.mem_cons_self
  | none :: t, i, j + 1, v, h => by
    have := lvl_mem P t (i + 1) j v h
    rw [show i + (j + 1) = i + 1 + j by omega]
    exact this
  | some w :: t, i, j + 1, v, h => by
    have := lvl_mem P t (i + 1) j v h
    rw [show i + (j + 1) = i + 1 + j by omega]
    exact List.mem_cons_of_mem _ this
theorem lvl_of (P : GP) : ∀ (L : mLs) (i : Nat) (q : Nat × Value), q ∈ lvl P i L → ∃ j v, nth L j = some (some v) ∧ q = (i + j, mV P v)
  | [], _, _, h => by simp [lvl] at h
  | none :: t, i, q, h => by
    obtain ⟨j, v, h1, h2⟩ := lvl_of P t (i + 1) q h
    exact ⟨j + 1, v, h1, by rw [h2]; congr 1; omega⟩
  | some w :: t, i, q, h => by
    rcases List.mem_cons.mp h with h | h
    · exact ⟨0, w, rfl, h⟩
    · obtain ⟨j, v, h1, h2⟩ := lvl_of P t (i + 1) q h
      exact ⟨j + 1, v, h1, by rw [h2]; congr 1; omega⟩
theorem LV_at {P : GP} {ls : Array Slot} {n : Nat} {L : mLs} (h : LV P ls n L) {j : Nat} {v : Value} (hj : nth L j = some (some v)) : ls[j]? = some (.val (mV P v)) := by
  have := h.1.2.2 _ (lvl_mem P L 0 j v hj)
  rwa [Nat.zero_add] at this
theorem set1_of : ∀ (L : mLs) (i : Nat) (v : Option Value) (f : mLs → Prop), set1 L i v f → ∃ L', f L' ∧ L'.length = L.length ∧ i < L.length ∧ ∀ j w, nth L' j = some (some w) → (j = i ∧ v = some w) ∨ (j ≠ i ∧ nth L j = some (some w) ∧ ¬ (j + 1 = i ∧ cat2 (some w) = true))
  | [], 0, v, f, h => h.elim
  | [], 1, v, f, h => h.elim
  | [], n + 2, v, f, h => h.elim
  | x :: t, 0, v, f, h => by
    refine ⟨v :: t, h, rfl, by simp, fun j w hj => ?_⟩
    cases j with
    | zero => exact Or.inl ⟨rfl, by simpa [nth] using hj⟩
    | succ j => exact Or.inr ⟨by omega, hj, by omega⟩
  | [x], 1, v, f, h => h.elim
  | x :: y :: t, 1, v, f, h => by
    unfold set1 at h
    split at h
    · refine ⟨none :: v :: t, h, rfl, by simp, fun j w hj => ?_⟩
      match j, hj with
      | 0, hj => simp [nth] at hj
      | 1, hj => exact Or.inl ⟨rfl, by simpa [nth] using hj⟩
      | j + 2, hj => exact Or.inr ⟨by omega, hj, by omega⟩
    · rename_i hc
      refine ⟨x :: v :: t, h, rfl, by simp, fun j w hj => ?_⟩
      match j, hj with
      | 0, hj =>
        refine Or.inr ⟨by omega, hj, fun q => ?_⟩
        have hx : x = some w := by simpa [nth] using hj
        rw [← hx, hc] at q
        exact absurd q.2 (by decide)
      | 1, hj => exact Or.inl ⟨rfl, by simpa [nth] using hj⟩
      | j + 2, hj => exact Or.inr ⟨by omega, hj, by omega⟩
  | x :: t, n + 2, v, f, h => by
    unfold set1 at h
    obtain ⟨L', h1, h2, h3, h4⟩ := set1_of t (n + 1) v _ h
    refine ⟨x :: L', h1, by simp [h2], by simp; omega, fun j w hj => ?_⟩
    cases j with
    | zero => exact Or.inr ⟨by omega, hj, by omega⟩
    | succ j =>
      rcases h4 j w hj with ⟨q1, q2⟩ | ⟨q1, q2, q3⟩
      · exact Or.inl ⟨by omega, q2⟩
      · exact Or.inr ⟨by omega, q2, fun q => q3 ⟨by omega, q.2⟩⟩
theorem set2_of : ∀ (L : mLs) (i : Nat) (v : Option Value) (f : mLs → Prop), set2 L i v f → ∃ L', f L' ∧ L'.length = L.length ∧ i + 1 < L.length ∧ ∀ j w, nth L' j = some (some w) → (j = i ∧ v = some w) ∨ (j ≠ i ∧ j ≠ i + 1 ∧ nth L j = some (some w) ∧ ¬ (j + 1 = i ∧ cat2 (some w) = true))
  | [], 0, v, f, h => h.elim
  | [], 1, v, f, h => h.elim
  | [], n + 2, v, f, h => h.elim
  | [x], 0, v, f, h => h.elim
  | x :: y :: t, 0, v, f, h => by
    refine ⟨v :: none :: t, h, rfl, by simp, fun j w hj => ?_⟩
    match j, hj with
    | 0, hj => exact Or.inl ⟨rfl, by simpa [nth] using hj⟩
    | 1, hj => simp [nth] at hj
    | j + 2, hj => exact Or.inr ⟨by omega, by omega, hj, by omega⟩
  | [x], 1, v, f, h => h.elim
  | [x, y], 1, v, f, h => h.elim
  | x :: y :: z :: t, 1, v, f, h => by
    unfold set2 at h
    split at h
    · refine ⟨none :: v :: none :: t, h, rfl, by simp, fun j w hj => ?_⟩
      match j, hj with
      | 0, hj => simp [nth] at hj
      | 1, hj => exact Or.inl ⟨rfl, by simpa [nth] using hj⟩
      | 2, hj => simp [nth] at hj
      | j + 3, hj => exact Or.inr ⟨by omega, by omega, hj, by omega⟩
    · rename_i hc
      refine ⟨x :: v :: none :: t, h, rfl, by simp, fun j w hj => ?_⟩
      match j, hj with
      | 0, hj =>
        refine Or.inr ⟨by omega, by omega, hj, fun q => ?_⟩
        have hx : x = some w := by simpa [nth] using hj
        rw [← hx, hc] at q
        exact absurd q.2 (by decide)
      | 1, hj => exact Or.inl ⟨rfl, by simpa [nth] using hj⟩
      | 2, hj => simp [nth] at hj
      | j + 3, hj => exact Or.inr ⟨by omega, by omega, hj, by omega⟩
  | x :: t, n + 2, v, f, h => by
    simp only [set2] at h
    obtain ⟨L', h1, h2, h3, h4⟩ := set2_of t (n + 1) v _ h
    refine ⟨x :: L', h1, by simp [h2], by simp; omega, fun j w hj => ?_⟩
    cases j with
    | zero => exact Or.inr ⟨by omega, by omega, hj, by omega⟩
    | succ j =>
      rcases h4 j w hj with ⟨q1, q2⟩ | ⟨q1, q2, q3, q4⟩
      · exact Or.inl ⟨by omega, q2⟩
      · exact Or.inr ⟨by omega, by omega, q3, fun q => q4 ⟨by omega, q.2⟩⟩
theorem mV_cat (P : GP) (v : Value) : (mV P v).category = v.category := by cases v <;> rfl
theorem cat2_iff (v : Value) : cat2 (some v) = true ↔ v.category = 2 := by cases v <;> simp [cat2, Value.category]
theorem LV_set1 {P : GP} {ls ls' : Array Slot} {n i : Nat} {L L' : mLs} {v : Option Value} {w0 : Value} (h : LV P ls n L) (h2 : L'.length = L.length) (h4 : ∀ j w, nth L' j = some (some w) → (j = i ∧ v = some w) ∨ (j ≠ i ∧ nth L j = some (some w) ∧ ¬ (j + 1 = i ∧ cat2 (some w) = true)))
    (hv : ∀ w, v = some w → w0 = mV P w) (hl : lv_has ls' n ((i, w0) :: (lvl P 0 L).filter (fun q => !(q.1 == i) && !(q.1 + 1 == i && q.2.category == 2)))) : LV P ls' n L' := by
  refine ⟨⟨hl.1, hl.2.1, fun q hq => hl.2.2 q ?_⟩, by rw [h2]; exact h.2⟩
  obtain ⟨j, w, hj, rfl⟩ := lvl_of P L' 0 q hq
  rw [Nat.zero_add]
  rcases h4 j w hj with ⟨rfl, hw⟩ | ⟨q1, q2, q3⟩
  · rw [hv w hw]
    exact List.mem_cons_self
  · refine List.mem_cons_of_mem _ (List.mem_filter.mpr ⟨?_, ?_⟩)
    · have := lvl_mem P L 0 j w q2
      rwa [Nat.zero_add] at this
    · rw [cat2_iff] at q3
      simp only [mV_cat, Bool.and_eq_true, Bool.not_eq_true', beq_eq_false_iff_ne, ne_eq, Bool.and_eq_false_iff]
      refine ⟨q1, ?_⟩
      by_cases e : j + 1 = i
      · exact Or.inr (fun q => q3 ⟨e, q⟩)
      · exact Or.inl e
theorem LV_set2 {P : GP} {ls ls' : Array Slot} {n i : Nat} {L L' : mLs} {v : Option Value} {w0 : Value} (h : LV P ls n L) (h2 : L'.length = L.length) (h4 : ∀ j w, nth L' j = some (some w) → (j = i ∧ v = some w) ∨ (j ≠ i ∧ j ≠ i + 1 ∧ nth L j = some (some w) ∧ ¬ (j + 1 = i ∧ cat2 (some w) = true)))
    (hv : ∀ w, v = some w → w0 = mV P w) (hl : lv_has ls' n ((i, w0) :: (lvl P 0 L).filter (fun q => !(q.1 == i) && (!(q.1 == i + 1) && !(q.1 + 1 == i && q.2.category == 2))))) : LV P ls' n L' := by
  refine ⟨⟨hl.1, hl.2.1, fun q hq => hl.2.2 q ?_⟩, by rw [h2]; exact h.2⟩
  obtain ⟨j, w, hj, rfl⟩ := lvl_of P L' 0 q hq
  rw [Nat.zero_add]
  rcases h4 j w hj with ⟨rfl, hw⟩ | ⟨q1, q1b, q2, q3⟩
  · rw [hv w hw]
    exact List.mem_cons_self
  · refine List.mem_cons_of_mem _ (List.mem_filter.mpr ⟨?_, ?_⟩)
    · have := lvl_mem P L 0 j w q2
      rwa [Nat.zero_add] at this
    · rw [cat2_iff] at q3
      simp only [mV_cat, Bool.and_eq_true, Bool.not_eq_true', beq_eq_false_iff_ne, ne_eq, Bool.and_eq_false_iff]
      refine ⟨q1, q1b, ?_⟩
      by_cases e : j + 1 = i
      · exact Or.inr (fun q => q3 ⟨e, q⟩)
      · exact Or.inl e
end
section
/-! THE SMALL MACHINE IS THE MACHINE: each step of it, by the kit's rows -/
section SIM
variable {P : GP} {a : Nat} {K : Kt} {d : Nat}
/-- W of the frame that G speaks of, its hypotheses at hand -/
def GW (P : GP) (a : Nat) (K : Kt) (p : Program) (e : Jvm.Env) (R : Room) (s : State) (m : MethodId) (args : Array Value) (below : List Frame) (meth : Method) (c : Code) (H : Heap) (locs : List Loc) (cells slots : Nat) (pc : Nat) (ls : Array Slot) (st : List Value) : Prop :=
  W p (gl P) e R s m args below meth c H locs cells slots (vx_MQ below (QcK P K) (XcK P K) args s R.cells R.slots (gF P)) (F0 m pc ls (st.map (mV P)))
theorem dec_of {a : Nat} {pc : Nat} {i : Instr} {n x y z : Nat} {f : Bool} (h : OkE a (pc, i, n, x, y, z, f)) : decode (mCode a) pc = .ok (i, n) ∧ lnk a pc i n x y z = true ∧ ∀ q ∈ lnW a i x y z, q.2 ∈ lT ∧ okK q.1 q.2 = true := by
  obtain ⟨h1, h2⟩ := h
  unfold chkE at h1
  simp only [Bool.and_eq_true, decide_eq_true_eq] at h1
  exact ⟨h1.1, h1.2, h2⟩
theorem Fx_hx {p : Program} {R : Room} {s : State} {m : MethodId} {args : Array Value} {meth : Method} {c : Code} (F : Fx P a d p R s m args meth c) : p.tables.exec = Jvm.exec ∧ c.code = mCode a := ⟨F.1, F.2.1⟩
/-- a step that leaves the heap as it is: from the row to G -/
theorem G_of {pc : Nat} {L : mLs} {st : List Value} {h : mH} {cb sb : Nat}
    (k : ∀ (p : Program) (e : Jvm.Env) (R : Room) (s : State) (m : MethodId) (args : Array Value) (below : List Frame) (meth : Method) (c : Code) (H : Heap) (locs : List Loc) (cells slots : Nat) (ls : Array Slot),
      Fx P a d p R s m args meth c → Dy P R s H locs cells slots h cb sb → LV P ls (mMax a) L → p.tables.exec = Jvm.exec → c.code = mCode a →
      W p (gl P) e R s m args below meth c H locs cells slots (vx_MQ below (QcK P K) (XcK P K) args s R.cells R.slots (gF P)) (F0 m pc ls (st.map (mV P)))) : G P a K d pc L st h cb sb :=
  fun p e R s m args below meth c H locs cells slots ls F Y V => k p e R s m args below meth c H locs cells slots ls F Y V F.1 F.2.1
theorem p2i_of {st : List Value} {f : Int32 → Int32 → List Value → Prop} (h : p2i st f) : ∃ x y r, st = .int y :: .int x :: r ∧ f x y r := by
  unfold p2i at h
  split at h
  · exact ⟨_, _, _, rfl, h⟩
  · exact h.elim
theorem p1i_of {st : List Value} {f : Int32 → List Value → Prop} (h : p1i st f) : ∃ x r, st = .int x :: r ∧ f x r := by
  unfold p1i at h
  split at h
  · exact ⟨_, _, rfl, h⟩
  · exact h.elim
theorem p2l_of {st : List Value} {f : Int64 → Int64 → List Value → Prop} (h : p2l st f) : ∃ x y r, st = .long y :: .long x :: r ∧ f x y r := by
  unfold p2l at h
  split at h
  · exact ⟨_, _, _, rfl, h⟩
  · exact h.elim
theorem p1l_of {st : List Value} {f : Int64 → List Value → Prop} (h : p1l st f) : ∃ x r, st = .long x :: r ∧ f x r := by
  unfold p1l at h
  split at h
  · exact ⟨_, _, rfl, h⟩
  · exact h.elim
theorem plj_of {st : List Value} {f : Int64 → Int32 → List Value → Prop} (h : plj st f) : ∃ x y r, st = .int y :: .long x :: r ∧ f x y r := by
  unfold plj at h
  split at h
  · exact ⟨_, _, _, rfl, h⟩
  · exact h.elim
theorem ldI_of {L : mLs} {i : Nat} {f : Int32 → Prop} (h : ldI L i f) : ∃ x, nth L i = some (some (.int x)) ∧ f x := by
  unfold ldI at h
  split at h
  · exact ⟨_, by assumption, h⟩
  · exact h.elim
theorem ldL_of {L : mLs} {i : Nat} {f : Int64 → Prop} (h : ldL L i f) : ∃ x, nth L i = some (some (.long x)) ∧ f x := by
  unfold ldL at h
  split at h
  · exact ⟨_, by assumption, h⟩
  · exact h.elim
theorem ldA_of {L : mLs} {i : Nat} {f : Value → Prop} (h : ldA L i f) : ∃ v, nth L i = some (some v) ∧ f v ∧ (v = .null ∨ ∃ b : Nat, mV P v = .ref b) := by
  unfold ldA at h
  split at h
  · exact ⟨_, by assumption, h, Or.inr ⟨_, rfl⟩⟩
  · exact ⟨_, by assumption, h, Or.inr ⟨_, rfl⟩⟩
  · exact ⟨_, by assumption, h, Or.inl rfl⟩
  · exact h.elim
theorem cI_of {i : Nat} {f : Int32 → Prop} (h : cI i f) : ∃ v, nth kI i = some v ∧ f v := by
  unfold cI at h
  split at h
  · exact ⟨_, by assumption, h⟩
  · exact h.elim
theorem cJ_of {i : Nat} {f : Int64 → Prop} (h : cJ i f) : ∃ v, nth kJ i = some v ∧ f v := by
  unfold cJ at h
  split at h
  · exact ⟨_, by assumption, h⟩
  · exact h.elim
variable {k : Ct} {es : List Ent} {pc n x y z : Nat} {fl : Bool} {L : mLs} {st : List Value} {h : mH} {cb sb : Nat}
theorem s_iadd (hk : Goes1 P a K d k) (hA : AllOk a) (o : OkE a (pc, .iadd, n, x, y, z, fl)) (ho : IsE a es) (q : stepI P a K d k (pc, .iadd, n, x, y, z, fl) es L st h cb sb) : G P a K d pc L st h cb sb := by
  obtain ⟨u, v, r, rfl, qq⟩ := p2i_of q
  obtain ⟨hd, hl, -⟩ := dec_of o
  have hn : n = 1 := Nat.eq_of_beq_eq_true hl
  subst hn
  exact G_of fun p e R s m args below meth c H locs cells slots ls F Y V hx hb => lv_iadd hx hb hd (nxt_go hk ho qq p e R s m args below meth c H locs cells slots _ F Y V)
theorem s_isub (hk : Goes1 P a K d k) (hA : AllOk a) (o : OkE a (pc, .isub, n, x, y, z, fl)) (ho : IsE a es) (q : stepI P a K d k (pc, .isub, n, x, y, z, fl) es L st h cb sb) : G P a K d pc L st h cb sb := by
  obtain ⟨u, v, r, rfl, qq⟩ := p2i_of q
  obtain ⟨hd, hl, -⟩ := dec_of o
  have hn : n = 1 := Nat.eq_of_beq_eq_true hl
  subst hn
  exact G_of fun p e R s m args below meth c H locs cells slots ls F Y V hx hb => lv_isub hx hb hd (nxt_go hk ho qq p e R s m args below meth c H locs cells slots _ F Y V)
theorem s_imul (hk : Goes1 P a K d k) (hA : AllOk a) (o : OkE a (pc, .imul, n, x, y, z, fl)) (ho : IsE a es) (q : stepI P a K d k (pc, .imul, n, x, y, z, fl) es L st h cb sb) : G P a K d pc L st h cb sb := by
  obtain ⟨u, v, r, rfl, qq⟩ := p2i_of q
  obtain ⟨hd, hl, -⟩ := dec_of o
  have hn : n = 1 := Nat.eq_of_beq_eq_true hl
  subst hn
  exact G_of fun p e R s m args below meth c H locs cells slots ls F Y V hx hb => lv_imul hx hb hd (nxt_go hk ho qq p e R s m args below meth c H locs cells slots _ F Y V)
theorem s_iand (hk : Goes1 P a K d k) (hA : AllOk a) (o : OkE a (pc, .iand, n, x, y, z, fl)) (ho : IsE a es) (q : stepI P a K d k (pc, .iand, n, x, y, z, fl) es L st h cb sb) : G P a K d pc L st h cb sb := by
  obtain ⟨u, v, r, rfl, qq⟩ := p2i_of q
  obtain ⟨hd, hl, -⟩ := dec_of o
  have hn : n = 1 := Nat.eq_of_beq_eq_true hl
  subst hn
  exact G_of fun p e R s m args below meth c H locs cells slots ls F Y V hx hb => lv_iand hx hb hd (nxt_go hk ho qq p e R s m args below meth c H locs cells slots _ F Y V)
theorem s_ior (hk : Goes1 P a K d k) (hA : AllOk a) (o : OkE a (pc, .ior, n, x, y, z, fl)) (ho : IsE a es) (q : stepI P a K d k (pc, .ior, n, x, y, z, fl) es L st h cb sb) : G P a K d pc L st h cb sb := by
  obtain ⟨u, v, r, rfl, qq⟩ := p2i_of q
  obtain ⟨hd, hl, -⟩ := dec_of o
  have hn : n = 1 := Nat.eq_of_beq_eq_true hl
  subst hn
  exact G_of fun p e R s m args below meth c H locs cells slots ls F Y V hx hb => lv_ior hx hb hd (nxt_go hk ho qq p e R s m args below meth c H locs cells slots _ F Y V)
theorem s_idiv (hk : Goes1 P a K d k) (hA : AllOk a) (o : OkE a (pc, .idiv, n, x, y, z, fl)) (ho : IsE a es) (q : stepI P a K d k (pc, .idiv, n, x, y, z, fl) es L st h cb sb) : G P a K d pc L st h cb sb := by
  obtain ⟨u, v, r, rfl, hne, qq⟩ := p2i_of q
  obtain ⟨hd, hl, -⟩ := dec_of o
  have hn : n = 1 := Nat.eq_of_beq_eq_true hl
  subst hn
  exact G_of fun p e R s m args below meth c H locs cells slots ls F Y V hx hb => lv_idiv hx hb hd hne (nxt_go hk ho qq p e R s m args below meth c H locs cells slots _ F Y V)
theorem s_irem (hk : Goes1 P a K d k) (hA : AllOk a) (o : OkE a (pc, .irem, n, x, y, z, fl)) (ho : IsE a es) (q : stepI P a K d k (pc, .irem, n, x, y, z, fl) es L st h cb sb) : G P a K d pc L st h cb sb := by
  obtain ⟨u, v, r, rfl, hne, qq⟩ := p2i_of q
  obtain ⟨hd, hl, -⟩ := dec_of o
  have hn : n = 1 := Nat.eq_of_beq_eq_true hl
  subst hn
  exact G_of fun p e R s m args below meth c H locs cells slots ls F Y V hx hb => lv_irem hx hb hd hne (nxt_go hk ho qq p e R s m args below meth c H locs cells slots _ F Y V)
theorem s_ishl (hk : Goes1 P a K d k) (hA : AllOk a) (o : OkE a (pc, .ishl, n, x, y, z, fl)) (ho : IsE a es) (q : stepI P a K d k (pc, .ishl, n, x, y, z, fl) es L st h cb sb) : G P a K d pc L st h cb sb := by
  obtain ⟨u, v, r, rfl, qq⟩ := p2i_of q
  obtain ⟨hd, hl, -⟩ := dec_of o
  have hn : n = 1 := Nat.eq_of_beq_eq_true hl
  subst hn
  exact G_of fun p e R s m args below meth c H locs cells slots ls F Y V hx hb => lv_ishl hx hb hd (nxt_go hk ho qq p e R s m args below meth c H locs cells slots _ F Y V)
theorem s_ishr (hk : Goes1 P a K d k) (hA : AllOk a) (o : OkE a (pc, .ishr, n, x, y, z, fl)) (ho : IsE a es) (q : stepI P a K d k (pc, .ishr, n, x, y, z, fl) es L st h cb sb) : G P a K d pc L st h cb sb := by
  obtain ⟨u, v, r, rfl, qq⟩ := p2i_of q
  obtain ⟨hd, hl, -⟩ := dec_of o
  have hn : n = 1 := Nat.eq_of_beq_eq_true hl
  subst hn
  exact G_of fun p e R s m args below meth c H locs cells slots ls F Y V hx hb => lv_ishr hx hb hd (nxt_go hk ho qq p e R s m args below meth c H locs cells slots _ F Y V)
theorem s_iushr (hk : Goes1 P a K d k) (hA : AllOk a) (o : OkE a (pc, .iushr, n, x, y, z, fl)) (ho : IsE a es) (q : stepI P a K d k (pc, .iushr, n, x, y, z, fl) es L st h cb sb) : G P a K d pc L st h cb sb := by
  obtain ⟨u, v, r, rfl, qq⟩ := p2i_of q
  obtain ⟨hd, hl, -⟩ := dec_of o
  have hn : n = 1 := Nat.eq_of_beq_eq_true hl
  subst hn
  exact G_of fun p e R s m args below meth c H locs cells slots ls F Y V hx hb => lv_iushr hx hb hd rfl (nxt_go hk ho qq p e R s m args below meth c H locs cells slots _ F Y V)
theorem s_ineg (hk : Goes1 P a K d k) (hA : AllOk a) (o : OkE a (pc, .ineg, n, x, y, z, fl)) (ho : IsE a es) (q : stepI P a K d k (pc, .ineg, n, x, y, z, fl) es L st h cb sb) : G P a K d pc L st h cb sb := by
  obtain ⟨v, r, rfl, qq⟩ := p1i_of q
  obtain ⟨hd, hl, -⟩ := dec_of o
  have hn : n = 1 := Nat.eq_of_beq_eq_true hl
  subst hn
  exact G_of fun p e R s m args below meth c H locs cells slots ls F Y V hx hb => lv_ineg hx hb hd (nxt_go hk ho qq p e R s m args below meth c H locs cells slots _ F Y V)
theorem s_i2l (hk : Goes1 P a K d k) (hA : AllOk a) (o : OkE a (pc, .i2l, n, x, y, z, fl)) (ho : IsE a es) (q : stepI P a K d k (pc, .i2l, n, x, y, z, fl) es L st h cb sb) : G P a K d pc L st h cb sb := by
  obtain ⟨v, r, rfl, qq⟩ := p1i_of q
  obtain ⟨hd, hl, -⟩ := dec_of o
  have hn : n = 1 := Nat.eq_of_beq_eq_true hl
  subst hn
  exact G_of fun p e R s m args below meth c H locs cells slots ls F Y V hx hb => lv_i2l hx hb hd rfl (nxt_go hk ho qq p e R s m args below meth c H locs cells slots _ F Y V)
theorem s_i2b (hk : Goes1 P a K d k) (hA : AllOk a) (o : OkE a (pc, .i2b, n, x, y, z, fl)) (ho : IsE a es) (q : stepI P a K d k (pc, .i2b, n, x, y, z, fl) es L st h cb sb) : G P a K d pc L st h cb sb := by
  obtain ⟨v, r, rfl, qq⟩ := p1i_of q
  obtain ⟨hd, hl, -⟩ := dec_of o
  have hn : n = 1 := Nat.eq_of_beq_eq_true hl
  subst hn
  exact G_of fun p e R s m args below meth c H locs cells slots ls F Y V hx hb => lv_i2b hx hb hd rfl (nxt_go hk ho qq p e R s m args below meth c H locs cells slots _ F Y V)
theorem s_i2c (hk : Goes1 P a K d k) (hA : AllOk a) (o : OkE a (pc, .i2c, n, x, y, z, fl)) (ho : IsE a es) (q : stepI P a K d k (pc, .i2c, n, x, y, z, fl) es L st h cb sb) : G P a K d pc L st h cb sb := by
  obtain ⟨v, r, rfl, qq⟩ := p1i_of q
  obtain ⟨hd, hl, -⟩ := dec_of o
  have hn : n = 1 := Nat.eq_of_beq_eq_true hl
  subst hn
  exact G_of fun p e R s m args below meth c H locs cells slots ls F Y V hx hb => lv_i2c hx hb hd rfl (nxt_go hk ho qq p e R s m args below meth c H locs cells slots _ F Y V)
theorem s_l2i (hk : Goes1 P a K d k) (hA : AllOk a) (o : OkE a (pc, .l2i, n, x, y, z, fl)) (ho : IsE a es) (q : stepI P a K d k (pc, .l2i, n, x, y, z, fl) es L st h cb sb) : G P a K d pc L st h cb sb := by
  obtain ⟨v, r, rfl, qq⟩ := p1l_of q
  obtain ⟨hd, hl, -⟩ := dec_of o
  have hn : n = 1 := Nat.eq_of_beq_eq_true hl
  subst hn
  exact G_of fun p e R s m args below meth c H locs cells slots ls F Y V hx hb => lv_l2i hx hb hd rfl (nxt_go hk ho qq p e R s m args below meth c H locs cells slots _ F Y V)
theorem s_lneg (hk : Goes1 P a K d k) (hA : AllOk a) (o : OkE a (pc, .lneg, n, x, y, z, fl)) (ho : IsE a es) (q : stepI P a K d k (pc, .lneg, n, x, y, z, fl) es L st h cb sb) : G P a K d pc L st h cb sb := by
  obtain ⟨v, r, rfl, qq⟩ := p1l_of q
  obtain ⟨hd, hl, -⟩ := dec_of o
  have hn : n = 1 := Nat.eq_of_beq_eq_true hl
  subst hn
  exact G_of fun p e R s m args below meth c H locs cells slots ls F Y V hx hb => lv_lneg hx hb hd (nxt_go hk ho qq p e R s m args below meth c H locs cells slots _ F Y V)
theorem s_ladd (hk : Goes1 P a K d k) (hA : AllOk a) (o : OkE a (pc, .ladd, n, x, y, z, fl)) (ho : IsE a es) (q : stepI P a K d k (pc, .ladd, n, x, y, z, fl) es L st h cb sb) : G P a K d pc L st h cb sb := by
  obtain ⟨u, v, r, rfl, qq⟩ := p2l_of q
  obtain ⟨hd, hl, -⟩ := dec_of o
  have hn : n = 1 := Nat.eq_of_beq_eq_true hl
  subst hn
  exact G_of fun p e R s m args below meth c H locs cells slots ls F Y V hx hb => lv_ladd hx hb hd (nxt_go hk ho qq p e R s m args below meth c H locs cells slots _ F Y V)
theorem s_lsub (hk : Goes1 P a K d k) (hA : AllOk a) (o : OkE a (pc, .lsub, n, x, y, z, fl)) (ho : IsE a es) (q : stepI P a K d k (pc, .lsub, n, x, y, z, fl) es L st h cb sb) : G P a K d pc L st h cb sb := by
  obtain ⟨u, v, r, rfl, qq⟩ := p2l_of q
  obtain ⟨hd, hl, -⟩ := dec_of o
  have hn : n = 1 := Nat.eq_of_beq_eq_true hl
  subst hn
  exact G_of fun p e R s m args below meth c H locs cells slots ls F Y V hx hb => lv_lsub hx hb hd (nxt_go hk ho qq p e R s m args below meth c H locs cells slots _ F Y V)
theorem s_lmul (hk : Goes1 P a K d k) (hA : AllOk a) (o : OkE a (pc, .lmul, n, x, y, z, fl)) (ho : IsE a es) (q : stepI P a K d k (pc, .lmul, n, x, y, z, fl) es L st h cb sb) : G P a K d pc L st h cb sb := by
  obtain ⟨u, v, r, rfl, qq⟩ := p2l_of q
  obtain ⟨hd, hl, -⟩ := dec_of o
  have hn : n = 1 := Nat.eq_of_beq_eq_true hl
  subst hn
  exact G_of fun p e R s m args below meth c H locs cells slots ls F Y V hx hb => lv_lmul hx hb hd (nxt_go hk ho qq p e R s m args below meth c H locs cells slots _ F Y V)
theorem s_land (hk : Goes1 P a K d k) (hA : AllOk a) (o : OkE a (pc, .land, n, x, y, z, fl)) (ho : IsE a es) (q : stepI P a K d k (pc, .land, n, x, y, z, fl) es L st h cb sb) : G P a K d pc L st h cb sb := by
  obtain ⟨u, v, r, rfl, qq⟩ := p2l_of q
  obtain ⟨hd, hl, -⟩ := dec_of o
  have hn : n = 1 := Nat.eq_of_beq_eq_true hl
  subst hn
  exact G_of fun p e R s m args below meth c H locs cells slots ls F Y V hx hb => lv_land hx hb hd (nxt_go hk ho qq p e R s m args below meth c H locs cells slots _ F Y V)
theorem s_lor (hk : Goes1 P a K d k) (hA : AllOk a) (o : OkE a (pc, .lor, n, x, y, z, fl)) (ho : IsE a es) (q : stepI P a K d k (pc, .lor, n, x, y, z, fl) es L st h cb sb) : G P a K d pc L st h cb sb := by
  obtain ⟨u, v, r, rfl, qq⟩ := p2l_of q
  obtain ⟨hd, hl, -⟩ := dec_of o
  have hn : n = 1 := Nat.eq_of_beq_eq_true hl
  subst hn
  exact G_of fun p e R s m args below meth c H locs cells slots ls F Y V hx hb => lv_lor hx hb hd (nxt_go hk ho qq p e R s m args below meth c H locs cells slots _ F Y V)
theorem s_lxor (hk : Goes1 P a K d k) (hA : AllOk a) (o : OkE a (pc, .lxor, n, x, y, z, fl)) (ho : IsE a es) (q : stepI P a K d k (pc, .lxor, n, x, y, z, fl) es L st h cb sb) : G P a K d pc L st h cb sb := by
  obtain ⟨u, v, r, rfl, qq⟩ := p2l_of q
  obtain ⟨hd, hl, -⟩ := dec_of o
  have hn : n = 1 := Nat.eq_of_beq_eq_true hl
  subst hn
  exact G_of fun p e R s m args below meth c H locs cells slots ls F Y V hx hb => lv_lxor hx hb hd (nxt_go hk ho qq p e R s m args below meth c H locs cells slots _ F Y V)
theorem s_ldiv (hk : Goes1 P a K d k) (hA : AllOk a) (o : OkE a (pc, .ldiv, n, x, y, z, fl)) (ho : IsE a es) (q : stepI P a K d k (pc, .ldiv, n, x, y, z, fl) es L st h cb sb) : G P a K d pc L st h cb sb := by
  obtain ⟨u, v, r, rfl, hne, qq⟩ := p2l_of q
  obtain ⟨hd, hl, -⟩ := dec_of o
  have hn : n = 1 := Nat.eq_of_beq_eq_true hl
  subst hn
  exact G_of fun p e R s m args below meth c H locs cells slots ls F Y V hx hb => lv_ldiv hx hb hd hne (nxt_go hk ho qq p e R s m args below meth c H locs cells slots _ F Y V)
theorem s_lrem (hk : Goes1 P a K d k) (hA : AllOk a) (o : OkE a (pc, .lrem, n, x, y, z, fl)) (ho : IsE a es) (q : stepI P a K d k (pc, .lrem, n, x, y, z, fl) es L st h cb sb) : G P a K d pc L st h cb sb := by
  obtain ⟨u, v, r, rfl, hne, qq⟩ := p2l_of q
  obtain ⟨hd, hl, -⟩ := dec_of o
  have hn : n = 1 := Nat.eq_of_beq_eq_true hl
  subst hn
  exact G_of fun p e R s m args below meth c H locs cells slots ls F Y V hx hb => lv_lrem hx hb hd hne (nxt_go hk ho qq p e R s m args below meth c H locs cells slots _ F Y V)
theorem s_lshl (hk : Goes1 P a K d k) (hA : AllOk a) (o : OkE a (pc, .lshl, n, x, y, z, fl)) (ho : IsE a es) (q : stepI P a K d k (pc, .lshl, n, x, y, z, fl) es L st h cb sb) : G P a K d pc L st h cb sb := by
  obtain ⟨u, v, r, rfl, qq⟩ := plj_of q
  obtain ⟨hd, hl, -⟩ := dec_of o
  have hn : n = 1 := Nat.eq_of_beq_eq_true hl
  subst hn
  exact G_of fun p e R s m args below meth c H locs cells slots ls F Y V hx hb => lv_lshl hx hb hd rfl (nxt_go hk ho qq p e R s m args below meth c H locs cells slots _ F Y V)
theorem s_lshr (hk : Goes1 P a K d k) (hA : AllOk a) (o : OkE a (pc, .lshr, n, x, y, z, fl)) (ho : IsE a es) (q : stepI P a K d k (pc, .lshr, n, x, y, z, fl) es L st h cb sb) : G P a K d pc L st h cb sb := by
  obtain ⟨u, v, r, rfl, qq⟩ := plj_of q
  obtain ⟨hd, hl, -⟩ := dec_of o
  have hn : n = 1 := Nat.eq_of_beq_eq_true hl
  subst hn
  exact G_of fun p e R s m args below meth c H locs cells slots ls F Y V hx hb => lv_lshr hx hb hd rfl (nxt_go hk ho qq p e R s m args below meth c H locs cells slots _ F Y V)
theorem s_lushr (hk : Goes1 P a K d k) (hA : AllOk a) (o : OkE a (pc, .lushr, n, x, y, z, fl)) (ho : IsE a es) (q : stepI P a K d k (pc, .lushr, n, x, y, z, fl) es L st h cb sb) : G P a K d pc L st h cb sb := by
  obtain ⟨u, v, r, rfl, qq⟩ := plj_of q
  obtain ⟨hd, hl, -⟩ := dec_of o
  have hn : n = 1 := Nat.eq_of_beq_eq_true hl
  subst hn
  exact G_of fun p e R s m args below meth c H locs cells slots ls F Y V hx hb => lv_lushr hx hb hd rfl (nxt_go hk ho qq p e R s m args below meth c H locs cells slots _ F Y V)
theorem s_iconst {v0 : Int} (hk : Goes1 P a K d k) (hA : AllOk a) (o : OkE a (pc, .iconst v0, n, x, y, z, fl)) (ho : IsE a es) (q : stepI P a K d k (pc, .iconst v0, n, x, y, z, fl) es L st h cb sb) : G P a K d pc L st h cb sb := by
  obtain ⟨v, hv, qq⟩ := cI_of q
  obtain ⟨hd, hl, -⟩ := dec_of o
  unfold lnk at hl
  simp only [Bool.and_eq_true, decide_eq_true_eq] at hl
  have hn : n = 1 := Nat.eq_of_beq_eq_true hl.1
  subst hn
  exact G_of fun p e R s m args below meth c H locs cells slots ls F Y V hx hb => lv_iconst hx hb hd (Option.some.inj (hl.2.symm.trans hv)) (nxt_go hk ho qq p e R s m args below meth c H locs cells slots _ F Y V)
theorem s_bipush {v0 : Int} (hk : Goes1 P a K d k) (hA : AllOk a) (o : OkE a (pc, .bipush v0, n, x, y, z, fl)) (ho : IsE a es) (q : stepI P a K d k (pc, .bipush v0, n, x, y, z, fl) es L st h cb sb) : G P a K d pc L st h cb sb := by
  obtain ⟨v, hv, qq⟩ := cI_of q
  obtain ⟨hd, hl, -⟩ := dec_of o
  unfold lnk at hl
  simp only [Bool.and_eq_true, decide_eq_true_eq] at hl
  have hn : n = 2 := Nat.eq_of_beq_eq_true hl.1
  subst hn
  exact G_of fun p e R s m args below meth c H locs cells slots ls F Y V hx hb => lv_bipush hx hb hd (Option.some.inj (hl.2.symm.trans hv)) (nxt_go hk ho qq p e R s m args below meth c H locs cells slots _ F Y V)
theorem s_sipush {v0 : Int} (hk : Goes1 P a K d k) (hA : AllOk a) (o : OkE a (pc, .sipush v0, n, x, y, z, fl)) (ho : IsE a es) (q : stepI P a K d k (pc, .sipush v0, n, x, y, z, fl) es L st h cb sb) : G P a K d pc L st h cb sb := by
  obtain ⟨v, hv, qq⟩ := cI_of q
  obtain ⟨hd, hl, -⟩ := dec_of o
  unfold lnk at hl
  simp only [Bool.and_eq_true, decide_eq_true_eq] at hl
  have hn : n = 3 := Nat.eq_of_beq_eq_true hl.1
  subst hn
  exact G_of fun p e R s m args below meth c H locs cells slots ls F Y V hx hb => lv_sipush hx hb hd (Option.some.inj (hl.2.symm.trans hv)) (nxt_go hk ho qq p e R s m args below meth c H locs cells slots _ F Y V)
theorem s_lconst {v0 : Fin 2} (hk : Goes1 P a K d k) (hA : AllOk a) (o : OkE a (pc, .lconst v0, n, x, y, z, fl)) (ho : IsE a es) (q : stepI P a K d k (pc, .lconst v0, n, x, y, z, fl) es L st h cb sb) : G P a K d pc L st h cb sb := by
  obtain ⟨v, hv, qq⟩ := cJ_of q
  obtain ⟨hd, hl, -⟩ := dec_of o
  unfold lnk at hl
  simp only [Bool.and_eq_true, decide_eq_true_eq] at hl
  have hn : n = 1 := Nat.eq_of_beq_eq_true hl.1
  subst hn
  exact G_of fun p e R s m args below meth c H locs cells slots ls F Y V hx hb => lv_lconst hx hb hd (Option.some.inj (hl.2.symm.trans hv)) (nxt_go hk ho qq p e R s m args below meth c H locs cells slots _ F Y V)
theorem s_aconst_null (hk : Goes1 P a K d k) (hA : AllOk a) (o : OkE a (pc, .aconst_null, n, x, y, z, fl)) (ho : IsE a es) (q : stepI P a K d k (pc, .aconst_null, n, x, y, z, fl) es L st h cb sb) : G P a K d pc L st h cb sb := by
  have qq : nxt P a K d k (pc + n) es L (.null :: st) h cb sb := q
  obtain ⟨hd, hl, -⟩ := dec_of o
  have hn : n = 1 := Nat.eq_of_beq_eq_true hl
  subst hn
  exact G_of fun p e R s m args below meth c H locs cells slots ls F Y V hx hb => lv_null hx hb hd (nxt_go hk ho qq p e R s m args below meth c H locs cells slots _ F Y V)
theorem s_ldc2_w {ix : Nat} (hk : Goes1 P a K d k) (hA : AllOk a) (o : OkE a (pc, .ldc2_w ix, n, x, y, z, fl)) (ho : IsE a es) (q : stepI P a K d k (pc, .ldc2_w ix, n, x, y, z, fl) es L st h cb sb) : G P a K d pc L st h cb sb := by
  obtain ⟨v, hv, qq⟩ := cJ_of q
  obtain ⟨hd, hl, hw⟩ := dec_of o
  have hn : n = 3 := Nat.eq_of_beq_eq_true hl
  subst hn
  have hw := TB_in (hw (0, .constantLong (mOwn a) ix v) (by simp [lnW, hv]))
  exact G_of fun p e R s m args below meth c H locs cells slots ls F Y V hx hb => lv_ldc2 hx hb F.2.2.2.2.1 (F.2.2.2.2.2.1 _ hw) hd (nxt_go hk ho qq p e R s m args below meth c H locs cells slots _ F Y V)
theorem s_iload {j : Nat} (hk : Goes1 P a K d k) (hA : AllOk a) (o : OkE a (pc, .iload j, n, x, y, z, fl)) (ho : IsE a es) (q : stepI P a K d k (pc, .iload j, n, x, y, z, fl) es L st h cb sb) : G P a K d pc L st h cb sb := by
  have q : ldI L x fun v => nxt P a K d k (pc + n) es L (.int v :: st) h cb sb := q
  obtain ⟨v, hv, qq⟩ := ldI_of q
  obtain ⟨hd, hl, -⟩ := dec_of o
  unfold lnk at hl
  simp only [Bool.and_eq_true, decide_eq_true_eq] at hl
  have hn : n = 2 := Nat.eq_of_beq_eq_true hl.1
  subst hn
  have hj := Nat.eq_of_beq_eq_true hl.2
  subst hj
  exact G_of fun p e R s m args below meth c H locs cells slots ls F Y V hx hb => lv_iload hx hb hd (LV_at V hv) (nxt_go hk ho qq p e R s m args below meth c H locs cells slots _ F Y V)
theorem s_iload_n {j : Fin 4} (hk : Goes1 P a K d k) (hA : AllOk a) (o : OkE a (pc, .iload_n j, n, x, y, z, fl)) (ho : IsE a es) (q : stepI P a K d k (pc, .iload_n j, n, x, y, z, fl) es L st h cb sb) : G P a K d pc L st h cb sb := by
  have q : ldI L x fun v => nxt P a K d k (pc + n) es L (.int v :: st) h cb sb := q
  obtain ⟨v, hv, qq⟩ := ldI_of q
  obtain ⟨hd, hl, -⟩ := dec_of o
  unfold lnk at hl
  simp only [Bool.and_eq_true, decide_eq_true_eq] at hl
  have hn : n = 1 := Nat.eq_of_beq_eq_true hl.1
  subst hn
  have hj := Nat.eq_of_beq_eq_true hl.2
  exact G_of fun p e R s m args below meth c H locs cells slots ls F Y V hx hb => lv_iload_n hx hb hd hj (LV_at V hv) (nxt_go hk ho qq p e R s m args below meth c H locs cells slots _ F Y V)
theorem s_lload {j : Nat} (hk : Goes1 P a K d k) (hA : AllOk a) (o : OkE a (pc, .lload j, n, x, y, z, fl)) (ho : IsE a es) (q : stepI P a K d k (pc, .lload j, n, x, y, z, fl) es L st h cb sb) : G P a K d pc L st h cb sb := by
  have q : ldL L x fun v => nxt P a K d k (pc + n) es L (.long v :: st) h cb sb := q
  obtain ⟨v, hv, qq⟩ := ldL_of q
  obtain ⟨hd, hl, -⟩ := dec_of o
  unfold lnk at hl
  simp only [Bool.and_eq_true, decide_eq_true_eq] at hl
  have hn : n = 2 := Nat.eq_of_beq_eq_true hl.1
  subst hn
  have hj := Nat.eq_of_beq_eq_true hl.2
  subst hj
  exact G_of fun p e R s m args below meth c H locs cells slots ls F Y V hx hb => lv_lload hx hb hd (LV_at V hv) (nxt_go hk ho qq p e R s m args below meth c H locs cells slots _ F Y V)
theorem s_lload_n {j : Fin 4} (hk : Goes1 P a K d k) (hA : AllOk a) (o : OkE a (pc, .lload_n j, n, x, y, z, fl)) (ho : IsE a es) (q : stepI P a K d k (pc, .lload_n j, n, x, y, z, fl) es L st h cb sb) : G P a K d pc L st h cb sb := by
  have q : ldL L x fun v => nxt P a K d k (pc + n) es L (.long v :: st) h cb sb := q
  obtain ⟨v, hv, qq⟩ := ldL_of q
  obtain ⟨hd, hl, -⟩ := dec_of o
  unfold lnk at hl
  simp only [Bool.and_eq_true, decide_eq_true_eq] at hl
  have hn : n = 1 := Nat.eq_of_beq_eq_true hl.1
  subst hn
  have hj := Nat.eq_of_beq_eq_true hl.2
  exact G_of fun p e R s m args below meth c H locs cells slots ls F Y V hx hb => lv_lload_n hx hb hd hj (LV_at V hv) (nxt_go hk ho qq p e R s m args below meth c H locs cells slots _ F Y V)
theorem s_aload {j : Nat} (hk : Goes1 P a K d k) (hA : AllOk a) (o : OkE a (pc, .aload j, n, x, y, z, fl)) (ho : IsE a es) (q : stepI P a K d k (pc, .aload j, n, x, y, z, fl) es L st h cb sb) : G P a K d pc L st h cb sb := by
  have q : ldA L x fun v => nxt P a K d k (pc + n) es L (v :: st) h cb sb := q
  obtain ⟨v, hv, qq, hr⟩ := ldA_of (P := P) q
  obtain ⟨hd, hl, -⟩ := dec_of o
  unfold lnk at hl
  simp only [Bool.and_eq_true, decide_eq_true_eq] at hl
  have hn : n = 2 := Nat.eq_of_beq_eq_true hl.1
  subst hn
  have hj := Nat.eq_of_beq_eq_true hl.2
  subst hj
  rcases hr with rfl | ⟨b, hb9⟩
  · exact G_of fun p e R s m args below meth c H locs cells slots ls F Y V hx hb => lv_aloadN hx hb hd (LV_at V hv) (nxt_go hk ho qq p e R s m args below meth c H locs cells slots _ F Y V)
  · exact G_of fun p e R s m args below meth c H locs cells slots ls F Y V hx hb => by
      refine lv_aload (x := b) hx hb hd (by rw [← hb9]; exact LV_at V hv) ?_
      have := (nxt_go hk ho qq p e R s m args below meth c H locs cells slots _ F Y V)
      rw [List.map_cons, hb9] at this
      exact this
theorem s_aload_n {j : Fin 4} (hk : Goes1 P a K d k) (hA : AllOk a) (o : OkE a (pc, .aload_n j, n, x, y, z, fl)) (ho : IsE a es) (q : stepI P a K d k (pc, .aload_n j, n, x, y, z, fl) es L st h cb sb) : G P a K d pc L st h cb sb := by
  have q : ldA L x fun v => nxt P a K d k (pc + n) es L (v :: st) h cb sb := q
  obtain ⟨v, hv, qq, hr⟩ := ldA_of (P := P) q
  obtain ⟨hd, hl, -⟩ := dec_of o
  unfold lnk at hl
  simp only [Bool.and_eq_true, decide_eq_true_eq] at hl
  have hn : n = 1 := Nat.eq_of_beq_eq_true hl.1
  subst hn
  have hj := Nat.eq_of_beq_eq_true hl.2
  rcases hr with rfl | ⟨b, hb9⟩
  · exact G_of fun p e R s m args below meth c H locs cells slots ls F Y V hx hb => lv_aload_nN hx hb hd hj (LV_at V hv) (nxt_go hk ho qq p e R s m args below meth c H locs cells slots _ F Y V)
  · exact G_of fun p e R s m args below meth c H locs cells slots ls F Y V hx hb => by
      refine lv_aload_n (x := b) hx hb hd hj (by rw [← hb9]; exact LV_at V hv) ?_
      have := (nxt_go hk ho qq p e R s m args below meth c H locs cells slots _ F Y V)
      rw [List.map_cons, hb9] at this
      exact this
theorem s_istore {j : Nat} (hk : Goes1 P a K d k) (hA : AllOk a) (o : OkE a (pc, .istore j, n, x, y, z, fl)) (ho : IsE a es) (q : stepI P a K d k (pc, .istore j, n, x, y, z, fl) es L st h cb sb) : G P a K d pc L st h cb sb := by
  obtain ⟨v, r, rfl, q1⟩ := p1i_of q
  obtain ⟨L2, qq, h2, hlt, h4⟩ := set1_of _ _ _ _ q1
  obtain ⟨hd, hl, -⟩ := dec_of o
  unfold lnk at hl
  simp only [Bool.and_eq_true, decide_eq_true_eq] at hl
  have hn : n = 2 := Nat.eq_of_beq_eq_true hl.1
  subst hn
  have hj := Nat.eq_of_beq_eq_true hl.2
  subst hj
  exact G_of fun p e R s m args below meth c H locs cells slots ls F Y V hx hb => lv_istore hx hb hd V.1 (Nat.lt_of_lt_of_le hlt V.2) rfl (fun ls' hl' =>
    nxt_go hk ho qq p e R s m args below meth c H locs cells slots _ F Y (LV_set1 V h2 h4 (fun w hw => by cases hw; rfl) hl'))
theorem s_istore_n {j : Fin 4} (hk : Goes1 P a K d k) (hA : AllOk a) (o : OkE a (pc, .istore_n j, n, x, y, z, fl)) (ho : IsE a es) (q : stepI P a K d k (pc, .istore_n j, n, x, y, z, fl) es L st h cb sb) : G P a K d pc L st h cb sb := by
  obtain ⟨v, r, rfl, q1⟩ := p1i_of q
  obtain ⟨L2, qq, h2, hlt, h4⟩ := set1_of _ _ _ _ q1
  obtain ⟨hd, hl, -⟩ := dec_of o
  unfold lnk at hl
  simp only [Bool.and_eq_true, decide_eq_true_eq] at hl
  have hn : n = 1 := Nat.eq_of_beq_eq_true hl.1
  subst hn
  have hj := Nat.eq_of_beq_eq_true hl.2
  exact G_of fun p e R s m args below meth c H locs cells slots ls F Y V hx hb => lv_istore_n hx hb hd hj V.1 (Nat.lt_of_lt_of_le hlt V.2) rfl (fun ls' hl' =>
    nxt_go hk ho qq p e R s m args below meth c H locs cells slots _ F Y (LV_set1 V h2 h4 (fun w hw => by cases hw; rfl) hl'))
theorem s_lstore {j : Nat} (hk : Goes1 P a K d k) (hA : AllOk a) (o : OkE a (pc, .lstore j, n, x, y, z, fl)) (ho : IsE a es) (q : stepI P a K d k (pc, .lstore j, n, x, y, z, fl) es L st h cb sb) : G P a K d pc L st h cb sb := by
  obtain ⟨v, r, rfl, q1⟩ := p1l_of q
  obtain ⟨L2, qq, h2, hlt, h4⟩ := set2_of _ _ _ _ q1
  obtain ⟨hd, hl, -⟩ := dec_of o
  unfold lnk at hl
  simp only [Bool.and_eq_true, decide_eq_true_eq] at hl
  have hn : n = 2 := Nat.eq_of_beq_eq_true hl.1
  subst hn
  have hj := Nat.eq_of_beq_eq_true hl.2
  subst hj
  exact G_of fun p e R s m args below meth c H locs cells slots ls F Y V hx hb => lv_lstore hx hb hd V.1 (Nat.lt_of_lt_of_le hlt V.2) rfl (fun ls' hl' =>
    nxt_go hk ho qq p e R s m args below meth c H locs cells slots _ F Y (LV_set2 V h2 h4 (fun w hw => by cases hw; rfl) hl'))
theorem s_lstore_n {j : Fin 4} (hk : Goes1 P a K d k) (hA : AllOk a) (o : OkE a (pc, .lstore_n j, n, x, y, z, fl)) (ho : IsE a es) (q : stepI P a K d k (pc, .lstore_n j, n, x, y, z, fl) es L st h cb sb) : G P a K d pc L st h cb sb := by
  obtain ⟨v, r, rfl, q1⟩ := p1l_of q
  obtain ⟨L2, qq, h2, hlt, h4⟩ := set2_of _ _ _ _ q1
  obtain ⟨hd, hl, -⟩ := dec_of o
  unfold lnk at hl
  simp only [Bool.and_eq_true, decide_eq_true_eq] at hl
  have hn : n = 1 := Nat.eq_of_beq_eq_true hl.1
  subst hn
  have hj := Nat.eq_of_beq_eq_true hl.2
  exact G_of fun p e R s m args below meth c H locs cells slots ls F Y V hx hb => lv_lstore_n hx hb hd hj V.1 (Nat.lt_of_lt_of_le hlt V.2) rfl (fun ls' hl' =>
    nxt_go hk ho qq p e R s m args below meth c H locs cells slots _ F Y (LV_set2 V h2 h4 (fun w hw => by cases hw; rfl) hl'))
theorem s_astore {j : Nat} (hk : Goes1 P a K d k) (hA : AllOk a) (o : OkE a (pc, .astore j, n, x, y, z, fl)) (ho : IsE a es) (q : stepI P a K d k (pc, .astore j, n, x, y, z, fl) es L st h cb sb) : G P a K d pc L st h cb sb := by
  have hq : ∃ v b r, st = v :: r ∧ mV P v = .ref b ∧ set1 L x (some v) fun L => nxt P a K d k (pc + n) es L r h cb sb := by
    unfold stepI at q
    dsimp only at q
    split at q
    · exact ⟨_, _, _, rfl, rfl, q⟩
    · exact ⟨_, _, _, rfl, rfl, q⟩
    · exact q.elim
  obtain ⟨v, b, r, rfl, hb9, q1⟩ := hq
  obtain ⟨L2, qq, h2, hlt, h4⟩ := set1_of _ _ _ _ q1
  obtain ⟨hd, hl, -⟩ := dec_of o
  unfold lnk at hl
  simp only [Bool.and_eq_true, decide_eq_true_eq] at hl
  have hn : n = 2 := Nat.eq_of_beq_eq_true hl.1
  subst hn
  have hj := Nat.eq_of_beq_eq_true hl.2
  subst hj
  exact G_of fun p e R s m args below meth c H locs cells slots ls F Y V hx hb => by
    rw [List.map_cons, hb9]
    exact lv_astore hx hb hd V.1 (Nat.lt_of_lt_of_le hlt V.2) rfl (fun ls' hl' =>
      nxt_go hk ho qq p e R s m args below meth c H locs cells slots _ F Y (LV_set1 V h2 h4 (fun w hw => by cases hw; exact hb9.symm) hl'))
theorem s_astore_n {j : Fin 4} (hk : Goes1 P a K d k) (hA : AllOk a) (o : OkE a (pc, .astore_n j, n, x, y, z, fl)) (ho : IsE a es) (q : stepI P a K d k (pc, .astore_n j, n, x, y, z, fl) es L st h cb sb) : G P a K d pc L st h cb sb := by
  have hq : ∃ v b r, st = v :: r ∧ mV P v = .ref b ∧ set1 L x (some v) fun L => nxt P a K d k (pc + n) es L r h cb sb := by
    unfold stepI at q
    dsimp only at q
    split at q
    · exact ⟨_, _, _, rfl, rfl, q⟩
    · exact ⟨_, _, _, rfl, rfl, q⟩
    · exact q.elim
  obtain ⟨v, b, r, rfl, hb9, q1⟩ := hq
  obtain ⟨L2, qq, h2, hlt, h4⟩ := set1_of _ _ _ _ q1
  obtain ⟨hd, hl, -⟩ := dec_of o
  unfold lnk at hl
  simp only [Bool.and_eq_true, decide_eq_true_eq] at hl
  have hn : n = 1 := Nat.eq_of_beq_eq_true hl.1
  subst hn
  have hj := Nat.eq_of_beq_eq_true hl.2
  exact G_of fun p e R s m args below meth c H locs cells slots ls F Y V hx hb => by
    rw [List.map_cons, hb9]
    exact lv_astore_n hx hb hd hj V.1 (Nat.lt_of_lt_of_le hlt V.2) rfl (fun ls' hl' =>
      nxt_go hk ho qq p e R s m args below meth c H locs cells slots _ F Y (LV_set1 V h2 h4 (fun w hw => by cases hw; exact hb9.symm) hl'))
theorem s_iinc {j : Nat} {v0 : Int} (hk : Goes1 P a K d k) (hA : AllOk a) (o : OkE a (pc, .iinc j v0, n, x, y, z, fl)) (ho : IsE a es) (q : stepI P a K d k (pc, .iinc j v0, n, x, y, z, fl) es L st h cb sb) : G P a K d pc L st h cb sb := by
  have q : ldI L x fun v => cI y fun w => set1 L x (some (.int (v + w))) fun L => nxt P a K d k (pc + n) es L st h cb sb := q
  obtain ⟨v, hv, q1⟩ := ldI_of q
  obtain ⟨w, hw, q2⟩ := cI_of q1
  obtain ⟨L2, qq, h2, hlt, h4⟩ := set1_of _ _ _ _ q2
  obtain ⟨hd, hl, -⟩ := dec_of o
  unfold lnk at hl
  simp only [Bool.and_eq_true, decide_eq_true_eq] at hl
  have hn : n = 3 := Nat.eq_of_beq_eq_true hl.1.1
  subst hn
  have hj := Nat.eq_of_beq_eq_true hl.1.2
  subst hj
  have hw2 : Int32.ofInt v0 = w := Option.some.inj (hl.2.symm.trans hw)
  exact G_of fun p e R s m args below meth c H locs cells slots ls F Y V hx hb => by
    have hm := lvl_mem P L 0 j _ hv
    rw [Nat.zero_add] at hm
    obtain ⟨i9, hi9⟩ := List.getElem?_of_mem hm
    exact lv_iinc (v := v + w) (k := i9) hx hb hd V.1 hi9 (by rw [hw2]) (Nat.lt_of_lt_of_le hlt V.2) rfl (fun ls' hl' =>
      nxt_go hk ho qq p e R s m args below meth c H locs cells slots _ F Y (LV_set1 V h2 h4 (fun w hw => by cases hw; rfl) hl'))
theorem s_pop (hk : Goes1 P a K d k) (hA : AllOk a) (o : OkE a (pc, .pop, n, x, y, z, fl)) (ho : IsE a es) (q : stepI P a K d k (pc, .pop, n, x, y, z, fl) es L st h cb sb) : G P a K d pc L st h cb sb := by
  have hq : ∃ v r, st = v :: r ∧ v.category = 1 ∧ nxt P a K d k (pc + n) es L r h cb sb := by
    unfold stepI at q
    dsimp only at q
    split at q
    · exact ⟨_, _, rfl, rfl, q⟩
    · exact ⟨_, _, rfl, rfl, q⟩
    · exact q.elim
  obtain ⟨v, r, rfl, hc, qq⟩ := hq
  obtain ⟨hd, hl, -⟩ := dec_of o
  have hn : n = 1 := Nat.eq_of_beq_eq_true hl
  subst hn
  exact G_of fun p e R s m args below meth c H locs cells slots ls F Y V hx hb => lv_pop hx hb hd ((mV_cat P v).trans hc) (nxt_go hk ho qq p e R s m args below meth c H locs cells slots _ F Y V)
theorem s_pop2 (hk : Goes1 P a K d k) (hA : AllOk a) (o : OkE a (pc, .pop2, n, x, y, z, fl)) (ho : IsE a es) (q : stepI P a K d k (pc, .pop2, n, x, y, z, fl) es L st h cb sb) : G P a K d pc L st h cb sb := by
  obtain ⟨v, r, rfl, qq⟩ := p1l_of q
  obtain ⟨hd, hl, -⟩ := dec_of o
  have hn : n = 1 := Nat.eq_of_beq_eq_true hl
  subst hn
  exact G_of fun p e R s m args below meth c H locs cells slots ls F Y V hx hb => lv_pop2_2 hx hb hd rfl (nxt_go hk ho qq p e R s m args below meth c H locs cells slots _ F Y V)
theorem s_dup (hk : Goes1 P a K d k) (hA : AllOk a) (o : OkE a (pc, .dup, n, x, y, z, fl)) (ho : IsE a es) (q : stepI P a K d k (pc, .dup, n, x, y, z, fl) es L st h cb sb) : G P a K d pc L st h cb sb := by
  have hq : ∃ v r, st = v :: r ∧ v.category = 1 ∧ nxt P a K d k (pc + n) es L (v :: v :: r) h cb sb := by
    unfold stepI at q
    dsimp only at q
    split at q
    · exact ⟨_, _, rfl, rfl, q⟩
    · exact ⟨_, _, rfl, rfl, q⟩
    · exact q.elim
  obtain ⟨v, r, rfl, hc, qq⟩ := hq
  obtain ⟨hd, hl, -⟩ := dec_of o
  have hn : n = 1 := Nat.eq_of_beq_eq_true hl
  subst hn
  exact G_of fun p e R s m args below meth c H locs cells slots ls F Y V hx hb => lv_dup hx hb hd ((mV_cat P v).trans hc) (nxt_go hk ho qq p e R s m args below meth c H locs cells slots _ F Y V)
theorem s_dup_x1 (hk : Goes1 P a K d k) (hA : AllOk a) (o : OkE a (pc, .dup_x1, n, x, y, z, fl)) (ho : IsE a es) (q : stepI P a K d k (pc, .dup_x1, n, x, y, z, fl) es L st h cb sb) : G P a K d pc L st h cb sb := by
  have hq : ∃ v w r, st = .int v :: .ref w :: r ∧ nxt P a K d k (pc + n) es L (.int v :: .ref w :: .int v :: r) h cb sb := by
    unfold stepI at q
    dsimp only at q
    split at q
    · exact ⟨_, _, _, rfl, q⟩
    · exact q.elim
  obtain ⟨v, w, r, rfl, qq⟩ := hq
  obtain ⟨hd, hl, -⟩ := dec_of o
  have hn : n = 1 := Nat.eq_of_beq_eq_true hl
  subst hn
  exact G_of fun p e R s m args below meth c H locs cells slots ls F Y V hx hb => lv_dup_x1 hx hb hd rfl rfl (nxt_go hk ho qq p e R s m args below meth c H locs cells slots _ F Y V)
theorem s_goto {v0 : Int} (hk : Goes1 P a K d k) (hA : AllOk a) (o : OkE a (pc, .goto v0, n, x, y, z, fl)) (ho : IsE a es) (q : stepI P a K d k (pc, .goto v0, n, x, y, z, fl) es L st h cb sb) : G P a K d pc L st h cb sb := by
  have qq : jmp P a K d k x L st h cb sb := q
  obtain ⟨hd, hl, -⟩ := dec_of o
  unfold lnk at hl
  simp only [Bool.and_eq_true, decide_eq_true_eq] at hl
  have hn : n = 3 := Nat.eq_of_beq_eq_true hl.1
  subst hn
  exact G_of fun p e R s m args below meth c H locs cells slots ls F Y V hx hb => lv_goto hx hb hd hl.2 (jmp_go hk hA qq p e R s m args below meth c H locs cells slots _ F Y V)
theorem s_ifnonnull {v0 : Int} (hk : Goes1 P a K d k) (hA : AllOk a) (o : OkE a (pc, .ifnonnull v0, n, x, y, z, fl)) (ho : IsE a es) (q : stepI P a K d k (pc, .ifnonnull v0, n, x, y, z, fl) es L st h cb sb) : G P a K d pc L st h cb sb := by
  have hq : ∃ v b r, st = v :: r ∧ mV P v = .ref b ∧ jmp P a K d k x L r h cb sb := by
    unfold stepI at q
    dsimp only at q
    split at q
    · exact ⟨_, _, _, rfl, rfl, q⟩
    · exact ⟨_, _, _, rfl, rfl, q⟩
    · exact q.elim
  obtain ⟨v, b, r, rfl, hb9, qq⟩ := hq
  obtain ⟨hd, hl, -⟩ := dec_of o
  unfold lnk at hl
  simp only [Bool.and_eq_true, decide_eq_true_eq] at hl
  have hn : n = 3 := Nat.eq_of_beq_eq_true hl.1
  subst hn
  exact G_of fun p e R s m args below meth c H locs cells slots ls F Y V hx hb => by
    rw [List.map_cons, hb9]
    exact lv_ifnonnull hx hb hd hl.2 (jmp_go hk hA qq p e R s m args below meth c H locs cells slots _ F Y V)
theorem s_ifCond {cc : ClassFile.Cond} {v0 : Int} (hk : Goes1 P a K d k) (hA : AllOk a) (o : OkE a (pc, .ifCond cc v0, n, x, y, z, fl)) (ho : IsE a es) (q : stepI P a K d k (pc, .ifCond cc v0, n, x, y, z, fl) es L st h cb sb) : G P a K d pc L st h cb sb := by
  obtain ⟨v, r, rfl, qq⟩ := p1i_of q
  obtain ⟨hd, hl, -⟩ := dec_of o
  unfold lnk at hl
  simp only [Bool.and_eq_true, decide_eq_true_eq] at hl
  have hn : n = 3 := Nat.eq_of_beq_eq_true hl.1
  subst hn
  refine G_of fun p e R s m args below meth c H locs cells slots ls F Y V hx hb => ?_
  cases cc with
  | eq => exact lv_if_eq hx hb hd hl.2 (fun w => jmp_go hk hA (qq.1 w) p e R s m args below meth c H locs cells slots _ F Y V) (fun w => nxt_go hk ho (qq.2 w) p e R s m args below meth c H locs cells slots _ F Y V)
  | ne => exact lv_if_ne hx hb hd hl.2 (fun w => jmp_go hk hA (qq.2 w) p e R s m args below meth c H locs cells slots _ F Y V) (fun w => nxt_go hk ho (qq.1 w) p e R s m args below meth c H locs cells slots _ F Y V)
  | lt => exact lv_if_lt hx hb hd hl.2 (fun w => jmp_go hk hA (qq.1 w) p e R s m args below meth c H locs cells slots _ F Y V) (fun w => nxt_go hk ho (qq.2 w) p e R s m args below meth c H locs cells slots _ F Y V)
  | ge => exact lv_if_ge hx hb hd hl.2 (fun w => jmp_go hk hA (qq.2 (Int32.not_lt.mpr w)) p e R s m args below meth c H locs cells slots _ F Y V) (fun w => nxt_go hk ho (qq.1 (Int32.not_le.mp w)) p e R s m args below meth c H locs cells slots _ F Y V)
  | gt => exact lv_if_gt hx hb hd hl.2 (fun w => jmp_go hk hA (qq.1 w) p e R s m args below meth c H locs cells slots _ F Y V) (fun w => nxt_go hk ho (qq.2 w) p e R s m args below meth c H locs cells slots _ F Y V)
  | le => exact lv_if_le hx hb hd hl.2 (fun w => jmp_go hk hA (qq.2 (Int32.not_lt.mpr w)) p e R s m args below meth c H locs cells slots _ F Y V) (fun w => nxt_go hk ho (qq.1 (Int32.not_le.mp w)) p e R s m args below meth c H locs cells slots _ F Y V)
theorem s_if_icmp {cc : ClassFile.Cond} {v0 : Int} (hk : Goes1 P a K d k) (hA : AllOk a) (o : OkE a (pc, .if_icmp cc v0, n, x, y, z, fl)) (ho : IsE a es) (q : stepI P a K d k (pc, .if_icmp cc v0, n, x, y, z, fl) es L st h cb sb) : G P a K d pc L st h cb sb := by
  obtain ⟨u, v, r, rfl, qq⟩ := p2i_of q
  obtain ⟨hd, hl, -⟩ := dec_of o
  unfold lnk at hl
  simp only [Bool.and_eq_true, decide_eq_true_eq] at hl
  have hn : n = 3 := Nat.eq_of_beq_eq_true hl.1
  subst hn
  refine G_of fun p e R s m args below meth c H locs cells slots ls F Y V hx hb => ?_
  cases cc with
  | eq => exact lv_icmp_eq hx hb hd hl.2 (fun w => jmp_go hk hA (qq.1 w) p e R s m args below meth c H locs cells slots _ F Y V) (fun w => nxt_go hk ho (qq.2 w) p e R s m args below meth c H locs cells slots _ F Y V)
  | ne => exact lv_icmp_ne hx hb hd hl.2 (fun w => jmp_go hk hA (qq.2 w) p e R s m args below meth c H locs cells slots _ F Y V) (fun w => nxt_go hk ho (qq.1 w) p e R s m args below meth c H locs cells slots _ F Y V)
  | lt => exact lv_icmp_lt hx hb hd hl.2 (fun w => jmp_go hk hA (qq.1 w) p e R s m args below meth c H locs cells slots _ F Y V) (fun w => nxt_go hk ho (qq.2 w) p e R s m args below meth c H locs cells slots _ F Y V)
  | ge => exact lv_icmp_ge hx hb hd hl.2 (fun w => jmp_go hk hA (qq.2 (Int32.not_lt.mpr w)) p e R s m args below meth c H locs cells slots _ F Y V) (fun w => nxt_go hk ho (qq.1 (Int32.not_le.mp w)) p e R s m args below meth c H locs cells slots _ F Y V)
  | gt => exact lv_icmp_gt hx hb hd hl.2 (fun w => jmp_go hk hA (qq.1 w) p e R s m args below meth c H locs cells slots _ F Y V) (fun w => nxt_go hk ho (qq.2 w) p e R s m args below meth c H locs cells slots _ F Y V)
  | le => exact lv_icmp_le hx hb hd hl.2 (fun w => jmp_go hk hA (qq.2 (Int32.not_lt.mpr w)) p e R s m args below meth c H locs cells slots _ F Y V) (fun w => nxt_go hk ho (qq.1 (Int32.not_le.mp w)) p e R s m args below meth c H locs cells slots _ F Y V)
end SIM
end
section
/-! steps with more to them: comparisons, switches, cells -/
section SIM2
variable {P : GP} {a : Nat} {K : Kt} {d : Nat}
variable {k : Ct} {es : List Ent} {pc n x y z : Nat} {fl : Bool} {L : mLs} {st : List Value} {h : mH} {cb sb : Nat}
theorem inW : ∀ ci, ci < 5 → ∀ w ∈ u_ws (mCn ci) (mTt ci) (mNn ci), w ∈ TB := by
  have h : ∀ ci, ci < 5 → ∀ w ∈ u_ws (mCn ci) (mTt ci) (mNn ci), w ∈ lT ∧ okK 0 w = true := by decide +kernel
  exact fun ci hc w hw => TB_in (h ci hc w hw)
theorem mCl_at : ∀ ci, ci < 5 → mCl[ci]? = some (mCn ci, mTt ci, mNn ci)
  | 0, _ => rfl
  | 1, _ => rfl
  | 2, _ => rfl
  | 3, _ => rfl
  | 4, _ => rfl
  | _ + 5, h => absurd h (by omega)
theorem mTy_ok : ∀ ci, ci < 5 → ∀ k, k < mNn ci → parseFieldDescriptor (mTt ci k).2.2.1 = some (mTy ci k)
  | 0, _ => oT0
  | 1, _ => oT1
  | 2, _ => oT2
  | 3, _ => oT3
  | 4, _ => oT4
  | _ + 5, h => absurd h (by omega)
theorem mNm_ok : ∀ ci, ci < 5 → ∀ a, a < mNn ci → ∀ b, b < mNn ci → a ≠ b → (mTt ci a).2.1 ≠ (mTt ci b).2.1
  | 0, _ => nT0
  | 1, _ => nT1
  | 2, _ => nT2
  | 3, _ => nT3
  | 4, _ => nT4
  | _ + 5, h => absurd h (by omega)
theorem mDf_ok : ∀ ci, ci < 5 → ∀ j, j < mNn ci → defaultValue (mTy ci j) = vp_V ((mDf ci).map (mV P)) j := by
  intro ci hc j hj
  match ci, hc with
  | 0, _ => match j, hj with | 0, _ => rfl | 1, _ => rfl | 2, _ => rfl | 3, _ => rfl | _ + 4, h => exact absurd h (by simp only [mNn]; omega)
  | 1, _ => match j, hj with | 0, _ => rfl | 1, _ => rfl | 2, _ => rfl | 3, _ => rfl | _ + 4, h => exact absurd h (by simp only [mNn]; omega)
  | 2, _ => match j, hj with | 0, _ => rfl | 1, _ => rfl | 2, _ => rfl | 3, _ => rfl | 4, _ => rfl | 5, _ => rfl | _ + 6, h => exact absurd h (by simp only [mNn]; omega)
  | 3, _ => match j, hj with | 0, _ => rfl | 1, _ => rfl | _ + 2, h => exact absurd h (by simp only [mNn]; omega)
  | 4, _ => match j, hj with | 0, _ => rfl | 1, _ => rfl | 2, _ => rfl | 3, _ => rfl | 4, _ => rfl | 5, _ => rfl | 6, _ => rfl | _ + 7, h => exact absurd h (by simp only [mNn]; omega)
  | _ + 5, h => exact absurd h (by omega)
theorem one_P {D : va_G} {cl : List vw_C} {q : Nat × va_E} {H : Heap} (h : va_at D cl q H) : va_P D cl [q] H := fun k x hx => by
  match k, hx with
  | 0, hx => cases hx; exact h
  | _ + 1, hx => simp at hx
theorem wd_at {h : mH} {H : Heap} (w : Wd P h H) {i ci : Nat} {fs : List Value} (hi : nth h i = some (.inr (ci, fs))) (hc : ci < 5) : va_at (gD P) mCl (gN P + i, .inr (ci, fs.map (mV P))) H := w.2 i _ hi hc
theorem wd_arr {h : mH} {H : Heap} (w : Wd P h H) {i k n : Nat} {g : mAc} (hi : nth h i = some (.inl (k, n, g))) : va_at (gD P) mCl (gN P + i, .inl (gC P k, n, mRA P g)) H := w.2 i _ hi
theorem nth_map {α β : Type} (f : α → β) : ∀ (l : List α) (n : Nat), (l.map f)[n]? = (nth l n).map f
  | [], _ => by simp [nth]
  | _ :: _, 0 => by simp [nth]
  | _ :: t, n + 1 => by simp [nth, nth_map f t n]
theorem nth_lt {α : Type} {l : List α} {n : Nat} {x : α} (h : nth l n = some x) : n < l.length := by
  rw [nth_eq] at h
  exact (List.getElem?_eq_some_iff.mp h).1
theorem nth_set {α : Type} (l : List α) (i j : Nat) (x : α) : nth (l.set i x) j = if i = j then (if i < l.length then some x else none) else nth l j := by
  rw [nth_eq, nth_eq, List.getElem?_set]
theorem nth_app {α : Type} (l r : List α) (j : Nat) : nth (l ++ r) j = if j < l.length then nth l j else nth r (j - l.length) := by
  rw [nth_eq, nth_eq, nth_eq]
  by_cases h : j < l.length
  · rw [if_pos h, List.getElem?_append_left h]
  · rw [if_neg h, List.getElem?_append_right (by omega)]
theorem mC_kept {i : Nat} {c : va_E} {H H1 : Heap} (h : mC P i c H) (hq : H1[gN P + i]? = H[gN P + i]?) : mC P i c H1 := by
  unfold mC at h ⊢
  split at h
  · rw [hq]; exact h
  · exact fun hc => (h hc).kept hq
theorem wd_set {h : mH} {H H1 : Heap} (w : Wd P h H) {i : Nat} {c0 c : va_E} (hi : nth h i = some c0) (hz : H1.size = H.size) (hc : mC P i c H1) (ho : ∀ q : Nat, q ≠ gN P + i → H1[q]? = H[q]?) : Wd P (h.set i c) H1 := by
  refine ⟨by rw [hz, w.1, List.length_set], fun j x hj => ?_⟩
  rw [nth_set] at hj
  by_cases e : i = j
  · subst e
    rw [if_pos rfl, if_pos (nth_lt hi)] at hj
    cases hj
    exact hc
  · rw [if_neg e] at hj
    exact mC_kept (w.2 j x hj) (ho _ (by omega))
theorem wd_push {h : mH} {H H1 : Heap} (w : Wd P h H) {c : va_E} (hz : H1.size = H.size + 1) (hc : mC P h.length c H1) (ho : ∀ q : Nat, q < H.size → H1[q]? = H[q]?) : Wd P (h ++ [c]) H1 := by
  refine ⟨by rw [hz, w.1, List.length_append]; simp only [List.length_singleton]; omega, fun j x hj => ?_⟩
  rw [nth_app] at hj
  by_cases e : j < h.length
  · rw [if_pos e] at hj
    exact mC_kept (w.2 j x hj) (ho _ (by rw [w.1]; omega))
  · rw [if_neg e] at hj
    have : j = h.length := by
      have := nth_lt hj
      simp only [List.length_singleton] at this
      omega
    subst this
    rw [Nat.sub_self] at hj
    cases hj
    exact hc
theorem Env_K {U : State} (h : Env P U) : va_K (gD P) mCl (tys P) U := h.1
theorem s_lcmp (hk : Goes1 P a K d k) (hA : AllOk a) (o : OkE a (pc, .lcmp, n, x, y, z, fl)) (ho : IsE a es) (q : stepI P a K d k (pc, .lcmp, n, x, y, z, fl) es L st h cb sb) : G P a K d pc L st h cb sb := by
  obtain ⟨u, v, r, rfl, q1⟩ := p2l_of q
  obtain ⟨hd, hl, -⟩ := dec_of o
  have hn : n = 1 := Nat.eq_of_beq_eq_true hl
  subst hn
  cases es with
  | nil => exact q1.elim
  | cons e2 es2 =>
    obtain ⟨pc2, j, n2, x2, y2, z2, fl2⟩ := e2
    dsimp only at q1
    split at q1
    · rename_i hb2
      simp only [Bool.and_eq_true] at hb2
      have hp : pc2 = pc + 1 := Nat.eq_of_beq_eq_true hb2.1
      subst hp
      split at q1
      · rename_i cc v0
        obtain ⟨hd2, hl2, -⟩ := dec_of (ho _ List.mem_cons_self)
        unfold lnk at hl2
        simp only [Bool.and_eq_true, decide_eq_true_eq] at hl2
        have hn : n2 = 3 := Nat.eq_of_beq_eq_true hl2.1
        subst hn
        have ho2 : IsE a es2 := fun e he => ho e (List.mem_cons_of_mem _ he)
        refine G_of fun p e R s m args below meth c H locs cells slots ls F Y V hx hb => W.lcmp hx hb hd ?_
        have c1 : lg_cmp u v = 0 ↔ u = v := by
          unfold lg_cmp
          by_cases h1 : u > v
          · rw [if_pos h1]
            exact ⟨fun e => absurd e (by decide), fun e => by subst e; exact (Int64.lt_irrefl h1).elim⟩
          · rw [if_neg h1]
            by_cases h2 : u = v
            · rw [if_pos h2]; exact ⟨fun _ => h2, fun _ => rfl⟩
            · rw [if_neg h2]; exact ⟨fun e => absurd e (by decide), fun e => absurd e h2⟩
        have c2 : lg_cmp u v < 0 ↔ u < v := by
          have h9 := lg_cmp_ge u v
          rw [← Int32.not_le, h9, Int64.not_le]
        have c3 : 0 < lg_cmp u v ↔ v < u := by
          unfold lg_cmp
          by_cases h1 : u > v
          · rw [if_pos h1]
            exact ⟨fun _ => h1, fun _ => by decide⟩
          · rw [if_neg h1]
            by_cases h2 : u = v
            · rw [if_pos h2]; exact ⟨fun e => absurd e (by decide), fun e => absurd e h1⟩
            · rw [if_neg h2]; exact ⟨fun e => absurd e (by decide), fun e => absurd e h1⟩
        cases cc with
        | eq => exact lv_if_eq hx hb hd2 hl2.2 (fun w => jmp_go hk hA (q1.1 (c1.mp w)) p e R s m args below meth c H locs cells slots _ F Y V) (fun w => nxt_go hk ho2 (q1.2 (fun e => w (c1.mpr e))) p e R s m args below meth c H locs cells slots _ F Y V)
        | ne => exact lv_if_ne hx hb hd2 hl2.2 (fun w => jmp_go hk hA (q1.2 (fun e => w (c1.mpr e))) p e R s m args below meth c H locs cells slots _ F Y V) (fun w => nxt_go hk ho2 (q1.1 (c1.mp w)) p e R s m args below meth c H locs cells slots _ F Y V)
        | lt => exact lv_if_lt hx hb hd2 hl2.2 (fun w => jmp_go hk hA (q1.1 (c2.mp w)) p e R s m args below meth c H locs cells slots _ F Y V) (fun w => nxt_go hk ho2 (q1.2 (fun e => w (c2.mpr e))) p e R s m args below meth c H locs cells slots _ F Y V)
        | ge => exact lv_if_ge hx hb hd2 hl2.2 (fun w => jmp_go hk hA (q1.2 (fun e => Int32.not_lt.mpr w (c2.mpr e))) p e R s m args below meth c H locs cells slots _ F Y V) (fun w => nxt_go hk ho2 (q1.1 (c2.mp (Int32.not_le.mp w))) p e R s m args below meth c H locs cells slots _ F Y V)
        | gt => exact lv_if_gt hx hb hd2 hl2.2 (fun w => jmp_go hk hA (q1.1 (c3.mp w)) p e R s m args below meth c H locs cells slots _ F Y V) (fun w => nxt_go hk ho2 (q1.2 (fun e => w (c3.mpr e))) p e R s m args below meth c H locs cells slots _ F Y V)
        | le => exact lv_if_le hx hb hd2 hl2.2 (fun w => jmp_go hk hA (q1.2 (fun e => Int32.not_lt.mpr w (c3.mpr e))) p e R s m args below meth c H locs cells slots _ F Y V) (fun w => nxt_go hk ho2 (q1.1 (c3.mp (Int32.not_le.mp w))) p e R s m args below meth c H locs cells slots _ F Y V)
      · exact q1.elim
    · exact q1.elim
theorem swi_of {f : Nat → Prop} {df : Nat} : ∀ {l : List (Int32 × Nat)} {v : Int32}, swi l v f df → (∃ j q, nth l j = some q ∧ v = q.1 ∧ f q.2) ∨ ((∀ j q, nth l j = some q → v ≠ q.1) ∧ f df)
  | [], v, q => Or.inr ⟨fun j q h => by simp [nth] at h, q⟩
  | q0 :: r, v, q => by
    by_cases e : v = q0.1
    · exact Or.inl ⟨0, q0, rfl, e, q.1 e⟩
    · rcases swi_of (q.2 e) with ⟨j, q9, h1, h2, h3⟩ | ⟨h1, h2⟩
      · exact Or.inl ⟨j + 1, q9, h1, h2, h3⟩
      · refine Or.inr ⟨fun j q9 hj => ?_, h2⟩
        cases j with
        | zero => cases hj; exact e
        | succ j => exact h1 j q9 hj
theorem s_tableswitch {df lo hi : Int} {offs : Array Int} (hk : Goes1 P a K d k) (hA : AllOk a) (o : OkE a (pc, .tableswitch df lo hi offs, n, x, y, z, fl)) (ho : IsE a es) (q : stepI P a K d k (pc, .tableswitch df lo hi offs, n, x, y, z, fl) es L st h cb sb) : G P a K d pc L st h cb sb := by
  obtain ⟨v, r, rfl, q1⟩ := p1i_of q
  obtain ⟨hd, hl, -⟩ := dec_of o
  unfold lnk at hl
  cases hs : nth kS z with
  | none => rw [hs] at q1; exact q1.elim
  | some l =>
    rw [hs] at q1 hl
    dsimp only at q1 hl
    simp only [Bool.and_eq_true, decide_eq_true_eq] at hl
    obtain ⟨⟨h1, h2⟩, h3, h4⟩ := hl
    have h5 : ∀ j, j < l.length → ∃ q, nth l j = some q ∧ q.1.toInt = (j : Int) ∧ ∃ o, offs[j]? = some o ∧ (pc : Int) + o = (q.2 : Int) := fun j hj => of_decide_eq_true (List.all_eq_true.mp h4 j (List.mem_range.mpr hj))
    subst h2
    refine G_of fun p e R s m args below meth c H locs cells slots ls F Y V hx hb => ?_
    rcases swi_of q1 with ⟨j, q9, g1, g2, g3⟩ | ⟨g1, g2⟩
    · obtain ⟨q8, e1, e2, o8, e3, e4⟩ := h5 j (nth_lt g1)
      rw [g1] at e1
      cases e1
      have hj := nth_lt g1
      have hv : v.toInt = (j : Int) := by rw [g2]; exact e2
      refine lv_tableIn hx hb hd (by rw [hv]; omega) (by rw [hv]; omega) (off := o8) (by rw [hv, Int.sub_zero, Int.toNat_natCast]; exact e3) e4 ?_
      exact jmp_go hk hA g3 p e R s m args below meth c H locs cells slots _ F Y V
    · refine lv_tableOut hx hb hd ?_ h1 (jmp_go hk hA g2 p e R s m args below meth c H locs cells slots _ F Y V)
      by_cases c1 : v.toInt < 0
      · exact Or.inl c1
      · refine Or.inr ?_
        by_cases c2 : hi < v.toInt
        · exact c2
        · exfalso
          obtain ⟨q8, e1, e2, -⟩ := h5 v.toInt.toNat (by omega)
          refine g1 _ _ e1 (Int32.toInt_inj.mp ?_)
          rw [e2]
          omega
end SIM2
end
section
/-! steps over cells: fields, arrays, new ones -/
section SIM3
variable {P : GP} {a : Nat} {K : Kt} {d : Nat}
variable {k : Ct} {es : List Ent} {pc n x y z : Nat} {fl : Bool} {L : mLs} {st : List Value} {h : mH} {cb sb : Nat}
theorem gtf_of {P : GP} {h : mH} {st : List Value} {ci j : Nat} {f : Value → List Value → Prop} (q : gtf h st ci j f) : (∃ i r fs v, st = .ref i :: r ∧ nth h i = some (.inr (ci, fs)) ∧ nth fs j = some v ∧ f v r) ∨ (∃ c r v, st = .retAddr c :: r ∧ 10 ≤ c ∧ c < 13 ∧ ci = 0 ∧ ((j = 0 ∧ v = .retAddr (c + 20)) ∨ (j = 1 ∧ v = .int 0)) ∧ f v r) := by
  unfold gtf at q
  split at q
  · split at q
    · split at q
      · rename_i hb
        have := Nat.eq_of_beq_eq_true hb
        subst this
        split at q
        · exact Or.inl ⟨_, _, _, _, rfl, by assumption, by assumption, q⟩
        · exact q.elim
      · exact q.elim
    · exact q.elim
  · split at q
    · rename_i hb
      simp only [Bool.and_eq_true] at hb
      obtain ⟨⟨h1, h2⟩, h3⟩ := hb
      split at q
      · exact Or.inr ⟨_, _, _, rfl, Nat.le_of_ble_eq_true h1, Nat.le_of_ble_eq_true h2, Nat.eq_of_beq_eq_true h3, Or.inl ⟨rfl, rfl⟩, q⟩
      · exact Or.inr ⟨_, _, _, rfl, Nat.le_of_ble_eq_true h1, Nat.le_of_ble_eq_true h2, Nat.eq_of_beq_eq_true h3, Or.inr ⟨rfl, rfl⟩, q⟩
      · exact q.elim
    · exact q.elim
  · exact q.elim
theorem noNest (a ix y : Nat) : fWn a ix 0 y ∉ lT := by
  have h : ∀ w ∈ lT, (match w with | .fieldLinkNest _ _ c _ _ _ => decide (c ≠ rc_STR) | _ => true) = true := by decide +kernel
  intro hm
  have := h _ hm
  have e : (mTt 0 y).1 = rc_STR := by
    show (tT0 y).1 = rc_STR
    unfold tT0
    split <;> rfl
  simp only [fWn, e] at this
  exact absurd this (by decide)
theorem s_getfield {ix : Nat} (hk : Goes1 P a K d k) (hA : AllOk a) (o : OkE a (pc, .getfield ix, n, x, y, z, fl)) (ho : IsE a es) (q : stepI P a K d k (pc, .getfield ix, n, x, y, z, fl) es L st h cb sb) : G P a K d pc L st h cb sb := by
  have q : gtf h st x y fun v r => nxt P a K d k (pc + n) es L (v :: r) h cb sb := q
  obtain ⟨hd, hl, hw⟩ := dec_of o
  unfold lnk at hl
  simp only [Bool.and_eq_true] at hl
  obtain ⟨⟨⟨hl1, hl2⟩, hl3⟩, hl4⟩ := hl
  have hn : n = 3 := Nat.eq_of_beq_eq_true hl1
  subst hn
  have hx5 : x < 5 := Nat.le_of_ble_eq_true hl2
  have hyN : y < mNn x := Nat.le_of_ble_eq_true hl3
  have hz2 : z < 2 := Nat.le_of_ble_eq_true hl4
  rcases gtf_of (P := P) q with ⟨i, r, fs, v, rfl, hi, hv, qq⟩ | ⟨w9, r, v, rfl, hc1, hc2, rfl, hv, qq⟩
  · refine G_of fun p e R s m args below meth c H locs cells slots ls F Y V hx hb => ?_
    obtain ⟨-, -, -, -, hown, hts, hE, -⟩ := id F
    have hP := one_P (wd_at Y.2.2.2 hi hx5)
    have hfs : (fs.map (mV P))[y]? = some (mV P v) := by rw [nth_map, hv]; rfl
    have K1 := nxt_go hk ho qq p e R s m args below meth c H locs cells slots _ F Y V
    match z, hz2 with
    | 0, _ =>
      have hw := TB_in (hw (0, fWd a ix x y) (by simp [lnW]))
      exact va_get (ws := [(gN P + i, .inr (x, fs.map (mV P)))]) hx hb hts (inW x hx5) hown (Env_K hE) hP 0 rfl (mCl_at x hx5) y hyN (hts _ hw) (fun _ h9 => h9) hfs hd K1
    | 1, _ =>
      have hw := WN_in (hw (1, fWn a ix x y) (by simp [lnW]))
      exact va_getN (ws := [(gN P + i, .inr (x, fs.map (mV P)))]) (host := mOwn a) hx hb hts (inW x hx5) hown (Env_K hE) hP 0 rfl (mCl_at x hx5) y hyN (va_Nw.use rfl (hE.2.2.2.2.2.1 _ hw)) (fun _ h9 => h9) hfs hd K1
  · refine G_of fun p e R s m args below meth c H locs cells slots ls F Y V hx hb => ?_
    obtain ⟨-, -, -, -, hown, hts, hE, -⟩ := id F
    have K1 := nxt_go hk ho qq p e R s m args below meth c H locs cells slots _ F Y V
    have hS := Y.2.2.1
    obtain ⟨hk1, hk2, hk3, -⟩ := hE.2.2.2.2.2.2.2.2.2.2.1.1 (w9 - 10) (by omega)
    have hw : fWd a ix 0 y ∈ TB := by
      match z, hz2 with
      | 0, _ => exact TB_in (hw (0, fWd a ix 0 y) (by simp [lnW]))
      | 1, _ =>
        have := (hw (1, fWn a ix 0 y) (by simp [lnW])).1
        exact absurd this (noNest a ix y)
    dsimp only at hk2 hk3
    rw [show 10 + (w9 - 10) = w9 by omega] at hk2 hk3
    rw [show 30 + (w9 - 10) = w9 + 20 by omega] at hk3
    rcases hv with ⟨rfl, rfl⟩ | ⟨rfl, rfl⟩
    · exact vk_getf hx hb hk3 hS hown (hts _ hw) (fun _ h9 => h9) hd K1
    · exact vk_getf hx hb hk2 hS hown (hts _ hw) (fun _ h9 => h9) hd K1
theorem fitK_of {ty : FieldType} {v : Value} {q : Prop} (h : fitK ty v q) : q ∧ narrow ty (mV P v) = mV P v ∧ fits ty (mV P v) = true := by
  unfold fitK at h
  split at h
  · split at h
    · exact ⟨h, rfl, rfl⟩
    · exact h.elim
  · split at h
    · exact ⟨h, rfl, rfl⟩
    · exact h.elim
  · split at h
    · exact ⟨h, rfl, rfl⟩
    · exact ⟨h, rfl, rfl⟩
    · exact ⟨h, rfl, rfl⟩
    · exact h.elim
  · split at h
    · exact ⟨h, rfl, rfl⟩
    · exact ⟨h, rfl, rfl⟩
    · exact ⟨h, rfl, rfl⟩
    · exact h.elim
  · split at h
    · exact ⟨h.2, h.1.1, h.1.2⟩
    · exact h.elim
  · split at h
    · exact ⟨h.2, h.1.1, h.1.2⟩
    · exact h.elim
  · exact h.elim
theorem ptf_of {st : List Value} {ci j : Nat} {f : mH → List Value → Prop} (q : ptf h st ci j f) : ∃ v i r fs, st = v :: .ref i :: r ∧ nth h i = some (.inr (ci, fs)) ∧ j < fs.length ∧ fitK (mTy ci j) v (f (h.set i (.inr (ci, fs.set j v))) r) := by
  unfold ptf at q
  split at q
  · split at q
    · split at q
      · rename_i hb
        have := Nat.eq_of_beq_eq_true hb
        subst this
        split at q
        · exact ⟨_, _, _, _, rfl, by assumption, nth_lt (by assumption), q⟩
        · exact q.elim
      · exact q.elim
    · exact q.elim
  · exact q.elim
theorem s_putfield {ix : Nat} (hk : Goes1 P a K d k) (hA : AllOk a) (o : OkE a (pc, .putfield ix, n, x, y, z, fl)) (ho : IsE a es) (q : stepI P a K d k (pc, .putfield ix, n, x, y, z, fl) es L st h cb sb) : G P a K d pc L st h cb sb := by
  have q : ptf h st x y fun h r => nxt P a K d k (pc + n) es L r h cb sb := q
  obtain ⟨hd, hl, hw⟩ := dec_of o
  unfold lnk at hl
  simp only [Bool.and_eq_true] at hl
  obtain ⟨⟨⟨hl1, hl2⟩, hl3⟩, hl4⟩ := hl
  have hn : n = 3 := Nat.eq_of_beq_eq_true hl1
  subst hn
  have hx5 : x < 5 := Nat.le_of_ble_eq_true hl2
  have hyN : y < mNn x := Nat.le_of_ble_eq_true hl3
  obtain ⟨v, i, r, fs, rfl, hi, hyl, qf⟩ := ptf_of q
  obtain ⟨qq, hnar, hfit⟩ := fitK_of (P := P) qf
  refine G_of fun p e R s m args below meth c H locs cells slots ls F Y V hx hb => ?_
  obtain ⟨-, -, -, -, hown, hts, hE, -, hname, -⟩ := id F
  obtain ⟨hY1, hY2, hS0, hWd⟩ := id Y
  have hK := Env_K hE
  have hin := inW x hx5
  have hc := mCl_at x hx5
  have hap := va_apart (own := mOwn a) hts hin (mTy x) (mTy_ok x hx5) (mNm_ok x hx5) hK hc
  obtain ⟨r9, h1, cell, q1, q2, q3, q4⟩ := wd_at hWd hi hx5
  have hr : r9 = (mCn x, mTt x, mNn x) := Option.some.inj (h1.symm.trans hc)
  subst hr
  obtain ⟨hSl, hfc, kC, hkC, hkind⟩ := hK.1 x _ hc
  obtain ⟨cf, kf, fi, f, hif, hsl⟩ := hSl y hyN
  have hlay := hts _ (hin _ (u_in_lay hyN))
  unfold u_lay at hlay
  have hst := (u_facts hfc hkC (u_lays hts hin hyN) hif).1
  have hl9 : y < (fs.map (mV P)).length := by rw [List.length_map]; exact hyl
  have fin : ∀ H' : Heap, H'[gN P + i]? = some (cell.setSlot f.slot (mV P v)) → H'.size = H.size → (∀ q, q ≠ gN P + i → H'[q]? = H[q]?) →
      W p (gl P) e R s m args below meth c H' (locs ++ [⟨gN P + i, f.slot⟩]) cells slots (vx_MQ below (QcK P K) (XcK P K) args s R.cells R.slots (gF P)) (F0 m (pc + 3) ls (r.map (mV P))) := by
    intro H' e1 e2 e3
    rw [hsl] at e1
    refine nxt_go hk ho qq p e R s m args below meth c H' _ cells slots _ F ⟨hY1, hY2, hS0.put e2 e3 ?_, wd_set hWd hi e2 ?_ e3⟩ V
    · show gN P ≤ gN P + i
      omega
    · show x < 5 → _
      intro _
      refine ⟨_, hc, ?_⟩
      rw [List.map_set]
      exact t_OB.to (V := updV (vp_V (fs.map (mV P))) y (mV P v)) ⟨_, e1, q2, q3, t_set q4 hap hyN (mV P v)⟩ (fun j _ => vp_updV_set hl9 (mV P v) j)
  match z, hl4 with
  | 0, hl4 =>
    have hfin : (mTt x y).2.2.2 = false := by simpa using hl4
    rw [if_neg (by rw [hfin]; decide)] at hlay
    have h6 := u_store hfc hkC hkind hlay hif (mTy_ok x hx5 y hyN) hnar hfit
    have hw := TB_in (hw (0, fWd a ix x y) (by simp [lnW]))
    exact W.putK hx hb (f := f) ⟨hown, hts _ hw, ⟨_, _, _, hif⟩, hst⟩ (by rw [q2]; exact h6) q1 q3 (by rw [hsl]; exact k2_hasslot (q4 y hyN)) rfl rfl hd fin
  | 1, hl4 =>
    have hfin : (mTt x y).2.2.2 = false := by simpa using hl4
    rw [if_neg (by rw [hfin]; decide)] at hlay
    have h6 := u_store hfc hkC hkind hlay hif (mTy_ok x hx5 y hyN) hnar hfit
    have hw := WN_in (hw (1, fWn a ix x y) (by simp [lnW]))
    exact va_WputK hx hb (f := f) (host := mOwn a) hown (va_Nw.use rfl (hE.2.2.2.2.2.1 _ hw)) hif hst (by rw [q2]; exact h6) q1 q3 (by rw [hsl]; exact k2_hasslot (q4 y hyN)) rfl rfl hd fin
  | 2, hl4 =>
    simp only [Bool.and_eq_true, decide_eq_true_eq] at hl4
    obtain ⟨⟨hfin, hnm⟩, hdecl⟩ := hl4
    rw [if_pos hfin] at hlay
    have hcf : m.cls = cf := by
      obtain ⟨_, _, c', _, _, _, -, -, hf', -, -, -, hown2, -⟩ := Cond.laysFinal_spec hlay
      have e1 : c' = cf := by have := hif.symm.trans hf'; simp at this; exact this.1.symm
      rw [hdecl] at hown2
      rw [← e1]; exact Option.some.inj (hown.symm.trans hown2)
    have h6 := u_fits hfc hkC hkind (Or.inr hlay) hif (mTy_ok x hx5 y hyN) hnar hfit
    have hw := TB_in (hw (0, fWd a ix x y) (by simp [lnW]))
    exact W.putFinK hx hb hown (hts _ hw) hif hst hcf (by rw [hname]; exact hnm) (by rw [q2]; exact h6) q1 q3 (by rw [hsl]; exact k2_hasslot (q4 y hyN)) rfl rfl hd fin
theorem s_getstatic {ix : Nat} (hk : Goes1 P a K d k) (hA : AllOk a) (o : OkE a (pc, .getstatic ix, n, x, y, z, fl)) (ho : IsE a es) (q : stepI P a K d k (pc, .getstatic ix, n, x, y, z, fl) es L st h cb sb) : G P a K d pc L st h cb sb := by
  obtain ⟨hd, hl, hw⟩ := dec_of o
  have hn : n = 3 := Nat.eq_of_beq_eq_true hl
  subst hn
  match x, q, hw, o with
  | 0, q, hw, o =>
    have hw := TB_in (hw _ (List.mem_singleton.mpr rfl))
    exact G_of fun p e R s m args below meth c H locs cells slots ls F Y V hx hb => va_gets hx hb F.2.2.2.2.2.2.1.2.2.2.2.2.2.2.2.2.2.2.1 Y.2.2.1 F.2.2.2.2.1 (F.2.2.2.2.2.1 _ hw) (fun _ h9 => h9) hd (nxt_go hk ho q p e R s m args below meth c H locs cells slots _ F Y V)
  | 1, q, hw, o =>
    have hw := TB_in (hw _ (List.mem_singleton.mpr rfl))
    exact G_of fun p e R s m args below meth c H locs cells slots ls F Y V hx hb => va_gets hx hb F.2.2.2.2.2.2.1.2.2.2.2.2.2.2.2.2.2.2.2.1.1 Y.2.2.1 F.2.2.2.2.1 (F.2.2.2.2.2.1 _ hw) (fun _ h9 => h9) hd (nxt_go hk ho q p e R s m args below meth c H locs cells slots _ F Y V)
  | 2, q, hw, o =>
    have hw := TB_in (hw _ (List.mem_singleton.mpr rfl))
    exact G_of fun p e R s m args below meth c H locs cells slots ls F Y V hx hb => va_gets hx hb F.2.2.2.2.2.2.1.2.2.2.2.2.2.2.2.2.2.2.2.2.1.1 Y.2.2.1 F.2.2.2.2.1 (F.2.2.2.2.2.1 _ hw) (fun _ h9 => h9) hd (nxt_go hk ho q p e R s m args below meth c H locs cells slots _ F Y V)
  | _ + 3, q, hw, o => exact q.elim
end SIM3
end
section
/-! steps over arrays, constants, new cells -/
section SIM4
variable {P : GP} {a : Nat} {K : Kt} {d : Nat}
variable {k : Ct} {es : List Ent} {pc n x y z : Nat} {fl : Bool} {L : mLs} {st : List Value} {h : mH} {cb sb : Nat}
theorem cBy_of {c n : Nat} {g : Nat → Int32} {s : State} (hc : cBy c = some (n, g)) (hE : Env P s) : va_T .byte (gA P c) n (fun j => .int (g j)) (gF P) s s.heap := by
  obtain ⟨-, -, -, -, -, -, -, -, -, -, hS, -, hT, hO, -⟩ := hE
  unfold cBy at hc
  split at hc
  · rename_i hb
    simp only [Bool.and_eq_true] at hb
    have h1 : 30 ≤ c := Nat.le_of_ble_eq_true hb.1
    have h2 : c < 33 := Nat.le_of_ble_eq_true hb.2
    have h3 := (hS.1 (c - 30) (by omega)).2.2.2
    dsimp only at h3
    rw [show 30 + (c - 30) = c by omega] at h3
    split at hc
    · rename_i n9 hn
      rw [nth_eq] at hn
      have e : kSl.getD (c - 30) 0 = n9 := by rw [List.getD_eq_getElem?_getD, hn]; rfl
      rw [e] at h3
      simp only [Option.some.injEq, Prod.mk.injEq] at hc
      obtain ⟨rfl, rfl⟩ := hc
      exact h3
    · cases hc
  · split at hc
    · rename_i hb
      have := Nat.eq_of_beq_eq_true hb
      subst this
      cases hc
      exact hT.2
    · split at hc
      · rename_i hb
        have := Nat.eq_of_beq_eq_true hb
        subst this
        cases hc
        exact hO.2
      · cases hc
theorem script_lt {s : State} (hE : Env P s) : gA P 0 < s.heap.size ∧ ¬ gF P (gA P 0) := ⟨Nat.lt_of_lt_of_le hE.2.2.2.1 hE.2.1, Nat.not_le.mpr hE.2.2.2.1⟩
theorem alI_of {f : Value → List Value → Prop} (q : alI P h st f) : (∃ j i r m g, st = .int j :: .ref i :: r ∧ nth h i = some (.inl (1, m, .inl g)) ∧ vp_in j m ∧ f (.int (g j.toNatClampNeg)) r) ∨ (∃ j r, st = .int j :: .retAddr 0 :: r ∧ vp_in j (gL P) ∧ f (.int (gX P j.toNatClampNeg)) r) := by
  unfold alI at q
  split at q
  · split at q
    · split at q
      · rename_i hb
        have := Nat.eq_of_beq_eq_true hb
        subst this
        exact Or.inl ⟨_, _, _, _, _, rfl, by assumption, q.1, q.2⟩
      · exact q.elim
    · exact q.elim
  · split at q
    · exact Or.inr ⟨_, _, rfl, q.1, q.2⟩
    · exact q.elim
  · exact q.elim
theorem s_iaload (hk : Goes1 P a K d k) (hA : AllOk a) (o : OkE a (pc, .iaload, n, x, y, z, fl)) (ho : IsE a es) (q : stepI P a K d k (pc, .iaload, n, x, y, z, fl) es L st h cb sb) : G P a K d pc L st h cb sb := by
  have q : alI P h st fun v r => nxt P a K d k (pc + n) es L (v :: r) h cb sb := q
  obtain ⟨hd, hl, -⟩ := dec_of o
  have hn : n = 1 := Nat.eq_of_beq_eq_true hl
  subst hn
  rcases alI_of q with ⟨j, i, r, m9, g, rfl, hi, hin, qq⟩ | ⟨j, r, rfl, hin, qq⟩
  · exact G_of fun p e R s m args below meth c H locs cells slots ls F Y V hx hb => va_iald (ws := [(gN P + i, .inl (gC P 1, m9, .inl g))]) hx hb (Env_K F.2.2.2.2.2.2.1) (one_P (wd_arr Y.2.2.2 hi)) 0 1 rfl rfl hin hd (nxt_go hk ho qq p e R s m args below meth c H locs cells slots _ F Y V)
  · exact G_of fun p e R s m args below meth c H locs cells slots ls F Y V hx hb => va_sld hx hb F.2.2.2.2.2.2.1.2.2.1 (script_lt F.2.2.2.2.2.2.1).1 (script_lt F.2.2.2.2.2.2.1).2 Y.2.2.1 hin hd (nxt_go hk ho qq p e R s m args below meth c H locs cells slots _ F Y V)
theorem alB_of {f : Value → List Value → Prop} (q : alB h st f) : (∃ j i r m g, st = .int j :: .ref i :: r ∧ nth h i = some (.inl (0, m, .inl g)) ∧ vp_in j m ∧ f (.int (g j.toNatClampNeg)) r) ∨ (∃ j c r m g, st = .int j :: .retAddr c :: r ∧ cBy c = some (m, g) ∧ vp_in j m ∧ f (.int (g j.toNatClampNeg)) r) := by
  unfold alB at q
  split at q
  · split at q
    · split at q
      · rename_i hb
        have := Nat.eq_of_beq_eq_true hb
        subst this
        exact Or.inl ⟨_, _, _, _, _, rfl, by assumption, q.1, q.2⟩
      · exact q.elim
    · exact q.elim
  · split at q
    · exact Or.inr ⟨_, _, _, _, _, rfl, by assumption, q.1, q.2⟩
    · exact q.elim
  · exact q.elim
theorem s_baload (hk : Goes1 P a K d k) (hA : AllOk a) (o : OkE a (pc, .baload, n, x, y, z, fl)) (ho : IsE a es) (q : stepI P a K d k (pc, .baload, n, x, y, z, fl) es L st h cb sb) : G P a K d pc L st h cb sb := by
  have q : alB h st fun v r => nxt P a K d k (pc + n) es L (v :: r) h cb sb := q
  obtain ⟨hd, hl, -⟩ := dec_of o
  have hn : n = 1 := Nat.eq_of_beq_eq_true hl
  subst hn
  rcases alB_of q with ⟨j, i, r, m9, g, rfl, hi, hin, qq⟩ | ⟨j, c9, r, m9, g, rfl, hc, hin, qq⟩
  · exact G_of fun p e R s m args below meth c H locs cells slots ls F Y V hx hb => va_bald (ws := [(gN P + i, .inl (gC P 0, m9, .inl g))]) hx hb (Env_K F.2.2.2.2.2.2.1) (one_P (wd_arr Y.2.2.2 hi)) 0 0 rfl rfl hin hd (nxt_go hk ho qq p e R s m args below meth c H locs cells slots _ F Y V)
  · exact G_of fun p e R s m args below meth c H locs cells slots ls F Y V hx hb => va_tb hx hb (cBy_of hc F.2.2.2.2.2.2.1) Y.2.2.1 hin rfl hd (nxt_go hk ho qq p e R s m args below meth c H locs cells slots _ F Y V)
theorem alL_of {f : Value → List Value → Prop} (q : alL h st f) : ∃ j i r m g, st = .int j :: .ref i :: r ∧ nth h i = some (.inl (2, m, .inr (.inl g))) ∧ vp_in j m ∧ f (.long (g j.toNatClampNeg)) r := by
  unfold alL at q
  split at q
  · split at q
    · split at q
      · rename_i hb
        have := Nat.eq_of_beq_eq_true hb
        subst this
        exact ⟨_, _, _, _, _, rfl, by assumption, q.1, q.2⟩
      · exact q.elim
    · exact q.elim
  · exact q.elim
theorem s_laload (hk : Goes1 P a K d k) (hA : AllOk a) (o : OkE a (pc, .laload, n, x, y, z, fl)) (ho : IsE a es) (q : stepI P a K d k (pc, .laload, n, x, y, z, fl) es L st h cb sb) : G P a K d pc L st h cb sb := by
  have q : alL h st fun v r => nxt P a K d k (pc + n) es L (v :: r) h cb sb := q
  obtain ⟨hd, hl, -⟩ := dec_of o
  have hn : n = 1 := Nat.eq_of_beq_eq_true hl
  subst hn
  obtain ⟨j, i, r, m9, g, rfl, hi, hin, qq⟩ := alL_of q
  exact G_of fun p e R s m args below meth c H locs cells slots ls F Y V hx hb => va_lald (ws := [(gN P + i, .inl (gC P 2, m9, .inr (.inl g)))]) hx hb (Env_K F.2.2.2.2.2.2.1) (one_P (wd_arr Y.2.2.2 hi)) 0 2 rfl rfl hin hd (nxt_go hk ho qq p e R s m args below meth c H locs cells slots _ F Y V)
theorem alA_of {f : Value → List Value → Prop} (q : alA h st f) : ∃ j i r m g w, st = .int j :: .ref i :: r ∧ nth h i = some (.inl (3, m, .inr (.inr (.inr (.inr g))))) ∧ vp_in j m ∧ g j.toNatClampNeg = some w ∧ f (.ref w) r := by
  unfold alA at q
  split at q
  · split at q
    · split at q
      · rename_i hb
        have := Nat.eq_of_beq_eq_true hb
        subst this
        obtain ⟨q1, q2, q3⟩ := q
        obtain ⟨w, hw⟩ := Option.ne_none_iff_exists'.mp q3
        exact ⟨_, _, _, _, _, w, rfl, by assumption, q1, hw, q2 w hw⟩
      · exact q.elim
    · exact q.elim
  · exact q.elim
theorem s_aaload (hk : Goes1 P a K d k) (hA : AllOk a) (o : OkE a (pc, .aaload, n, x, y, z, fl)) (ho : IsE a es) (q : stepI P a K d k (pc, .aaload, n, x, y, z, fl) es L st h cb sb) : G P a K d pc L st h cb sb := by
  have q : alA h st fun v r => nxt P a K d k (pc + n) es L (v :: r) h cb sb := q
  obtain ⟨hd, hl, -⟩ := dec_of o
  have hn : n = 1 := Nat.eq_of_beq_eq_true hl
  subst hn
  obtain ⟨j, i, r, m9, g, w, rfl, hi, hin, hg, qq⟩ := alA_of q
  refine G_of fun p e R s m args below meth c H locs cells slots ls F Y V hx hb => ?_
  have K1 := nxt_go hk ho qq p e R s m args below meth c H locs cells slots _ F Y V
  have hlt : j.toNatClampNeg < m9 := Nat.not_le.mp fun q => hin (Or.inr q)
  have hc : H[gN P + i]? = some (vp_cell (gC P 3) (m9, .inr (.inr (.inr (.inr (fun j => (g j).map (fun i => gN P + i))))))) := wd_arr Y.2.2.2 hi
  exact W.aald (v := .ref (gN P + w)) (ty := .array .int) hx hb hc (((Env_K F.2.2.2.2.2.2.1).2 3 _ rfl).1 m9 (fun j => va_rf ((g j).map (fun i => gN P + i)))) rfl (fun q => by cases q) (by show ¬ (j < 0 ∨ (arrV _ _ _).slots.size ≤ _); rw [arrV_size]; exact hin) (by show (arrV _ _ _).slots[_]? = _; rw [arrV_read _ _ hlt]; simp only [hg]; rfl) rfl rfl hd K1
theorem asI_of {f : mH → List Value → Prop} (q : asI h st f) : ∃ x9 j i r m g, st = .int x9 :: .int j :: .ref i :: r ∧ nth h i = some (.inl (1, m, .inl g)) ∧ vp_in j m ∧ f (h.set i (.inl (1, m, .inl (upd g j.toNatClampNeg x9)))) r := by
  unfold asI at q
  split at q
  · split at q
    · split at q
      · rename_i hb
        have := Nat.eq_of_beq_eq_true hb
        subst this
        exact ⟨_, _, _, _, _, _, rfl, by assumption, q.1, q.2⟩
      · exact q.elim
    · exact q.elim
  · exact q.elim
theorem s_iastore (hk : Goes1 P a K d k) (hA : AllOk a) (o : OkE a (pc, .iastore, n, x, y, z, fl)) (ho : IsE a es) (q : stepI P a K d k (pc, .iastore, n, x, y, z, fl) es L st h cb sb) : G P a K d pc L st h cb sb := by
  have q : asI h st fun h r => nxt P a K d k (pc + n) es L r h cb sb := q
  obtain ⟨hd, hl, -⟩ := dec_of o
  have hn : n = 1 := Nat.eq_of_beq_eq_true hl
  subst hn
  obtain ⟨x9, j, i, r, m9, g, rfl, hi, hin, qq⟩ := asI_of q
  refine G_of fun p e R s m args below meth c H locs cells slots ls F Y V hx hb => ?_
  have hc : H[gN P + i]? = some (vp_cell (gC P 1) (m9, .inl g)) := wd_arr Y.2.2.2 hi
  refine W.iast hx hb hc (((Env_K F.2.2.2.2.2.2.1).2 1 _ rfl).1 m9 (fun j => .int (g j))) (fun q => by cases q) (by show ¬ (j < 0 ∨ (arrV _ _ _).slots.size ≤ _); rw [arrV_size]; exact hin) rfl rfl hd fun H1 e1 z1 oq => ?_
  refine nxt_go hk ho qq p e R s m args below meth c H1 _ cells slots _ F ⟨Y.1, Y.2.1, Y.2.2.1.put z1 oq ?_, wd_set Y.2.2.2 hi z1 ?_ oq⟩ V
  · show gN P ≤ gN P + i
    omega
  · show H1[gN P + i]? = some (vp_cell _ _)
    rw [e1]
    show _ = some (vp_cell (gC P 1) (m9, .inl (upd g j.toNatClampNeg x9)))
    rw [vp_cell_i, vp_cell_i, arrV_store]
    congr 2
    funext q
    by_cases hq : q = j.toNatClampNeg
    · subst hq
      simp [updV, upd]
    · simp [updV, upd, hq]
theorem asB_of {f : mH → List Value → Prop} (q : asB h st f) : ∃ x9 j i r m g, st = .int x9 :: .int j :: .ref i :: r ∧ nth h i = some (.inl (0, m, .inl g)) ∧ vp_in j m ∧ f (h.set i (.inl (0, m, .inl (upd g j.toNatClampNeg (vp_nar .byte x9))))) r := by
  unfold asB at q
  split at q
  · split at q
    · split at q
      · rename_i hb
        have := Nat.eq_of_beq_eq_true hb
        subst this
        exact ⟨_, _, _, _, _, _, rfl, by assumption, q.1, q.2⟩
      · exact q.elim
    · exact q.elim
  · exact q.elim
theorem s_bastore (hk : Goes1 P a K d k) (hA : AllOk a) (o : OkE a (pc, .bastore, n, x, y, z, fl)) (ho : IsE a es) (q : stepI P a K d k (pc, .bastore, n, x, y, z, fl) es L st h cb sb) : G P a K d pc L st h cb sb := by
  have q : asB h st fun h r => nxt P a K d k (pc + n) es L r h cb sb := q
  obtain ⟨hd, hl, -⟩ := dec_of o
  have hn : n = 1 := Nat.eq_of_beq_eq_true hl
  subst hn
  obtain ⟨x9, j, i, r, m9, g, rfl, hi, hin, qq⟩ := asB_of q
  refine G_of fun p e R s m args below meth c H locs cells slots ls F Y V hx hb => ?_
  have hc : H[gN P + i]? = some (vp_cell (gC P 0) (m9, .inl g)) := wd_arr Y.2.2.2 hi
  refine W.bast hx hb hc (((Env_K F.2.2.2.2.2.2.1).2 0 _ rfl).1 m9 (fun j => .int (g j))) (fun q => by cases q) (by show ¬ (j < 0 ∨ (arrV _ _ _).slots.size ≤ _); rw [arrV_size]; exact hin) rfl rfl hd fun H1 e1 z1 oq => ?_
  refine nxt_go hk ho qq p e R s m args below meth c H1 _ cells slots _ F ⟨Y.1, Y.2.1, Y.2.2.1.put z1 oq ?_, wd_set Y.2.2.2 hi z1 ?_ oq⟩ V
  · show gN P ≤ gN P + i
    omega
  · show H1[gN P + i]? = some (vp_cell _ _)
    rw [e1]
    show _ = some (vp_cell (gC P 0) (m9, .inl (upd g j.toNatClampNeg (vp_nar .byte x9))))
    rw [vp_cell_i, vp_cell_i, arrV_store]
    congr 2
    funext q
    by_cases hq : q = j.toNatClampNeg
    · subst hq
      simp [updV, upd]
      rfl
    · simp [updV, upd, hq]
theorem asL_of {f : mH → List Value → Prop} (q : asL h st f) : ∃ x9 j i r m g, st = .long x9 :: .int j :: .ref i :: r ∧ nth h i = some (.inl (2, m, .inr (.inl g))) ∧ vp_in j m ∧ f (h.set i (.inl (2, m, .inr (.inl (vp_updL g j.toNatClampNeg x9))))) r := by
  unfold asL at q
  split at q
  · split at q
    · split at q
      · rename_i hb
        have := Nat.eq_of_beq_eq_true hb
        subst this
        exact ⟨_, _, _, _, _, _, rfl, by assumption, q.1, q.2⟩
      · exact q.elim
    · exact q.elim
  · exact q.elim
theorem s_lastore (hk : Goes1 P a K d k) (hA : AllOk a) (o : OkE a (pc, .lastore, n, x, y, z, fl)) (ho : IsE a es) (q : stepI P a K d k (pc, .lastore, n, x, y, z, fl) es L st h cb sb) : G P a K d pc L st h cb sb := by
  have q : asL h st fun h r => nxt P a K d k (pc + n) es L r h cb sb := q
  obtain ⟨hd, hl, -⟩ := dec_of o
  have hn : n = 1 := Nat.eq_of_beq_eq_true hl
  subst hn
  obtain ⟨x9, j, i, r, m9, g, rfl, hi, hin, qq⟩ := asL_of q
  refine G_of fun p e R s m args below meth c H locs cells slots ls F Y V hx hb => ?_
  have hc : H[gN P + i]? = some (vp_cell (gC P 2) (m9, .inr (.inl g))) := wd_arr Y.2.2.2 hi
  refine W.last hx hb hc (((Env_K F.2.2.2.2.2.2.1).2 2 _ rfl).1 m9 (fun j => .long (g j))) (fun q => by cases q) (by show ¬ (j < 0 ∨ (arrV _ _ _).slots.size ≤ _); rw [arrV_size]; exact hin) rfl rfl hd fun H1 e1 z1 oq => ?_
  refine nxt_go hk ho qq p e R s m args below meth c H1 _ cells slots _ F ⟨Y.1, Y.2.1, Y.2.2.1.put z1 oq ?_, wd_set Y.2.2.2 hi z1 ?_ oq⟩ V
  · show gN P ≤ gN P + i
    omega
  · show H1[gN P + i]? = some (vp_cell _ _)
    rw [e1]
    show _ = some (vp_cell (gC P 2) (m9, .inr (.inl (vp_updL g j.toNatClampNeg x9))))
    rw [vp_cell_l, vp_cell_l, arrV_store]
    congr 2
    funext q
    by_cases hq : q = j.toNatClampNeg
    · subst hq
      simp [updV, vp_updL]
    · simp [updV, vp_updL, hq]
theorem aln_of {f : Value → List Value → Prop} (q : aln P h st f) : (∃ i r k m g, st = .ref i :: r ∧ nth h i = some (.inl (k, m, g)) ∧ k < 4 ∧ f (.int (Int32.ofNat m)) r) ∨ (∃ r, st = .retAddr 0 :: r ∧ f (.int (Int32.ofNat (gL P))) r) ∨ (∃ c r m g, st = .retAddr c :: r ∧ cBy c = some (m, g) ∧ f (.int (Int32.ofNat m)) r) := by
  unfold aln at q
  split at q
  · split at q
    · split at q
      · rename_i hb
        exact Or.inl ⟨_, _, _, _, _, rfl, by assumption, Nat.le_of_ble_eq_true hb, q⟩
      · exact q.elim
    · exact q.elim
  · split at q
    · exact Or.inr (Or.inl ⟨_, rfl, q⟩)
    · split at q
      · exact Or.inr (Or.inr ⟨_, _, _, _, rfl, by assumption, q⟩)
      · exact q.elim
  · exact q.elim
theorem s_arraylength (hk : Goes1 P a K d k) (hA : AllOk a) (o : OkE a (pc, .arraylength, n, x, y, z, fl)) (ho : IsE a es) (q : stepI P a K d k (pc, .arraylength, n, x, y, z, fl) es L st h cb sb) : G P a K d pc L st h cb sb := by
  have q : aln P h st fun v r => nxt P a K d k (pc + n) es L (v :: r) h cb sb := q
  obtain ⟨hd, hl, -⟩ := dec_of o
  have hn : n = 1 := Nat.eq_of_beq_eq_true hl
  subst hn
  rcases aln_of q with ⟨i, r, k9, m9, g, rfl, hi, h4, qq⟩ | ⟨r, rfl, qq⟩ | ⟨c9, r, m9, g, rfl, hc, qq⟩
  · refine G_of fun p e R s m args below meth c H locs cells slots ls F Y V hx hb => ?_
    have hk9 : ∃ ty, (tys P)[k9]? = some (gC P k9, ty) := by
      match k9, h4 with
      | 0, _ => exact ⟨_, rfl⟩
      | 1, _ => exact ⟨_, rfl⟩
      | 2, _ => exact ⟨_, rfl⟩
      | 3, _ => exact ⟨_, rfl⟩
    obtain ⟨ty, hty⟩ := hk9
    exact va_alen (ws := [(gN P + i, .inl (gC P k9, m9, mRA P g))]) hx hb (Env_K F.2.2.2.2.2.2.1) (one_P (wd_arr Y.2.2.2 hi)) 0 k9 rfl hty rfl hd (nxt_go hk ho qq p e R s m args below meth c H locs cells slots _ F Y V)
  · exact G_of fun p e R s m args below meth c H locs cells slots ls F Y V hx hb => va_slen hx hb F.2.2.2.2.2.2.1.2.2.1 (script_lt F.2.2.2.2.2.2.1).1 (script_lt F.2.2.2.2.2.2.1).2 Y.2.2.1 hd (nxt_go hk ho qq p e R s m args below meth c H locs cells slots _ F Y V)
  · exact G_of fun p e R s m args below meth c H locs cells slots ls F Y V hx hb => va_tlen hx hb (cBy_of hc F.2.2.2.2.2.2.1) Y.2.2.1 rfl hd (nxt_go hk ho qq p e R s m args below meth c H locs cells slots _ F Y V)
end SIM4
end
section
/-! steps: constants, new cells, what is thrown, returns -/
section SIM5
variable {P : GP} {a : Nat} {K : Kt} {d : Nat}
variable {k : Ct} {es : List Ent} {pc n x y z : Nat} {fl : Bool} {L : mLs} {st : List Value} {h : mH} {cb sb : Nat}
theorem tfx : ∀ j z, j < 2 → nth kZ j = some z → ∀ w ∈ vx_atS rc_X z (exN j) nmX, w.onTables = true ∧ w ∈ WF := by
  have h0 : ∀ w ∈ vx_atS rc_X ((nth kZ 0).getD 0) (exN 0) nmX, w ∈ lT ∧ (w.onTables && w.keepsFace) = true := by decide +kernel
  have h1 : ∀ w ∈ vx_atS rc_X ((nth kZ 1).getD 0) (exN 1) nmX, w ∈ lT ∧ (w.onTables && w.keepsFace) = true := by decide +kernel
  intro j z hj hz w hw
  have key : w ∈ lT ∧ (w.onTables && w.keepsFace) = true := by
    match j, hj with
    | 0, _ => exact h0 w (by rw [hz]; exact hw)
    | 1, _ => exact h1 w (by rw [hz]; exact hw)
  have k2 := key.2
  simp only [Bool.and_eq_true] at k2
  exact ⟨k2.1, List.mem_filter.mpr ⟨key.1, key.2⟩⟩
theorem fitX : ∀ j, j < 2 → Bundle.fit (exN j) = true := by decide
theorem catS_map (P : GP) : ∀ st : List Value, ((st.map (mV P)).map fun v => v.category).sum = catS st
  | [] => rfl
  | v :: r => by
    simp only [List.map_cons, List.sum_cons, catS, mV_cat]
    rw [catS_map P r]
theorem wd_junk {h : mH} {H H1 : Heap} (w : Wd P h H) (hz : H.size ≤ H1.size) (ho : ∀ q : Nat, q < H.size → H1[q]? = H[q]?) : Wd P (h ++ List.replicate (H1.size - H.size) junk) H1 := by
  refine ⟨by rw [List.length_append, List.length_replicate]; have := w.1; omega, fun j x hj => ?_⟩
  rw [nth_app] at hj
  by_cases e : j < h.length
  · rw [if_pos e] at hj
    exact mC_kept (w.2 j x hj) (ho _ (by rw [w.1]; omega))
  · rw [if_neg e, nth_eq] at hj
    have hm := List.mem_of_getElem? hj
    rw [List.eq_of_mem_replicate hm]
    exact fun h9 => absurd h9 (by decide)
theorem s_ldc {ix : Nat} (hk : Goes1 P a K d k) (hA : AllOk a) (o : OkE a (pc, .ldc ix, n, x, y, z, fl)) (ho : IsE a es) (q : stepI P a K d k (pc, .ldc ix, n, x, y, z, fl) es L st h cb sb) : G P a K d pc L st h cb sb := by
  obtain ⟨hd, hl, hw⟩ := dec_of o
  unfold lnk at hl
  simp only [Bool.and_eq_true] at hl
  have hn : n = 2 := Nat.eq_of_beq_eq_true hl.1
  subst hn
  match y, q, hw, hl with
  | 0, q, hw, _ =>
    obtain ⟨v, hv, qq⟩ := cI_of q
    have hw := TB_in (hw (0, .constant (mOwn a) ix v) (by simp [lnW, hv]))
    exact G_of fun p e R s m args below meth c H locs cells slots ls F Y V hx hb => lv_ldc hx hb F.2.2.2.2.1 (F.2.2.2.2.2.1 _ hw) hd (nxt_go hk ho qq p e R s m args below meth c H locs cells slots _ F Y V)
  | 1, q, hw, hl =>
    have q : (match Nat.blt x 3 with | true => nxt P a K d k (pc + 2) es L (.retAddr (10 + x) :: st) h cb sb | false => False) := q
    have hq : (match Nat.blt x 3 with | true => (match nth LTx x with | some t => decide (t.1 = mOwn a) && Nat.beq t.2.1 ix | none => false) | false => true) = true := hl.2
    cases h3 : Nat.blt x 3 with
    | false => rw [h3] at q; exact q.elim
    | true =>
    rw [h3] at q hq
    dsimp only at q hq
    cases hs : nth LTx x with
    | none => rw [hs] at hq; cases hq
    | some t =>
      rw [hs] at hq
      simp only [Bool.and_eq_true, decide_eq_true_eq] at hq
      refine G_of fun p e R s m args below meth c H locs cells slots ls F Y V hx hb => ?_
      have hR := F.2.2.2.2.2.2.1.2.2.2.2.2.2.2.2.2.1 x t hs
      rw [hq.1, Nat.eq_of_beq_eq_true hq.2] at hR
      exact va_ldcS hx hb F.2.2.2.2.1 hR hd (nxt_go hk ho q p e R s m args below meth c H locs cells slots _ F Y V)
  | _ + 2, q, hw, _ => exact q.elim
theorem s_new {ix : Nat} (hk : Goes1 P a K d k) (hA : AllOk a) (o : OkE a (pc, .new ix, n, x, y, z, fl)) (ho : IsE a es) (q : stepI P a K d k (pc, .new ix, n, x, y, z, fl) es L st h cb sb) : G P a K d pc L st h cb sb := by
  obtain ⟨hd, hl, hw⟩ := dec_of o
  unfold lnk at hl
  simp only [Bool.and_eq_true] at hl
  have hn : n = 3 := Nat.eq_of_beq_eq_true hl.1
  subst hn
  have hl := hl.2
  unfold stepI at q
  dsimp only at q
  split at q
  · rename_i h100
    rw [h100] at hl
    dsimp only at hl
    simp only [Bool.and_eq_true, decide_eq_true_eq] at hl
    obtain ⟨⟨⟨⟨⟨⟨⟨hd3, hd4⟩, hd6⟩, hd9⟩, hLR⟩, hown9⟩, hkz⟩, hx2⟩ := hl
    split at q
    · rename_i hex
      obtain ⟨⟨q1, q2, q3, q4⟩, q5⟩ := q
      have hw1 := TB_in (hw (0, .classLink (mOwn a) ix (exN (x - 100))) (by simp [lnW, h100]))
      have hw2 := TB_in (hw (0, .initialized (exN (x - 100))) (by simp [lnW, h100]))
      have hx9 : x - 100 < 2 := by have : x < 102 := Nat.le_of_ble_eq_true hx2; omega
      have hwf := tfx (x - 100) z hx9 hkz
      rw [← hown9] at hwf
      obtain ⟨tq, htq, hte⟩ := List.any_eq_true.mp hLR
      simp only [Bool.and_eq_true, decide_eq_true_eq] at hte
      refine G_of fun p e R s m args below meth c H locs cells slots ls F Y V hx hb => ?_
      obtain ⟨-, -, hml, -, hown, hts, hE, hlocks, -, htab, hfr, hlo⟩ := id F
      obtain ⟨hY1, hY2, hS, hWd⟩ := id Y
      obtain ⟨sa, hsa⟩ := hE.2.2.2.2.2.2.2.2.1 tq htq
      rw [hte.1, Nat.eq_of_beq_eq_true hte.2] at hsa
      refine vx_throwS (names := nmX) (sa := sa) (A := gF P) hx hb hE.2.2.2.2.2.2.2.2.2.2.2.2.2.2.2.1 hown (fitX (x - 100) hx9) (by decide) (hts _ hw1) (hts _ hw2) hsa (fun w hw => va_Nw.use (hwf w hw).1 (hE.2.2.2.2.1 w (hwf w hw).2)) (fun w hw => ?_)
        hE.2.2.2.2.2.2.1 hE.2.2.2.2.2.2.2.1 hS (V.1.1.trans hml.symm) hd hd3 hd4 hd6 hd9 (fun x9 hx9 => ?_) (by show 2 + 3 < R.frames; omega) (by rw [catS_map]; show catS st + (13 * (2 + 1) + 43) ≤ R.locals; omega) (by omega) (by omega) hlocks (fun t halike hsz hsame => ?_) (fun w hw => hS.2.2 w hw) (by omega) (by omega)
      · rcases List.mem_cons.mp hw with rfl | hw
        · simp [vx_ot, TB_good hw1]
        · rcases List.mem_cons.mp hw with rfl | hw
          · simp [vx_ot, TB_good hw2]
          · simp [vx_ot, (hwf w hw).1]
      · rw [htab, hex] at hx9
        cases hx9
      · refine ⟨x - 100, h ++ List.replicate (t.heap.size - H.size) junk, ⟨hx9, rfl⟩, q5 _, wd_junk hWd hsz hsame, Nat.le_trans hS.1 hsz, fun q h1 h2 => ?_⟩
        rw [hsame q (Nat.lt_of_lt_of_le h1 hS.1)]
        exact hS.2.1 q h1 h2
    · exact q.elim
  · rename_i h100
    rw [h100] at hl
    split at q
    · exact q.elim
    · rename_i h5
      rw [h5] at hl
      dsimp only at hl
      have hx5 : x < 5 := by
        rcases Nat.lt_or_ge x 5 with w | w
        · exact w
        · rw [Nat.ble_eq_true_of_le w] at h5; cases h5
      have hyN : y = mNn x := Nat.eq_of_beq_eq_true hl
      subst hyN
      obtain ⟨⟨q1, q2⟩, qq⟩ := q
      have hw1 := TB_in (hw (0, .classLink (mOwn a) ix (mCn x)) (by simp [lnW, h100, h5]))
      have hw2 := TB_in (hw (0, .instantiable (mCn x) (mNn x)) (by simp [lnW, h100, h5]))
      have hw3 := TB_in (hw (0, .initialized (mCn x)) (by simp [lnW, h100, h5]))
      refine G_of fun p e R s m args below meth c H locs cells slots ls F Y V hx hb => ?_
      obtain ⟨-, -, -, -, hown, hts, hE, -⟩ := id F
      obtain ⟨hY1, hY2, hS, hWd⟩ := id Y
      have hKn := (Env_K hE).1 x _ (mCl_at x hx5)
      refine W.newcK hx hb hown (hts _ hw1) (hts _ hw2) (hts _ hw3) rfl hd (by omega) (by omega) hKn.2.1 rfl fun H1 kC hkC e1 z1 o1 => ?_
      have hz : H.size = gN P + h.length := hWd.1
      have K1 := nxt_go hk ho qq p e R s m args below meth c H1 locs (cells + 1) (slots + mNn x) ls F ⟨by omega, by omega, ⟨Nat.le_trans hS.1 (by omega), fun x h1 h2 => (o1 x (Nat.lt_of_lt_of_le h1 hS.1)).trans (hS.2.1 x h1 h2), hS.2.2⟩, wd_push hWd z1 ?_ o1⟩ V
      · show W _ _ _ _ _ _ _ _ _ _ _ _ _ _ _ (F0 m (pc + 3) ls (.ref H.size :: st.map (mV P)))
        rw [hz]
        exact K1
      · intro _
        refine ⟨_, mCl_at x hx5, ?_⟩
        show t_OB (gN P + h.length) _ _ _ _ _
        rw [← hz]
        exact (u_born (mTy x) hts (inW x hx5) hKn hkC e1 (mTy_ok x hx5)).to (mDf_ok x hx5)
theorem arrK {s : State} (hE : Env P s) {k9 : Nat} {ty : FieldType} {cA : ClassId} (ht : (tys P)[k9]? = some (gC P k9, ty)) (hn : s.vm.findClass ("[" ++ ty.toString) = some cA) (ho : ∀ C, ty ≠ .object C) : gC P k9 = cA := by
  have h2 := ((Env_K hE).2 k9 _ ht).2
  cases ty with
  | object C => exact (ho C rfl).elim
  | _ => exact Option.some.inj (h2.symm.trans hn)
theorem s_newarray {t : ArrayType} (hk : Goes1 P a K d k) (hA : AllOk a) (o : OkE a (pc, .newarray t, n, x, y, z, fl)) (ho : IsE a es) (q : stepI P a K d k (pc, .newarray t, n, x, y, z, fl) es L st h cb sb) : G P a K d pc L st h cb sb := by
  obtain ⟨v, r, rfl, ⟨g1, g2, g3, g4⟩, q⟩ := p1i_of q
  obtain ⟨hd, hl, hw⟩ := dec_of o
  unfold lnk at hl
  simp only [Bool.and_eq_true] at hl
  have hn : n = 2 := Nat.eq_of_beq_eq_true hl.1
  subst hn
  have hl := hl.2
  match x, q, hw, hl with
  | 0, q, hw, hl =>
    have hl : t = .byte := of_decide_eq_true hl
    subst hl
    have hw := TB_in (hw _ (List.mem_singleton.mpr rfl))
    refine G_of fun p e R s m args below meth c H locs cells slots ls F Y V hx hb => ?_
    obtain ⟨hY1, hY2, hS, hWd⟩ := id Y
    refine va_newaK (atype := .byte) hx hb (F.2.2.2.2.2.1 _ hw) rfl hd rfl g1 rfl (by show _ * 1 ≤ _; omega) (by omega) (by omega) rfl fun H1 cA e1 z1 o1 _ hNm => ?_
    have hz : H.size = gN P + h.length := hWd.1
    have hcA := arrK F.2.2.2.2.2.2.1 (k9 := 0) rfl hNm (fun _ e => by cases e)
    have K1 := nxt_go hk ho q p e R s m args below meth c H1 locs (cells + 1) (slots + v.toNatClampNeg) ls F ⟨by omega, by omega, ⟨Nat.le_trans hS.1 (by omega), fun x h1 h2 => (o1 x (Nat.lt_of_lt_of_le h1 hS.1)).trans (hS.2.1 x h1 h2), hS.2.2⟩, wd_push hWd z1 (by show H1[gN P + h.length]? = _; rw [← hz, hcA]; exact e1) o1⟩ V
    show W _ _ _ _ _ _ _ _ _ _ _ _ _ _ _ (F0 m (pc + 2) ls (.ref H.size :: r.map (mV P)))
    rw [hz]
    exact K1
  | 1, q, hw, hl =>
    have hl : t = .int := of_decide_eq_true hl
    subst hl
    have hw := TB_in (hw _ (List.mem_singleton.mpr rfl))
    refine G_of fun p e R s m args below meth c H locs cells slots ls F Y V hx hb => ?_
    obtain ⟨hY1, hY2, hS, hWd⟩ := id Y
    refine va_newaK (atype := .int) hx hb (F.2.2.2.2.2.1 _ hw) rfl hd rfl g1 rfl (by show _ * 4 ≤ _; omega) (by omega) (by omega) rfl fun H1 cA e1 z1 o1 _ hNm => ?_
    have hz : H.size = gN P + h.length := hWd.1
    have hcA := arrK F.2.2.2.2.2.2.1 (k9 := 1) rfl hNm (fun _ e => by cases e)
    have K1 := nxt_go hk ho q p e R s m args below meth c H1 locs (cells + 1) (slots + v.toNatClampNeg) ls F ⟨by omega, by omega, ⟨Nat.le_trans hS.1 (by omega), fun x h1 h2 => (o1 x (Nat.lt_of_lt_of_le h1 hS.1)).trans (hS.2.1 x h1 h2), hS.2.2⟩, wd_push hWd z1 (by show H1[gN P + h.length]? = _; rw [← hz, hcA]; exact e1) o1⟩ V
    show W _ _ _ _ _ _ _ _ _ _ _ _ _ _ _ (F0 m (pc + 2) ls (.ref H.size :: r.map (mV P)))
    rw [hz]
    exact K1
  | 2, q, hw, hl =>
    have hl : t = .long := of_decide_eq_true hl
    subst hl
    have hw := TB_in (hw _ (List.mem_singleton.mpr rfl))
    refine G_of fun p e R s m args below meth c H locs cells slots ls F Y V hx hb => ?_
    obtain ⟨hY1, hY2, hS, hWd⟩ := id Y
    refine va_newaK (atype := .long) hx hb (F.2.2.2.2.2.1 _ hw) rfl hd rfl g1 rfl (by show _ * 8 ≤ _; omega) (by omega) (by omega) rfl fun H1 cA e1 z1 o1 _ hNm => ?_
    have hz : H.size = gN P + h.length := hWd.1
    have hcA := arrK F.2.2.2.2.2.2.1 (k9 := 2) rfl hNm (fun _ e => by cases e)
    have K1 := nxt_go hk ho q p e R s m args below meth c H1 locs (cells + 1) (slots + v.toNatClampNeg) ls F ⟨by omega, by omega, ⟨Nat.le_trans hS.1 (by omega), fun x h1 h2 => (o1 x (Nat.lt_of_lt_of_le h1 hS.1)).trans (hS.2.1 x h1 h2), hS.2.2⟩, wd_push hWd z1 (by show H1[gN P + h.length]? = _; rw [← hz, hcA]; exact e1) o1⟩ V
    show W _ _ _ _ _ _ _ _ _ _ _ _ _ _ _ (F0 m (pc + 2) ls (.ref H.size :: r.map (mV P)))
    rw [hz]
    exact K1
  | _ + 3, q, hw, hl => exact q.elim
theorem qc_of {v : Option Value} {R : Room} {s t : State} {args : Array Value} {H : Heap} {locs : List Loc} {cells slots : Nat} (q : K (.inl v) h) (Y : Dy P R s H locs cells slots h cb sb) (ht : t.heap = H) : QcK P K args s (.returned (v.map (mV P))) t :=
  ⟨v, h, rfl, q, by rw [ht]; exact Y.2.2.2, Y.2.2.1.F ht⟩
theorem s_return_ (hk : Goes1 P a K d k) (hA : AllOk a) (o : OkE a (pc, .return_, n, x, y, z, fl)) (ho : IsE a es) (q : stepI P a K d k (pc, .return_, n, x, y, z, fl) es L st h cb sb) : G P a K d pc L st h cb sb := by
  obtain ⟨hd, hl, -⟩ := dec_of o
  have hn : n = 1 := Nat.eq_of_beq_eq_true hl
  subst hn
  have hq : st = [] ∧ mRet a = none ∧ K (.inl none) h := by
    unfold stepI at q
    dsimp only at q
    split at q
    · split at q
      · exact ⟨rfl, by assumption, q⟩
      · exact q.elim
    · exact q.elim
  obtain ⟨rfl, hr, q⟩ := hq
  exact G_of fun p e R s m args below meth c H locs cells slots ls F Y V hx hb =>
    vx_ret (W.widen (k := R.cells) (n := R.slots) (Nat.le_trans (Nat.le_add_right _ _) Y.1) (Nat.le_trans (Nat.le_add_right _ _) Y.2.1) (W.vret hx hb (F.2.2.2.1.trans hr) (fun t ht _ => qc_of q Y ht) (fun q hq => Y.2.2.1.2.2 q hq) hd F.2.2.2.2.2.2.2.1))
theorem s_ireturn (hk : Goes1 P a K d k) (hA : AllOk a) (o : OkE a (pc, .ireturn, n, x, y, z, fl)) (ho : IsE a es) (q : stepI P a K d k (pc, .ireturn, n, x, y, z, fl) es L st h cb sb) : G P a K d pc L st h cb sb := by
  obtain ⟨v, r, rfl, q1⟩ := p1i_of q
  obtain ⟨hd, hl, -⟩ := dec_of o
  have hn : n = 1 := Nat.eq_of_beq_eq_true hl
  subst hn
  cases r with
  | cons _ _ => exact q1.elim
  | nil =>
  have hq : ∃ ty, mRet a = some ty ∧ narrow ty (.int v) = .int v ∧ K (.inl (some (.int v))) h := by
    dsimp only at q1
    split at q1
    · exact ⟨_, by assumption, rfl, q1⟩
    · exact ⟨_, by assumption, q1.1, q1.2⟩
    · exact q1.elim
  obtain ⟨ty, hr, hn, q⟩ := hq
  exact G_of fun p e R s m args below meth c H locs cells slots ls F Y V hx hb =>
    vx_ret (W.widen (k := R.cells) (n := R.slots) (Nat.le_trans (Nat.le_add_right _ _) Y.1) (Nat.le_trans (Nat.le_add_right _ _) Y.2.1) (W.zret hx hb (F.2.2.2.1.trans hr) hn (fun t ht _ => qc_of q Y ht) (fun q hq => Y.2.2.1.2.2 q hq) hd F.2.2.2.2.2.2.2.1))
theorem s_lreturn (hk : Goes1 P a K d k) (hA : AllOk a) (o : OkE a (pc, .lreturn, n, x, y, z, fl)) (ho : IsE a es) (q : stepI P a K d k (pc, .lreturn, n, x, y, z, fl) es L st h cb sb) : G P a K d pc L st h cb sb := by
  obtain ⟨v, r, rfl, q1⟩ := p1l_of q
  obtain ⟨hd, hl, -⟩ := dec_of o
  have hn : n = 1 := Nat.eq_of_beq_eq_true hl
  subst hn
  cases r with
  | cons _ _ => exact q1.elim
  | nil =>
  have hq : mRet a = some .long ∧ K (.inl (some (.long v))) h := by
    dsimp only at q1
    split at q1
    · exact ⟨by assumption, q1⟩
    · exact q1.elim
  obtain ⟨hr, q⟩ := hq
  exact G_of fun p e R s m args below meth c H locs cells slots ls F Y V hx hb =>
    vx_ret (W.widen (k := R.cells) (n := R.slots) (Nat.le_trans (Nat.le_add_right _ _) Y.1) (Nat.le_trans (Nat.le_add_right _ _) Y.2.1) (W.lret hx hb (F.2.2.2.1.trans hr) (fun t ht _ => qc_of q Y ht) (fun q hq => Y.2.2.1.2.2 q hq) hd F.2.2.2.2.2.2.2.1))
theorem isR_of {t : Option FieldType} (h : isR t = true) : ∃ rt, t = some rt ∧ ((∃ n, rt = .object n) ∨ ∃ u, rt = .array u) := by
  unfold isR at h
  split at h
  · exact ⟨_, rfl, Or.inl ⟨_, rfl⟩⟩
  · exact ⟨_, rfl, Or.inr ⟨_, rfl⟩⟩
  · cases h
theorem s_areturn (hk : Goes1 P a K d k) (hA : AllOk a) (o : OkE a (pc, .areturn, n, x, y, z, fl)) (ho : IsE a es) (q : stepI P a K d k (pc, .areturn, n, x, y, z, fl) es L st h cb sb) : G P a K d pc L st h cb sb := by
  obtain ⟨hd, hl, -⟩ := dec_of o
  have hn : n = 1 := Nat.eq_of_beq_eq_true hl
  subst hn
  have hq : ∃ v b, st = [v] ∧ mV P v = .ref b ∧ isR (mRet a) = true ∧ K (.inl (some v)) h := by
    unfold stepI at q
    dsimp only at q
    split at q
    · split at q
      · exact ⟨_, _, rfl, rfl, by assumption, q⟩
      · exact q.elim
    · split at q
      · exact ⟨_, _, rfl, rfl, by assumption, q⟩
      · exact q.elim
    · exact q.elim
  obtain ⟨v, b, rfl, hb9, hr, q⟩ := hq
  obtain ⟨rt, hr, hrt⟩ := isR_of hr
  exact G_of fun p e R s m args below meth c H locs cells slots ls F Y V hx hb =>
    vx_ret (W.widen (k := R.cells) (n := R.slots) (Nat.le_trans (Nat.le_add_right _ _) Y.1) (Nat.le_trans (Nat.le_add_right _ _) Y.2.1) (W.aret hx hb (F.2.2.2.1.trans hr) hrt (Or.inr ⟨b, hb9⟩) (fun t ht _ => qc_of q Y ht) (fun q hq => Y.2.2.1.2.2 q hq) hd F.2.2.2.2.2.2.2.1))
end SIM5
end
section
/-! steps: calls -/
section SIM6
variable {P : GP} {a : Nat} {K : Kt} {d : Nat}
variable {k : Ct} {es : List Ent} {pc n x y z : Nat} {fl : Bool} {L : mLs} {st : List Value} {h : mH} {cb sb : Nat}
theorem Env_step {s U : State} {H : Heap} {locs : List Loc} (h : Env P s) (hW : s.WarmedH U.vm) (hS : va_S (gF P) s.heap H locs) (hU : U.heap = H) : Env P U := by
  obtain ⟨h1, h2, h3, h4, h5, h6, h7, h8, h9, h10, h11, h12, ⟨h13, h14⟩, ⟨h15, h16⟩, ⟨h17, h18⟩, h19, h20⟩ := h
  subst hU
  refine ⟨va_K.moved hW.alike h1, Nat.le_trans h2 hS.1, va_X.moved hW.alike (h3.kept (hS.2.1 _ (Nat.lt_of_lt_of_le h4 h2) (Nat.not_le.mpr h4))), h4, fun w hw => ?_, fun w hw => ?_, vx_Zq.moved hW.alike (h7.kept hS.2.1), vx_Zq.moved hW.alike (h8.kept hS.2.1),
    fun q hq => ?_, fun i q hq => vk_R.warm hW (h10 i q hq), vk_S.moved hW.alike (h11.kept hS.2.1), va_Z.moved hW.alike (h12.kept hS.2.1), ⟨va_Z.moved hW.alike (h13.kept hS.2.1), va_T.moved hW.alike (h14.kept hS.2.1)⟩, ⟨va_Z.moved hW.alike (h15.kept hS.2.1), va_T.moved hW.alike (h16.kept hS.2.1)⟩, ⟨va_Nc.moved hW.alike h17, va_Nc.moved hW.alike h18⟩, h19, over_moved hW.alike h20⟩
  · have hf := (List.mem_filter.mp hw).2
    simp only [Bool.and_eq_true] at hf
    have e := Cond.before_shiftedFace (State.Shifted.of_warmed hW) w hf.2 (h5 w hw)
    exact va_tabs hf.1 (rfl : (s.setVm U.vm).vm = U.vm) e
  · have hf := (List.mem_filter.mp hw).2
    have hb := h6 w hw
    cases w <;> first | exact va_Nw.warmF hW hb | exact va_Nw.warmM hW hb | (simp [isNest] at hf; done)
  · obtain ⟨sa, hs⟩ := h9 q hq
    exact ⟨sa, vk_R.warm hW hs⟩
theorem Env_same {u U : State} (h : Env P u) (hv : U.vm = u.vm) (hh : U.heap = u.heap) : Env P U :=
  Env_step (H := u.heap) (locs := []) h (by rw [hv]; exact State.WarmedH.refl u) va_S.rf hh
theorem Pc_blind (as : List Value) (h : mH) : FrameBlind (PcK P as h) := fun a U g mk q => ⟨q.1, Env_same q.2.1 rfl rfl, q.2.2⟩
theorem catE_mem : ∀ {l : List (Nat × Nat)} {i E : Nat}, catE l i = some E → (i, E) ∈ l
  | [], i, E, h => by simp [catE] at h
  | q :: r, i, E, h => by
    unfold catE at h
    split at h
    · rename_i hb
      have := Nat.eq_of_beq_eq_true hb
      cases h
      rw [← this]
      exact List.mem_cons_self
    · exact List.mem_cons_of_mem _ (catE_mem h)
theorem exW : ∀ q ∈ kC, q.1 ≠ 0 ∧ (.classLink rc_K q.1 (exN q.2) : Jvm.Cond) ∈ TB := by
  have h : ∀ q ∈ kC, q.1 ≠ 0 ∧ ((.classLink rc_K q.1 (exN q.2) : Jvm.Cond) ∈ lT ∧ okK 0 (.classLink rc_K q.1 (exN q.2)) = true) := by decide +kernel
  exact fun q hq => ⟨(h q hq).1, TB_in (h q hq).2⟩
theorem exC : ∀ E, E < 2 → (.castable (exN E) (exN E) : Jvm.Cond) ∈ WF := by
  have h : ∀ E, E < 2 → ((.castable (exN E) (exN E) : Jvm.Cond) ∈ lT ∧ okK 2 (.castable (exN E) (exN E)) = true) := by decide +kernel
  exact fun E hE => List.mem_filter.mpr ⟨(h E hE).1, (h E hE).2⟩
/-- an entry of a table that does not take what is thrown -/
def exPass (pc E : Nat) (x : Nat × Nat × Nat × Nat) : Prop := ¬ (x.1 ≤ pc ∧ pc < x.2.1) ∨ ∃ E2, catE kC x.2.2.2 = some E2 ∧ E2 ≠ E
theorem findH_none {pc E : Nat} : ∀ {l : List (Nat × Nat × Nat × Nat)}, findH l pc E = none → ∀ x ∈ l, exPass pc E x
  | [], _, x, hx => nomatch hx
  | y :: r, h, x, hx => by
    unfold findH at h
    split at h
    · split at h
      · rename_i E2 hc
        split at h
        · cases h
        · rename_i hne
          rcases List.mem_cons.mp hx with rfl | hx
          · exact Or.inr ⟨E2, hc, fun e => by subst e; rw [Nat.beq_refl] at hne; cases hne⟩
          · exact findH_none h x hx
      · cases h
    · rename_i hb
      rcases List.mem_cons.mp hx with rfl | hx
      · refine Or.inl fun q => ?_
        rw [Nat.ble_eq_true_of_le q.1, show Nat.blt pc x.2.1 = true from Nat.ble_eq_true_of_le q.2] at hb
        cases hb
      · exact findH_none h x hx
theorem findH_some {pc E t : Nat} : ∀ {l : List (Nat × Nat × Nat × Nat)}, findH l pc E = some t → ∃ pre x suf, l = pre ++ x :: suf ∧ (∀ y ∈ pre, exPass pc E y) ∧ (x.1 ≤ pc ∧ pc < x.2.1) ∧ ((catE kC x.2.2.2 = some E ∧ t = x.2.2.1) ∨ catE kC x.2.2.2 = none)
  | [], h => by simp [findH] at h
  | y :: r, h => by
    unfold findH at h
    split at h
    · rename_i hb
      simp only [Bool.and_eq_true] at hb
      have hb2 : y.1 ≤ pc ∧ pc < y.2.1 := ⟨Nat.le_of_ble_eq_true hb.1, Nat.le_of_ble_eq_true hb.2⟩
      split at h
      · rename_i E2 hc
        split at h
        · rename_i he
          have := Nat.eq_of_beq_eq_true he
          subst this
          cases h
          exact ⟨[], y, r, rfl, (fun _ h => nomatch h), hb2, Or.inl ⟨hc, rfl⟩⟩
        · rename_i hne
          obtain ⟨pre, x, suf, e1, e2, e3⟩ := findH_some h
          refine ⟨y :: pre, x, suf, by rw [e1]; rfl, fun w hw => ?_, e3⟩
          rcases List.mem_cons.mp hw with rfl | hw
          · exact Or.inr ⟨E2, hc, fun e => by subst e; rw [Nat.beq_refl] at hne; cases hne⟩
          · exact e2 w hw
      · exact ⟨[], y, r, rfl, (fun _ h => nomatch h), hb2, Or.inr (by assumption)⟩
    · rename_i hb
      obtain ⟨pre, x, suf, e1, e2, e3⟩ := findH_some h
      refine ⟨y :: pre, x, suf, by rw [e1]; rfl, fun w hw => ?_, e3⟩
      rcases List.mem_cons.mp hw with rfl | hw
      · refine Or.inl fun q => ?_
        rw [Nat.ble_eq_true_of_le q.1, show Nat.blt pc w.2.1 = true from Nat.ble_eq_true_of_le q.2] at hb
        cases hb
      · exact e2 w hw
theorem exCat {x : Nat × Nat × Nat × Nat} (hA : AllOk a) (hx : x ∈ mEx a) : mOwn a = rc_K ∧ ∃ E, catE kC x.2.2.2 = some E ∧ E < 2 := by
  have hA2 := hA.2
  unfold exOkB at hA2
  rw [Bool.and_eq_true] at hA2
  have := List.all_eq_true.mp hA2.2 x hx
  simp only [Bool.and_eq_true, decide_eq_true_eq] at this
  obtain ⟨h1, h2⟩ := this
  split at h2
  · exact ⟨h1, _, by assumption, Nat.le_of_ble_eq_true h2⟩
  · cases h2
theorem exNc {s : State} (hE : Env P s) : ∀ E E2, E < 2 → E2 < 2 → E2 ≠ E → va_Nc (exN E) (exN E2) s
  | 0, 0, _, _, h => absurd rfl h
  | 0, 1, _, _, _ => hE.2.2.2.2.2.2.2.2.2.2.2.2.2.2.1.2
  | 1, 0, _, _, _ => hE.2.2.2.2.2.2.2.2.2.2.2.2.2.2.1.1
  | 1, 1, _, _, h => absurd rfl h
  | _ + 2, _, h, _, _ => absurd h (by omega)
  | _, _ + 2, _, h, _ => absurd h (by omega)
theorem exPassV {p : Program} {R : Room} {s : State} {m : MethodId} {args : Array Value} {meth : Method} {c : Code} (F : Fx P a d p R s m args meth c) (hA : AllOk a) {pc E : Nat} (hE2 : E < 2) {x : Nat × Nat × Nat × Nat} (hx : x ∈ mEx a) (h : exPass pc E x) :
    covers ⟨x.1, x.2.1, x.2.2.1, x.2.2.2⟩ pc = false ∨ (x.2.2.2 ≠ 0 ∧ ∃ nm : String, (Cond.classLink (mOwn a) x.2.2.2 nm).before args s = true ∧ va_Nc (exN E) nm s) := by
  rcases h with h | ⟨E2, h1, h2⟩
  · left
    show (decide (x.1 ≤ pc) && decide (pc < x.2.1)) = false
    by_cases c1 : x.1 ≤ pc
    · by_cases c2 : pc < x.2.1
      · exact absurd ⟨c1, c2⟩ h
      · simp [c2]
    · simp [c1]
  · right
    obtain ⟨ho, E3, h3, h4⟩ := exCat hA hx
    rw [h1] at h3
    cases h3
    have hw := exW _ (catE_mem h1)
    refine ⟨hw.1, exN E2, ?_, exNc F.2.2.2.2.2.2.1 E E2 hE2 h4 h2⟩
    rw [ho]
    exact F.2.2.2.2.2.1 _ hw.2
theorem thr_go {p : Program} {e : Jvm.Env} {R : Room} {s : State} {m : MethodId} {args : Array Value} {below : List Frame} {meth : Method} {c : Code} {H : Heap} {locs : List Loc} {cells slots : Nat} {ls : Array Slot} {E : Nat} {q9 : Addr} {ce : Cell} {rest : List Value}
    (hk : Goes1 P a K d k) (hA : AllOk a) (F : Fx P a d p R s m args meth c) (Y : Dy P R s H locs cells slots h cb sb) (V : LV P ls (mMax a) L) (hE2 : E < 2) (q : thr P a K d k pc L h cb sb E) (hcell : H[q9]? = some ce) (hv : ce.vm = .none) (hcl : s.vm.findClass (exN E) = some ce.cls) :
    vx_W p (gl P) e R s m args below meth c H locs cells slots (vx_MQ below (QcK P K) (XcK P K) args s R.cells R.slots (gF P)) (F0 m pc ls rest) q9 := by
  obtain ⟨hx, hb, hml, hr, hown, hts, hE, hlocks, -, htab, -⟩ := id F
  unfold thr at q
  split at q
  · rename_i hf
    refine vx_outP hown hlocks (fun z hz => ?_) hcell hv hcl (fun t ht _ => ⟨E, h, ⟨hE2, rfl⟩, q, by rw [ht]; exact Y.2.2.2, Y.2.2.1.F ht⟩) (fun z hz => Y.2.2.1.2.2 z hz) (Nat.le_trans (Nat.le_add_right _ _) Y.1) (Nat.le_trans (Nat.le_add_right _ _) Y.2.1)
    rw [htab] at hz
    obtain ⟨x, hx9, rfl⟩ := List.mem_map.mp hz
    exact exPassV F hA hE2 hx9 (findH_none hf x hx9)
  · rename_i t hf
    obtain ⟨pre, x, suf, e1, e2, e3, e4⟩ := findH_some hf
    have hx9 : x ∈ mEx a := by rw [e1]; exact List.mem_append_right _ List.mem_cons_self
    obtain ⟨ho, E3, h3, h4⟩ := exCat hA hx9
    rcases e4 with ⟨h5, rfl⟩ | h5
    · have hw := exW _ (catE_mem h5)
      refine vx_catch hown (pre.map fun q => ⟨q.1, q.2.1, q.2.2.1, q.2.2.2⟩) ⟨x.1, x.2.1, x.2.2.1, x.2.2.2⟩ (suf.map fun q => ⟨q.1, q.2.1, q.2.2.1, q.2.2.2⟩) (name := exN E) (by rw [htab, e1]; show List.map _ _ = _; rw [List.map_append, List.map_cons]) (fun z hz => ?_) ?_ hw.1 ?_ (va_Nw.use rfl (hE.2.2.2.2.1 _ (exC E hE2))) hcell hv hcl ?_
      · obtain ⟨w, hw9, rfl⟩ := List.mem_map.mp hz
        exact exPassV F hA hE2 (by rw [e1]; exact List.mem_append_left _ hw9) (e2 w hw9)
      · show (decide (x.1 ≤ pc) && decide (pc < x.2.1)) = true
        simp [e3.1, e3.2]
      · rw [ho]
        exact hts _ hw.2
      · show W _ _ _ _ _ _ _ _ _ _ _ _ _ _ _ (F0 m x.2.2.1 ls [.ref q9])
        split at q
        · rename_i e9 cs hs
          have hpc := seekC_hd _ _ _ _ hs
          have hcs : IsE a (e9 :: cs) := by rw [← hs]; exact isE_seek hA _
          obtain ⟨pc9, i9, n9, x9, y9, z9, f9⟩ := e9
          dsimp only at hpc
          subst hpc
          obtain ⟨hd, hl, -⟩ := dec_of (hcs _ List.mem_cons_self)
          have ho2 : IsE a cs := fun e he => hcs e (List.mem_cons_of_mem _ he)
          dsimp only at q
          split at q
          · obtain ⟨L2, qq, h2, hlt, h4⟩ := set1_of _ _ _ _ q
            unfold lnk at hl
            simp only [Bool.and_eq_true] at hl
            have hn := Nat.eq_of_beq_eq_true hl.1
            subst hn
            have hj := Nat.eq_of_beq_eq_true hl.2
            subst hj
            exact lv_astore hx hb hd V.1 (Nat.lt_of_lt_of_le hlt V.2) rfl (fun ls' hl' => nxt_go hk ho2 qq p e R s m args below meth c H locs cells slots _ F Y (LV_set1 V h2 h4 (fun w hw => by cases hw) hl'))
          · obtain ⟨L2, qq, h2, hlt, h4⟩ := set1_of _ _ _ _ q
            unfold lnk at hl
            simp only [Bool.and_eq_true] at hl
            have hn := Nat.eq_of_beq_eq_true hl.1
            subst hn
            have hj := Nat.eq_of_beq_eq_true hl.2
            exact lv_astore_n hx hb hd hj V.1 (Nat.lt_of_lt_of_le hlt V.2) rfl (fun ls' hl' => nxt_go hk ho2 qq p e R s m args below meth c H locs cells slots _ F Y (LV_set1 V h2 h4 (fun w hw => by cases hw) hl'))
          · exact q.elim
        · exact q.elim
    · rw [h3] at h5
      cases h5
/-- what comes back from a call -/
def retK (P : GP) (a : Nat) (K : Kt) (d : Nat) (k : Ct) (pc n : Nat) (cs : List Ent) (L : mLs) (cb sb mc ms : Nat) (r : List Value) : Kt := fun res h' => match res with
  | .inl v => match v with
    | some w => nxt P a K d k (pc + n) cs L (w :: r) h' (cb - mc) (sb - ms)
    | none => nxt P a K d k (pc + n) cs L r h' (cb - mc) (sb - ms)
  | .inr E => thr P a K d k pc L h' (cb - mc) (sb - ms) E
theorem call_go {p : Program} {e : Jvm.Env} {R : Room} {s : State} {m : MethodId} {args : Array Value} {below : List Frame} {meth : Method} {c : Code} {H : Heap} {locs : List Loc} {cells slots : Nat} {ls : Array Slot} {mc ms : Nat} {r : List Value} {st0 : List Value} {av : Array Value}
    (hk : Goes1 P a K d k) (hA : AllOk a) (ho : IsE a es) (F : Fx P a d p R s m args meth c) (Y : Dy P R s H locs cells slots h cb sb) (V : LV P ls (mMax a) L) (hmc : mc ≤ cb) (hms : ms ≤ sb)
    (hr : vx_Run p (gl P) e R s m args below meth c H locs cells slots mc ms (F0 m pc ls st0) (r.map (mV P)) (QcK P (retK P a K d k pc 3 es L cb sb mc ms r) av) (XcK P (retK P a K d k pc 3 es L cb sb mc ms r)) (gF P)) :
    W p (gl P) e R s m args below meth c H locs cells slots (vx_MQ below (QcK P K) (XcK P K) args s R.cells R.slots (gF P)) (F0 m pc ls st0) := by
  obtain ⟨hY1, hY2, hS, hWd⟩ := id Y
  intro T hT X
  rcases hr T hT X with ⟨v, st₀, t, T', Lc, h0, X', hL, e1, e2, ⟨v9, h9, ho9, hk9, hw9, hF⟩, stp⟩ | ⟨q, st₀, t, T', Lc, E, ce, h0, X', hL, e1, e2, ⟨k9, h9, ⟨hk2, rfl⟩, hk9, hw9, hF⟩, hce, hcv, hcl, stp⟩
  · obtain ⟨k1, k2, k3⟩ := vx_keep h0 e1 hS (fun q _ h => h) (fun q h => h) hL hF
    have Y' : Dy P R s T'.heap (locs ++ Lc) (cells + mc) (slots + ms) h9 (cb - mc) (sb - ms) := ⟨by omega, by omega, k3, by rw [e1]; exact hw9⟩
    cases v9 with
    | none =>
      cases ho9
      obtain ⟨t2, a1, b1⟩ := nxt_go hk ho hk9 p e R s m args below meth c T'.heap (locs ++ Lc) (cells + mc) (slots + ms) ls F Y' V T' rfl X'
      exact ⟨t2, stp t2 a1, b1⟩
    | some w =>
      cases ho9
      obtain ⟨t2, a1, b1⟩ := nxt_go hk ho hk9 p e R s m args below meth c T'.heap (locs ++ Lc) (cells + mc) (slots + ms) ls F Y' V T' rfl X'
      exact ⟨t2, stp t2 a1, b1⟩
  · obtain ⟨k1, k2, k3⟩ := vx_keep h0 e1 hS (fun q _ h => h) (fun q h => h) hL hF
    have Y' : Dy P R s T'.heap (locs ++ Lc) (cells + mc) (slots + ms) h9 (cb - mc) (sb - ms) := ⟨by omega, by omega, k3, by rw [e1]; exact hw9⟩
    obtain ⟨t2, a1, b1⟩ := thr_go (e := e) (below := below) (rest := r.map (mV P)) hk hA F Y' V hk2 hk9 (by rw [e1]; exact hce) hcv hcl T' rfl X'
    exact ⟨t2, stp.trans a1, b1⟩
theorem popN_of {f : List Value → List Value → Prop} : ∀ (n : Nat) (st acc : List Value), popN n st acc f → ∃ vs r, st = vs ++ r ∧ vs.length = n ∧ f (vs.reverse ++ acc) r
  | 0, st, acc, h => ⟨[], st, rfl, rfl, h⟩
  | n + 1, [], acc, h => h.elim
  | n + 1, v :: st, acc, h => by
    obtain ⟨vs, r, h1, h2, h3⟩ := popN_of n st (v :: acc) h
    refine ⟨v :: vs, r, by rw [h1]; rfl, by simp [h2], ?_⟩
    rw [List.reverse_cons, List.append_assoc]
    exact h3
theorem good_WS {x : Nat} (h : headw x ∈ TB) : GoodIn TB (WS x) := fun w hw => by
  have hm : w ∈ TB := (List.mem_cons.mp hw).elim (fun e => by rw [e]; exact h) (fun h => h)
  exact ⟨hm, good_of_word (TB_good hm)⟩
theorem good_l {ws : List Jvm.Cond} (h : ∀ w ∈ ws, w ∈ TB) : GoodIn TB ws := fun w hw => ⟨h w hw, good_of_word (TB_good (h w hw))⟩
theorem WS_code {x : Nat} (h : mEx x = []) : WS x = Cond.code (mY x) (mCode x) (mMax x) (mRet x) :: TB := by
  unfold WS headw
  rw [h]
theorem WS_codeW {x : Nat} (h : mEx x ≠ []) : WS x = Cond.codeWith (mY x) (mCode x) (mMax x) (mRet x) (mEx x) :: TB := by
  unfold WS headw
  split
  · rename_i he
    exact absurd he h
  · rename_i he
    rw [he]
theorem lnS_of {x y : Nat} (h : lnS x y = true) : ((mY x).cls ≠ "java/lang/invoke/MethodHandle" ∧ (mY x).cls ≠ "java/lang/invoke/VarHandle" ∧ (parseMethodDescriptor (mY x).desc).map (fun d => d.parameters.length) = some y) ∧ mMax x ≤ 81 := by
  unfold lnS at h
  simp only [Bool.and_eq_true, decide_eq_true_eq] at h
  exact ⟨h.1, Nat.le_of_ble_eq_true h.2⟩
theorem cal_of {n x : Nat} {as r : List Value} (q : cal P a K d k pc n es L h cb sb x as r) : catS r ≤ 8 ∧ ∃ mc ms d' : Nat, M P x as h mc ms d' (retK P a K d k pc n es L cb sb mc ms r) ∧ mc ≤ cb ∧ ms ≤ sb ∧ d' + 1 ≤ d := by
  unfold cal at q
  split at q
  · exact ⟨Nat.le_of_ble_eq_true (by assumption), q⟩
  · exact q.elim
theorem cat_room {ls : Array Slot} {m : MethodId} {r stv : List Value} (hc : catS r ≤ 8) : 2 * (F0 m pc ls stv).monitorRoom + ((r.map (mV P)).map fun v => v.category).sum ≤ 8 := by
  rw [catS_map]
  show 2 * 0 + _ ≤ 8
  omega
theorem pre_S {p : Program} {R : Room} {s : State} {m : MethodId} {args : Array Value} {meth : Method} {c : Code} {H : Heap} {locs : List Loc} {cells slots : Nat} (F : Fx P a d p R s m args meth c) (Y : Dy P R s H locs cells slots h cb sb) (as : List Value) : PreS s H (PcK P as h) (as.map (mV P)) :=
  ⟨Pc_blind as h, fun U hU hW => ⟨rfl, Env_step F.2.2.2.2.2.2.1 hW Y.2.2.1 hU, by rw [hU]; exact Y.2.2.2⟩⟩
theorem s_invokestatic {ix : Nat} (hk : Goes1 P a K d k) (hA : AllOk a) (o : OkE a (pc, .invokestatic ix, n, x, y, z, fl)) (ho : IsE a es) (q : stepI P a K d k (pc, .invokestatic ix, n, x, y, z, fl) es L st h cb sb) : G P a K d pc L st h cb sb := by
  obtain ⟨hd, hl, hw⟩ := dec_of o
  unfold lnk at hl
  simp only [Bool.and_eq_true] at hl
  have hn : n = 3 := Nat.eq_of_beq_eq_true hl.1
  subst hn
  have hl := hl.2
  have hz : (z = 0 ∨ z = 8) ∧ popN y st [] fun as r => cal P a K d k pc 3 es L h cb sb x as r := by
    unfold stepI at q
    dsimp only at q
    split at q
    · exact ⟨Or.inl rfl, q⟩
    · exact ⟨Or.inr rfl, q⟩
    · exact q.elim
  obtain ⟨hz, q1⟩ := hz
  obtain ⟨vs, r, rfl, hlen, q2⟩ := popN_of _ _ _ q1
  rw [List.append_nil] at q2
  obtain ⟨hc8, mc, ms, d', hM, hmc, hms, hd'⟩ := cal_of q2
  refine G_of fun p e R s m args below meth c H locs cells slots ls F Y V hx hb => ?_
  obtain ⟨-, -, hml, hr, hown, hts, hE, hlocks, -, htab, hfr, hlo⟩ := id F
  obtain ⟨hY1, hY2, hS, hWd⟩ := id Y
  have hst : (F0 m pc ls ((vs ++ r).map (mV P))).stack = (vs.reverse.map (mV P)).reverse ++ r.map (mV P) := by
    show (vs ++ r).map (mV P) = _
    rw [List.map_append, List.map_reverse, List.reverse_reverse]
  have hnl : (vs.reverse.map (mV P)).length = y := by rw [List.length_map, List.length_reverse]; exact hlen
  refine call_go (av := (vs.reverse.map (mV P)).toArray) (r := r) hk hA ho F Y V hmc hms ?_
  rcases hz with rfl | rfl
  · have hl : (lnS x y && decide (mEx x = [])) = true := hl
    simp only [Bool.and_eq_true, decide_eq_true_eq] at hl
    obtain ⟨hl1, hl2⟩ := hl
    obtain ⟨hl3, hl4⟩ := lnS_of hl1
    have w0 := TB_in (hw (0, .methodLink (mOwn a) ix (mY x)) (by simp [lnW]))
    have w1 := TB_in (hw (0, .static (mY x)) (by simp [lnW]))
    have w2 := TB_in (hw (0, .initialized (mY x).cls) (by simp [lnW]))
    have w3 := TB_in (hw (0, headw x) (by simp [lnW]))
    exact vx_runS ⟨hx, hb, hml, hown, hts⟩ hM (va_cwS y hts (good_l (fun w hw => by
        rcases List.mem_append.mp hw with h | h
        · simp only [List.mem_cons, List.not_mem_nil, or_false] at h
          rcases h with rfl | rfl | rfl
          · exact w0
          · exact w1
          · exact w2
        · exact (good_WS w3 w h).1)) (WS_code hl2) rfl rfl hl3 ⟨by show d' + 1 ≤ _; omega, by show 8 + (mMax x + 11) + 100 * d' ≤ _; omega⟩) (pre_S F Y _) rfl hnl V.1.1 hst (cat_room hc8) hd ⟨by omega, by omega⟩
  · have hl : (lnS x y && decide (mEx x ≠ [])) = true := hl
    simp only [Bool.and_eq_true, decide_eq_true_eq] at hl
    obtain ⟨hl1, hl2⟩ := hl
    obtain ⟨hl3, hl4⟩ := lnS_of hl1
    have w0 := TB_in (hw (0, .methodLink (mOwn a) ix (mY x)) (by simp [lnW]))
    have w1 := TB_in (hw (0, .static (mY x)) (by simp [lnW]))
    have w2 := TB_in (hw (0, .initialized (mY x).cls) (by simp [lnW]))
    have w3 := TB_in (hw (0, headw x) (by simp [lnW]))
    exact vx_runSX ⟨hx, hb, hml, hown, hts⟩ hM (vx_cwSW y hts (good_l (fun w hw => by
        rcases List.mem_append.mp hw with h | h
        · simp only [List.mem_cons, List.not_mem_nil, or_false] at h
          rcases h with rfl | rfl | rfl
          · exact w0
          · exact w1
          · exact w2
        · exact (good_WS w3 w h).1)) (WS_codeW hl2) rfl rfl hl3 ⟨by show d' + 1 ≤ _; omega, by show 8 + (mMax x + 11) + 100 * d' ≤ _; omega⟩) (pre_S F Y _) rfl hnl V.1.1 hst (cat_room hc8) hd ⟨by omega, by omega⟩
theorem vs_of {vs as' : List Value} {w : Value} (h : vs.reverse = w :: as') : vs = as'.reverse ++ [w] := by
  rw [← List.reverse_reverse vs, h, List.reverse_cons]
theorem recv_heap {p : Program} {R : Room} {s : State} {m : MethodId} {args : Array Value} {meth : Method} {c : Code} {H : Heap} {locs : List Loc} {cells slots : Nat} (F : Fx P a d p R s m args meth c) (Y : Dy P R s H locs cells slots h cb sb) {i ci : Nat} {fs : List Value} (hi : nth h i = some (.inr (ci, fs))) (hc : ci < 5) :
    ∃ cell : Cell, H[gN P + i]? = some cell ∧ cell.vm.isStatics = false ∧ s.vm.findClass (mCn ci) = some cell.cls :=
  va_recv (ws := [(gN P + i, .inr (ci, fs.map (mV P)))]) (q0 := 0) (Env_K F.2.2.2.2.2.2.1) (one_P (wd_at Y.2.2.2 hi hc)) (mCl_at ci hc) rfl
theorem recv_any {p : Program} {R : Room} {s : State} {m : MethodId} {args : Array Value} {meth : Method} {c : Code} {H : Heap} {locs : List Loc} {cells slots : Nat} (F : Fx P a d p R s m args meth c) (Y : Dy P R s H locs cells slots h cb sb) {w : Value} {ci : Nat}
    (hw : (∃ i fs, w = .ref i ∧ nth h i = some (.inr (ci, fs)) ∧ ci < 5) ∨ (∃ c9, w = .retAddr c9 ∧ ci = 0 ∧ 10 ≤ c9 ∧ c9 < 13)) :
    ∃ b : Nat, mV P w = .ref b ∧ ∃ cell : Cell, H[b]? = some cell ∧ cell.vm.isStatics = false ∧ s.vm.findClass (mCn ci) = some cell.cls := by
  rcases hw with ⟨i, fs, rfl, hi, hc⟩ | ⟨c9, rfl, rfl, h1, h2⟩
  · exact ⟨_, rfl, recv_heap F Y hi hc⟩
  · refine ⟨_, rfl, ?_⟩
    have := vk_recv F.2.2.2.2.2.2.1.2.2.2.2.2.2.2.2.2.2.1 (i := c9 - 10) (by omega) Y.2.2.1
    rw [show 10 + (c9 - 10) = c9 by omega] at this
    exact this
theorem pre_V {p : Program} {R : Room} {s : State} {m : MethodId} {args : Array Value} {meth : Method} {c : Code} {H : Heap} {locs : List Loc} {cells slots : Nat} (F : Fx P a d p R s m args meth c) (Y : Dy P R s H locs cells slots h cb sb) {w : Value} {b ci : Nat} (as : List Value) (hb : mV P w = .ref b) (hr : ∃ cell : Cell, H[b]? = some cell ∧ cell.vm.isStatics = false ∧ s.vm.findClass (mCn ci) = some cell.cls) : PreV s H (mCn ci) b (PcK P (w :: as) h) (as.map (mV P)) :=
  ⟨Pc_blind _ h, hr, fun U hU hW => ⟨by rw [List.map_cons, hb], Env_step F.2.2.2.2.2.2.1 hW Y.2.2.1 hU, by rw [hU]; exact Y.2.2.2⟩⟩
theorem s_invokevirtual {ix : Nat} (hk : Goes1 P a K d k) (hA : AllOk a) (o : OkE a (pc, .invokevirtual ix, n, x, y, z, fl)) (ho : IsE a es) (q : stepI P a K d k (pc, .invokevirtual ix, n, x, y, z, fl) es L st h cb sb) : G P a K d pc L st h cb sb := by
  obtain ⟨hd, hl, hw⟩ := dec_of o
  unfold lnk at hl
  simp only [Bool.and_eq_true] at hl
  have hn : n = 3 := Nat.eq_of_beq_eq_true hl.1
  subst hn
  have hl := hl.2
  have hz : (z / 16 = 1 ∨ z / 16 = 2 ∨ z / 16 = 3) ∧ ∃ vs r w as', st = vs ++ r ∧ vs.length = y + 1 ∧ vs.reverse = w :: as' ∧ ((∃ i fs, w = .ref i ∧ nth h i = some (.inr (z % 16, fs))) ∨ (∃ c9, w = .retAddr c9 ∧ z % 16 = 0 ∧ 10 ≤ c9 ∧ c9 < 13)) ∧ cal P a K d k pc 3 es L h cb sb x (w :: as') r := by
    unfold stepI at q
    dsimp only at q
    split at q
    · rename_i hb
      simp only [Bool.or_eq_true] at hb
      refine ⟨?_, ?_⟩
      · rcases hb with (hb | hb) | hb
        · exact Or.inl (Nat.eq_of_beq_eq_true hb)
        · exact Or.inr (Or.inl (Nat.eq_of_beq_eq_true hb))
        · exact Or.inr (Or.inr (Nat.eq_of_beq_eq_true hb))
      · obtain ⟨vs, r, h1, h2, q2⟩ := popN_of _ _ _ q
        rw [List.append_nil] at q2
        generalize hv : vs.reverse = V9 at q2
        split at q2
        · split at q2
          · split at q2
            · rename_i hb2
              have := Nat.eq_of_beq_eq_true hb2
              subst this
              exact ⟨vs, r, _, _, h1, h2, hv, Or.inl ⟨_, _, rfl, by assumption⟩, q2⟩
            · exact q2.elim
          · exact q2.elim
        · split at q2
          · rename_i hb2
            simp only [Bool.and_eq_true] at hb2
            exact ⟨vs, r, _, _, h1, h2, hv, Or.inr ⟨_, rfl, Nat.eq_of_beq_eq_true hb2.1.1, Nat.le_of_ble_eq_true hb2.1.2, Nat.le_of_ble_eq_true hb2.2⟩, q2⟩
          · exact q2.elim
        · exact q2.elim
    · exact q.elim
  obtain ⟨hz, vs, r, w, as', rfl, hlen, hrev, hrc, q2⟩ := hz
  obtain ⟨hc8, mc, ms, d', hM, hmc, hms, hd'⟩ := cal_of q2
  refine G_of fun p e R s m args below meth c H locs cells slots ls F Y V hx hb => ?_
  obtain ⟨-, -, hml, hr, hown, hts, hE, hlocks, -, htab, hfr, hlo⟩ := id F
  obtain ⟨hY1, hY2, hS, hWd⟩ := id Y
  have hvs := vs_of hrev
  have hal : as'.length = y := by
    have := congrArg List.length hvs
    simp only [List.length_append, List.length_reverse, List.length_singleton] at this
    omega
  have hz5 : z % 16 < 5 := by
    rcases hz with hz | hz | hz <;> (rw [hz] at hl; simp only [Bool.and_eq_true] at hl)
    · exact Nat.le_of_ble_eq_true hl.2
    · exact Nat.le_of_ble_eq_true hl.2
    · exact Nat.le_of_ble_eq_true hl.1.1.2
  have hrc2 : (∃ i fs, w = .ref i ∧ nth h i = some (.inr (z % 16, fs)) ∧ z % 16 < 5) ∨ (∃ c9, w = .retAddr c9 ∧ z % 16 = 0 ∧ 10 ≤ c9 ∧ c9 < 13) := by
    rcases hrc with ⟨i, fs, e1, e2⟩ | h9
    · exact Or.inl ⟨i, fs, e1, e2, hz5⟩
    · exact Or.inr h9
  obtain ⟨b, hbw, hrecv⟩ := recv_any F Y hrc2
  have hst : (F0 m pc ls ((vs ++ r).map (mV P))).stack = (as'.map (mV P)).reverse ++ .ref b :: r.map (mV P) := by
    show (vs ++ r).map (mV P) = _
    rw [hvs, List.map_append, List.map_append, List.map_reverse, List.append_assoc, List.map_cons, hbw]
    rfl
  have hnl : (as'.map (mV P)).length = y := by rw [List.length_map]; exact hal
  have hpV := pre_V F Y as' hbw hrecv
  refine call_go (av := (Value.ref b :: as'.map (mV P)).toArray) (r := r) hk hA ho F Y V hmc hms ?_
  have hroom : ∀ x : Nat, mMax x ≤ 81 → d' + 1 ≤ R.frames ∧ 8 + (mMax x + 11) + 100 * d' ≤ R.locals := fun x hx => ⟨by omega, by omega⟩
  rcases hz with hz | hz | hz
  · rw [hz] at hl
    simp only [Bool.and_eq_true, decide_eq_true_eq] at hl
    obtain ⟨⟨⟨hl1, hl2⟩, hcls⟩, -⟩ := hl
    obtain ⟨hl3, hl4⟩ := lnS_of hl1
    have w0 := TB_in (hw (0, .methodLink (mOwn a) ix (mY x)) (by simp [lnW, hz]))
    have w1 := TB_in (hw (0, .instanceMethod (mY x)) (by simp [lnW, hz]))
    have w2 := TB_in (hw (0, .selects (mCn (z % 16)) (mY x) (mY x)) (by simp [lnW, hz]))
    have w3 := TB_in (hw (0, .initialized (mCn (z % 16))) (by simp [lnW, hz]))
    have w4 := TB_in (hw (0, headw x) (by simp [lnW, hz]))
    exact vx_runV ⟨hx, hb, hml, hown, hts⟩ hM (cwV y hts (good_l (fun w hw => by
        rcases List.mem_append.mp hw with h | h
        · simp only [List.mem_cons, List.not_mem_nil, or_false] at h
          rcases h with rfl | rfl | rfl | rfl
          · exact w0
          · exact w1
          · exact w2
          · exact w3
        · exact (good_WS w4 w h).1)) (WS_code hl2) rfl rfl ⟨hcls, hl3⟩ (hroom x hl4)) hpV rfl hnl V.1.1 hst (cat_room hc8) hd ⟨by omega, by omega⟩
  · rw [hz] at hl
    simp only [Bool.and_eq_true, decide_eq_true_eq] at hl
    obtain ⟨⟨hl1, hl2⟩, -⟩ := hl
    obtain ⟨hl3, hl4⟩ := lnS_of hl1
    have w0 := TB_in (hw (0, .methodLink (mOwn a) ix (mY x)) (by simp [lnW, hz]))
    have w1 := TB_in (hw (0, .sameMethod (mY x).cls (mY x).cls (mY x).name (mY x).desc) (by simp [lnW, hz]))
    have w2 := TB_in (hw (0, .selects (mCn (z % 16)) (mY x) (mY x)) (by simp [lnW, hz]))
    have w3 := TB_in (hw (0, .instanceMethod (mY x)) (by simp [lnW, hz]))
    have w4 := TB_in (hw (0, .initialized (mY x).cls) (by simp [lnW, hz]))
    have w5 := TB_in (hw (0, headw x) (by simp [lnW, hz]))
    exact vx_runU ⟨hx, hb, hml, hown, hts⟩ hM (va_cwU (x := mY x) (owner := (mY x).cls) y hts (good_l (fun w hw => by
        rcases List.mem_append.mp hw with h | h
        · simp only [List.mem_cons, List.not_mem_nil, or_false] at h
          rcases h with rfl | rfl | rfl | rfl | rfl
          · exact w0
          · exact w1
          · exact w2
          · exact w3
          · exact w4
        · exact (good_WS w5 w h).1)) (WS_code hl2) rfl rfl rfl hl3 (hroom x hl4)) hpV rfl hnl V.1.1 hst (cat_room hc8) hd ⟨by omega, by omega⟩
  · rw [hz] at hl
    simp only [Bool.and_eq_true, decide_eq_true_eq] at hl
    obtain ⟨⟨⟨⟨hl1, hl2⟩, -⟩, hoy⟩, hex2⟩ := hl
    obtain ⟨hl3, hl4⟩ := lnS_of hl1
    have w0 := TB_in (hw (0, .methodLink (mOwn a) ix (oY x)) (by simp [lnW, hz]))
    have w1 := TB_in (hw (0, .sameMethod rc_ASB rc_ASB (mY x).name (mY x).desc) (by simp [lnW, hz]))
    have w2 := TB_in (hw (0, .instanceMethod (oY x)) (by simp [lnW, hz]))
    have w3 := TB_in (hw (0, .selects (mCn (z % 16)) (oY x) (mY x)) (by simp [lnW, hz]))
    have w4 := TB_in (hw (0, .instanceMethod (mY x)) (by simp [lnW, hz]))
    have w5 := TB_in (hw (0, .initialized (mY x).cls) (by simp [lnW, hz]))
    have w6 := TB_in (hw (0, headw x) (by simp [lnW, hz]))
    have w7 := TB_in (hw (0, headw n_ASB_length) (by simp [lnW, hz]))
    have h7 : Cond.code (oY x) (mCode n_ASB_length) (mMax n_ASB_length) (mRet n_ASB_length) ∈ TB := by
      have e : headw n_ASB_length = Cond.code (mY n_ASB_length) (mCode n_ASB_length) (mMax n_ASB_length) (mRet n_ASB_length) := by
        unfold headw
        rw [hex2]
      rw [hoy, ← e]
      exact w7
    exact vx_runU ⟨hx, hb, hml, hown, hts⟩ hM (va_cwO (x := oY x) (owner := rc_ASB) y hts (good_l (fun w hw => by
        rcases List.mem_append.mp hw with h | h
        · simp only [List.mem_cons, List.not_mem_nil, or_false] at h
          rcases h with rfl | rfl | rfl | rfl | rfl | rfl
          · exact w0
          · exact w1
          · exact w2
          · exact w3
          · exact w4
          · exact w5
        · exact (good_WS w6 w h).1)) (WS_code hl2) rfl rfl h7 ⟨by decide, by decide, hl3.2.2⟩ (hroom x hl4)) hpV rfl hnl V.1.1 hst (cat_room hc8) hd ⟨by omega, by omega⟩
theorem s_invokespecial {ix : Nat} (hk : Goes1 P a K d k) (hA : AllOk a) (o : OkE a (pc, .invokespecial ix, n, x, y, z, fl)) (ho : IsE a es) (q : stepI P a K d k (pc, .invokespecial ix, n, x, y, z, fl) es L st h cb sb) : G P a K d pc L st h cb sb := by
  obtain ⟨hd, hl, hw⟩ := dec_of o
  unfold lnk at hl
  simp only [Bool.and_eq_true] at hl
  have hn : n = 3 := Nat.eq_of_beq_eq_true hl.1
  subst hn
  have hl := hl.2
  have hz : (z = 7 ∧ ∃ i r, st = .ref i :: r ∧ (catS r ≤ 8 ∧ 1 ≤ d) ∧ nxt P a K d k (pc + 3) es L r h cb sb) ∨ ((z = 4 ∨ z = 5 ∨ z = 6) ∧ ∃ vs r i as', st = vs ++ r ∧ vs.length = y + 1 ∧ vs.reverse = .ref i :: as' ∧ (z = 4 → ∃ ci fs, nth h i = some (.inr (ci, fs)) ∧ ci < 5) ∧ cal P a K d k pc 3 es L h cb sb x (.ref i :: as') r) := by
    unfold stepI at q
    dsimp only at q
    split at q
    · obtain ⟨vs, r, h1, h2, q2⟩ := popN_of _ _ _ q
      rw [List.append_nil] at q2
      generalize hv : vs.reverse = V9 at q2
      split at q2
      · split at q2
        · split at q2
          · exact Or.inr ⟨Or.inl rfl, vs, r, _, _, h1, h2, hv, fun _ => ⟨_, _, by assumption, Nat.le_of_ble_eq_true (by assumption)⟩, q2⟩
          · exact q2.elim
        · exact q2.elim
      · exact q2.elim
    · obtain ⟨vs, r, h1, h2, q2⟩ := popN_of _ _ _ q
      rw [List.append_nil] at q2
      generalize hv : vs.reverse = V9 at q2
      split at q2
      · exact Or.inr ⟨Or.inr (Or.inl rfl), vs, r, _, _, h1, h2, hv, (fun h => by cases h), q2⟩
      · exact q2.elim
    · obtain ⟨vs, r, h1, h2, q2⟩ := popN_of _ _ _ q
      rw [List.append_nil] at q2
      generalize hv : vs.reverse = V9 at q2
      split at q2
      · exact Or.inr ⟨Or.inr (Or.inr rfl), vs, r, _, _, h1, h2, hv, (fun h => by cases h), q2⟩
      · exact q2.elim
    · split at q
      · split at q
        · rename_i hb9
          simp only [Bool.and_eq_true] at hb9
          exact Or.inl ⟨rfl, _, _, rfl, ⟨Nat.le_of_ble_eq_true hb9.1, Nat.le_of_ble_eq_true hb9.2⟩, q⟩
        · exact q.elim
      · exact q.elim
    · exact q.elim
  rcases hz with ⟨rfl, i, r, rfl, ⟨hc8, hd1⟩, qq⟩ | ⟨hz, vs, r, i, as', rfl, hlen, hrev, hrc, q2⟩
  · have w0 := TB_in (hw (0, .methodLink (mOwn a) ix Lib.objectInit) (by simp [lnW]))
    have w1 := TB_in (hw (0, .instanceMethod Lib.objectInit) (by simp [lnW]))
    have w2 := TB_in (hw (0, .code Lib.objectInit ⟨#[0xb1]⟩ 1 none) (by simp [lnW]))
    refine G_of fun p e R s m args below meth c H locs cells slots ls F Y V hx hb => ?_
    obtain ⟨-, -, hml, hr, hown, hts, hE, hlocks, -, htab, hfr, hlo⟩ := id F
    exact W.objInit hx hb hown (hts _ w0) (hts _ w1) (hts _ w2) rfl (by rw [hml]; exact V.1.1) rfl hd (by omega) (by rw [catS_map]; show 2 * 0 + _ + 12 ≤ _; omega) (nxt_go hk ho qq p e R s m args below meth c H locs cells slots _ F Y V)
  · obtain ⟨hc8, mc, ms, d', hM, hmc, hms, hd'⟩ := cal_of q2
    refine G_of fun p e R s m args below meth c H locs cells slots ls F Y V hx hb => ?_
    obtain ⟨-, -, hml, hr, hown, hts, hE, hlocks, -, htab, hfr, hlo⟩ := id F
    obtain ⟨hY1, hY2, hS, hWd⟩ := id Y
    have hvs := vs_of hrev
    have hal : as'.length = y := by
      have := congrArg List.length hvs
      simp only [List.length_append, List.length_reverse, List.length_singleton] at this
      omega
    have hst : (F0 m pc ls ((vs ++ r).map (mV P))).stack = (as'.map (mV P)).reverse ++ .ref (gN P + i) :: r.map (mV P) := by
      show (vs ++ r).map (mV P) = _
      rw [hvs, List.map_append, List.map_append, List.map_reverse, List.append_assoc]
      rfl
    have hnl : (as'.map (mV P)).length = y := by rw [List.length_map]; exact hal
    refine call_go (av := (Value.ref (gN P + i) :: as'.map (mV P)).toArray) (r := r) hk hA ho F Y V hmc hms ?_
    have hroom : ∀ x : Nat, mMax x ≤ 81 → d' + 1 ≤ R.frames ∧ 8 + (mMax x + 11) + 100 * d' ≤ R.locals := fun x hx => ⟨by omega, by omega⟩
    rcases hz with rfl | rfl | rfl
    · have hl : (lnS x y && decide (mEx x = []) && decide ((mY x).name ≠ "<init>")) = true := hl
      simp only [Bool.and_eq_true, decide_eq_true_eq] at hl
      obtain ⟨⟨hl1, hl2⟩, hl5⟩ := hl
      obtain ⟨hl3, hl4⟩ := lnS_of hl1
      obtain ⟨ci, fs, hi, hci⟩ := hrc rfl
      have w0 := TB_in (hw (0, .methodLink (mOwn a) ix (mY x)) (by simp [lnW]))
      have w1 := TB_in (hw (0, .sameMethod (mY x).cls (mY x).cls (mY x).name (mY x).desc) (by simp [lnW]))
      have w2 := TB_in (hw (0, .superclass (mOwn a) (mY x).cls) (by simp [lnW]))
      have w3 := TB_in (hw (0, .instanceMethod (mY x)) (by simp [lnW]))
      have w4 := TB_in (hw (0, .initialized (mY x).cls) (by simp [lnW]))
      have w5 := TB_in (hw (0, headw x) (by simp [lnW]))
      have hpV := pre_V (w := .ref i) F Y as' rfl (recv_heap F Y hi hci)
      exact vx_runSU ((Env_K hE).1 ci _ (mCl_at ci hci)).2 ⟨hx, hb, hml, hown, hts⟩ hM (va_cwSU y hts (good_l (fun w hw => by
          rcases List.mem_append.mp hw with h | h
          · simp only [List.mem_cons, List.not_mem_nil, or_false] at h
            rcases h with rfl | rfl | rfl | rfl | rfl
            · exact w0
            · exact w1
            · exact w2
            · exact w3
            · exact w4
          · exact (good_WS w5 w h).1)) (WS_code hl2) rfl rfl ⟨hl5, hl3.2.2⟩ (hroom x hl4)) hpV rfl hnl V.1.1 hst (cat_room hc8) hd ⟨by omega, by omega⟩
    · have hl : (lnS x y && decide (mEx x = []) && decide ((mY x).name = "<init>") && decide (mRet x = none)) = true := hl
      simp only [Bool.and_eq_true, decide_eq_true_eq] at hl
      obtain ⟨⟨⟨hl1, hl2⟩, hl5⟩, hl6⟩ := hl
      obtain ⟨hl3, hl4⟩ := lnS_of hl1
      have w0 := TB_in (hw (0, .methodLink (mOwn a) ix (mY x)) (by simp [lnW]))
      have w3 := TB_in (hw (0, .instanceMethod (mY x)) (by simp [lnW]))
      have w4 := TB_in (hw (0, .initialized (mY x).cls) (by simp [lnW]))
      have w5 := TB_in (hw (0, headw x) (by simp [lnW]))
      have hws := WS_code hl2
      rw [hl6] at hws
      exact vx_runI ⟨hx, hb, hml, hown, hts⟩ hM (cwI y hts (good_WS w5) hws rfl rfl (hts _ w4) (hts _ w0) (hts _ w3) hl5 hl3 (hroom x hl4)) (pre_S F Y (.ref i :: as')) rfl hnl V.1.1 hst (cat_room hc8) hd ⟨by omega, by omega⟩
    · have hl : (lnS x y && decide (mEx x = []) && decide ((mY x).name = "<init>") && decide (mRet x = none)) = true := hl
      simp only [Bool.and_eq_true, decide_eq_true_eq] at hl
      obtain ⟨⟨⟨hl1, hl2⟩, hl5⟩, hl6⟩ := hl
      obtain ⟨hl3, hl4⟩ := lnS_of hl1
      have w0 := WN_in (hw (1, .methodLinkNest (mOwn a) ix (mY x) (mOwn a)) (by simp [lnW]))
      have w3 := TB_in (hw (0, .instanceMethod (mY x)) (by simp [lnW]))
      have w4 := TB_in (hw (0, .initialized (mY x).cls) (by simp [lnW]))
      have w5 := TB_in (hw (0, headw x) (by simp [lnW]))
      have hws := WS_code hl2
      rw [hl6] at hws
      exact vx_runIN ⟨hx, hb, hml, hown, hts⟩ hM ⟨va_cnB y hts (good_WS w5) hws rfl rfl (hE.2.2.2.2.2.1 _ w0) (hts _ w4) hl3 (hroom x hl4), hl5, hts _ w3⟩ (pre_S F Y (.ref i :: as')) rfl hnl V.1.1 hst (cat_room hc8) hd ⟨by omega, by omega⟩
end SIM6
end
section
/-! what is run is what the machine does -/
/-! as vx_ofW and vx_ofWH, for a method without an entry of its own among the natives -/
theorem my_ofW {l : Launch} {y : MethodName} {ws ws' : List Cond} {rm : Room} {Pc : Array Value → State → Prop} {Qc : Array Value → State → Outcome → State → Prop} {XC : String → State → State → Prop} {mc ms : Nat} {free : Addr → Prop} {cc : ByteArray} {maxL : Nat} {ret : Option FieldType}
    (hy : plainFor y = true) (hw : ws = Cond.code y cc maxL ret :: ws')
    (body : ∀ p e s m args below meth c s₁, BodyLoose p l y (headSpec ws rm) cc maxL ret e s m args below meth c s₁ → c.maxLocals = maxL → (∀ x ∈ c.exceptionTable.toList, False) → Pc args s →
      W p l e (headSpec ws rm).room s m args below meth c s.heap [] 0 0 (vx_MQ below Qc XC args s mc ms free) (entryFrame m args maxL)) : vx_Met l y ws rm Pc Qc XC mc ms free := by
  refine MetFree.of_bodySF (code := cc) (maxLocals := maxL) (ret := ret) hy ?_ ?_
  · intro args s m h hn
    obtain ⟨meth, c, h1, h2, h3, h4, h5, h6, -, -⟩ := Cond.code_spec hn (atoms_spec (ws := ws) h _ (by rw [hw]; exact List.mem_cons_self))
    exact ⟨meth, c, h1, h2, h3, h4, h5, h6⟩
  · intro p e s m args below meth c s₁ B hml hP _
    have hh0 : s₁.heap = s.heap := by rw [B.state]; rfl
    have ht : ∀ x ∈ c.exceptionTable.toList, False := by
      obtain ⟨meth9, c9, h1, h2, -, -, -, -, h7, -⟩ := Cond.code_spec B.named (atoms_spec (ws := ws) B.pre _ (by rw [hw]; exact List.mem_cons_self))
      cases Option.some.inj (h1.symm.trans B.method)
      cases Option.some.inj (h2.symm.trans (Stand.of_body B).code)
      intro x hx
      rw [Array.isEmpty_iff.mp h7] at hx
      cases hx
    obtain ⟨t, a1, o, b1, b2, b3⟩ := body p e s m args below meth c s₁ B hml ht hP s₁ hh0 (Stand.of_body B)
    exact ⟨t, o, a1, b1, b2, b3⟩
theorem my_ofWH {l : Launch} {y : MethodName} {ws ws' : List Cond} {rm : Room} {Pc : Array Value → State → Prop} {Qc : Array Value → State → Outcome → State → Prop} {XC : String → State → State → Prop} {mc ms : Nat} {free : Addr → Prop} {cc : ByteArray} {maxL : Nat} {ret : Option FieldType} {hh : List (Nat × Nat × Nat × Nat)}
    (hy : plainFor y = true) (hw : ws = Cond.codeWith y cc maxL ret hh :: ws')
    (body : ∀ p e s m args below meth c s₁, BodyLoose p l y (headSpec ws rm) cc maxL ret e s m args below meth c s₁ → c.maxLocals = maxL → Pc args s →
      W p l e (headSpec ws rm).room s m args below meth c s.heap [] 0 0 (vx_MQ below Qc XC args s mc ms free) (entryFrame m args maxL)) : vx_Met l y ws rm Pc Qc XC mc ms free := by
  refine MetFree.of_bodySF (code := cc) (maxLocals := maxL) (ret := ret) hy ?_ ?_
  · intro args s m h hn
    obtain ⟨m9, meth, c, hn9, h1, h2, h3, h4, -, h5, h6, -⟩ := Cond.codeWith_spec (atoms_spec (ws := ws) h _ (by rw [hw]; exact List.mem_cons_self))
    cases hn.symm.trans hn9
    exact ⟨meth, c, h1, h2, h3, h4, h5, h6⟩
  · intro p e s m args below meth c s₁ B hml hP _
    have hh0 : s₁.heap = s.heap := by rw [B.state]; rfl
    obtain ⟨t, a1, o, b1, b2, b3⟩ := body p e s m args below meth c s₁ B hml hP s₁ hh0 (Stand.of_body B)
    exact ⟨t, o, a1, b1, b2, b3⟩
section GO
variable {P : GP} {a : Nat} {K : Kt} {d : Nat}
theorem step_go {k : Ct} (hk : Goes1 P a K d k) (hA : AllOk a) {e : Ent} {es : List Ent} {L : mLs} {st : List Value} {h : mH} {cb sb : Nat} (hI : IsE a (e :: es)) (q : stepI P a K d k e es L st h cb sb) : G P a K d e.1 L st h cb sb := by
  obtain ⟨pc, i, n, x, y, z, fl⟩ := e
  have o := hI _ List.mem_cons_self
  have ho : IsE a es := fun e he => hI e (List.mem_cons_of_mem _ he)
  cases i with
  | iadd => exact s_iadd hk hA o ho q
  | isub => exact s_isub hk hA o ho q
  | imul => exact s_imul hk hA o ho q
  | iand => exact s_iand hk hA o ho q
  | ior => exact s_ior hk hA o ho q
  | idiv => exact s_idiv hk hA o ho q
  | irem => exact s_irem hk hA o ho q
  | ishl => exact s_ishl hk hA o ho q
  | ishr => exact s_ishr hk hA o ho q
  | iushr => exact s_iushr hk hA o ho q
  | ineg => exact s_ineg hk hA o ho q
  | i2l => exact s_i2l hk hA o ho q
  | i2b => exact s_i2b hk hA o ho q
  | i2c => exact s_i2c hk hA o ho q
  | l2i => exact s_l2i hk hA o ho q
  | lneg => exact s_lneg hk hA o ho q
  | ladd => exact s_ladd hk hA o ho q
  | lsub => exact s_lsub hk hA o ho q
  | lmul => exact s_lmul hk hA o ho q
  | land => exact s_land hk hA o ho q
  | lor => exact s_lor hk hA o ho q
  | lxor => exact s_lxor hk hA o ho q
  | ldiv => exact s_ldiv hk hA o ho q
  | lrem => exact s_lrem hk hA o ho q
  | lshl => exact s_lshl hk hA o ho q
  | lshr => exact s_lshr hk hA o ho q
  | lushr => exact s_lushr hk hA o ho q
  | iconst => exact s_iconst hk hA o ho q
  | bipush => exact s_bipush hk hA o ho q
  | sipush => exact s_sipush hk hA o ho q
  | lconst => exact s_lconst hk hA o ho q
  | aconst_null => exact s_aconst_null hk hA o ho q
  | ldc2_w => exact s_ldc2_w hk hA o ho q
  | iload => exact s_iload hk hA o ho q
  | iload_n => exact s_iload_n hk hA o ho q
  | lload => exact s_lload hk hA o ho q
  | lload_n => exact s_lload_n hk hA o ho q
  | aload => exact s_aload hk hA o ho q
  | aload_n => exact s_aload_n hk hA o ho q
  | istore => exact s_istore hk hA o ho q
  | istore_n => exact s_istore_n hk hA o ho q
  | lstore => exact s_lstore hk hA o ho q
  | lstore_n => exact s_lstore_n hk hA o ho q
  | astore => exact s_astore hk hA o ho q
  | astore_n => exact s_astore_n hk hA o ho q
  | iinc => exact s_iinc hk hA o ho q
  | pop => exact s_pop hk hA o ho q
  | pop2 => exact s_pop2 hk hA o ho q
  | dup => exact s_dup hk hA o ho q
  | dup_x1 => exact s_dup_x1 hk hA o ho q
  | goto => exact s_goto hk hA o ho q
  | ifnonnull => exact s_ifnonnull hk hA o ho q
  | ifCond => exact s_ifCond hk hA o ho q
  | if_icmp => exact s_if_icmp hk hA o ho q
  | lcmp => exact s_lcmp hk hA o ho q
  | tableswitch => exact s_tableswitch hk hA o ho q
  | getfield => exact s_getfield hk hA o ho q
  | putfield => exact s_putfield hk hA o ho q
  | getstatic => exact s_getstatic hk hA o ho q
  | iaload => exact s_iaload hk hA o ho q
  | baload => exact s_baload hk hA o ho q
  | laload => exact s_laload hk hA o ho q
  | aaload => exact s_aaload hk hA o ho q
  | iastore => exact s_iastore hk hA o ho q
  | bastore => exact s_bastore hk hA o ho q
  | lastore => exact s_lastore hk hA o ho q
  | arraylength => exact s_arraylength hk hA o ho q
  | ldc => exact s_ldc hk hA o ho q
  | new => exact s_new hk hA o ho q
  | newarray => exact s_newarray hk hA o ho q
  | return_ => exact s_return_ hk hA o ho q
  | ireturn => exact s_ireturn hk hA o ho q
  | lreturn => exact s_lreturn hk hA o ho q
  | areturn => exact s_areturn hk hA o ho q
  | invokestatic => exact s_invokestatic hk hA o ho q
  | invokevirtual => exact s_invokevirtual hk hA o ho q
  | invokespecial => exact s_invokespecial hk hA o ho q
  | _ => exact q.elim
theorem run_go (hA : AllOk a) : ∀ n : Nat, Goes1 P a K d (run P a K d n)
  | 0 => fun e es L st h cb sb _ q => q
  | n + 1 => fun e es L st h cb sb hI q => step_go (run_go hA n) hA hI q
theorem go (hA : AllOk a) (n : Nat) {pc : Nat} {L : mLs} {st : List Value} {h : mH} {cb sb : Nat} (q : run P a K d n (seekC (mChk a) pc) L st h cb sb) : G P a K d pc L st h cb sb := by
  cases hs : seekC (mChk a) pc with
  | nil =>
    rw [hs] at q
    cases n <;> exact q.elim
  | cons e es =>
    rw [hs] at q
    have hI : IsE a (e :: es) := by rw [← hs]; exact isE_seek hA pc
    have := run_go hA n e es L st h cb sb hI q
    rw [seekC_hd _ _ _ _ hs] at this
    exact this
def entA : List Value → mLs
  | [] => []
  | v :: r => match cat2 (some v) with
    | true => some v :: none :: entA r
    | false => some v :: entA r
def entL (n : Nat) (vs : List Value) : mLs := entA vs ++ List.replicate (n - (entA vs).length) none
theorem lvl_app (P : GP) : ∀ (L r : mLs) (i : Nat), lvl P i (L ++ r) = lvl P i L ++ lvl P (i + L.length) r
  | [], r, i => by simp [lvl]
  | none :: t, r, i => by
    simp only [List.cons_append, lvl]
    rw [lvl_app P t r (i + 1), List.length_cons, show i + 1 + t.length = i + (t.length + 1) by omega]
  | some v :: t, r, i => by
    simp only [List.cons_append, lvl]
    rw [lvl_app P t r (i + 1), List.length_cons, show i + 1 + t.length = i + (t.length + 1) by omega]
theorem lvl_none (P : GP) : ∀ (n i : Nat), lvl P i (List.replicate n none) = []
  | 0, _ => rfl
  | n + 1, i => by
    rw [List.replicate_succ]
    exact lvl_none P n (i + 1)
theorem lvl_ent (P : GP) : ∀ (vs : List Value) (i : Nat), lvl P i (entA vs) = lv_args i (vs.map (mV P))
  | [], _ => rfl
  | v :: r, i => by
    unfold entA
    simp only [List.map_cons, lv_args, mV_cat]
    cases hc : cat2 (some v) with
    | true =>
      rw [if_pos ((cat2_iff v).mp hc)]
      simp only [lvl]
      rw [lvl_ent P r]
    | false =>
      rw [if_neg (fun e => by rw [(cat2_iff v).mpr e] at hc; cases hc)]
      simp only [lvl]
      rw [lvl_ent P r]
theorem ent_len (P : GP) : ∀ vs : List Value, (lg_sl (vs.map (mV P))).length = (entA vs).length
  | [] => rfl
  | v :: r => by
    unfold entA
    have ih := ent_len P r
    unfold lg_sl at ih ⊢
    simp only [List.map_cons, List.flatMap_cons, List.length_append, mV_cat, ih]
    cases hc : cat2 (some v) with
    | true =>
      rw [if_pos ((cat2_iff v).mp hc)]
      simp only [List.length_cons, List.length_nil]
      omega
    | false =>
      rw [if_neg (fun e => by rw [(cat2_iff v).mpr e] at hc; cases hc)]
      simp only [List.length_cons, List.length_nil]
      omega
/-- a method's contract, from its first instruction -/
theorem M_of {x : Nat} {args : List Value} {h : mH} {mc ms d : Nat} {K : Kt} (hp : plainFor (mY x) = true) (hc : (mY x).cls = mOwn x) (hn : (entA args).length ≤ mMax x) (hG : G P x K d 0 (entL (mMax x) args) [] h mc ms) : M P x args h mc ms d K := by
  have key : ∀ (p : Program) (e : Jvm.Env) (s : State) (m : MethodId) (ar : Array Value) (below : List Frame) (meth : Method) (c : Code) (s₁ : State),
      BodyLoose p (gl P) (mY x) (headSpec (WS x) { frames := d, cells := mc, slots := ms, locals := 100 * d }) (mCode x) (mMax x) (mRet x) e s m ar below meth c s₁ → c.maxLocals = mMax x → c.exceptionTable.toList = tableOf (mEx x) → PcK P args h ar s →
      W p (gl P) e { frames := d, cells := mc, slots := ms, locals := 100 * d } s m ar below meth c s.heap [] 0 0 (vx_MQ below (QcK P K) (XcK P K) ar s mc ms (gF P)) (entryFrame m ar (mMax x)) := by
    intro p e s m ar below meth c s₁ B hml htab hv
    obtain ⟨rfl, hE, hWd⟩ := hv
    have hts := atoms_spec (ws := WS x) B.pre
    have hown : s.vm.findClass (mY x).cls = some m.cls := findClass_of_methodNamed B.named
    have hl := lv_entry (args.map (mV P)) (n := mMax x) (by rw [ent_len]; exact hn)
    rw [lg_entry_eq]
    refine hG p e { frames := d, cells := mc, slots := ms, locals := 100 * d } s m _ below meth c s.heap [] 0 0 _ ⟨B.exec, B.bytes, hml, B.returns, by rw [← hc]; exact hown, fun w hw => hts w (List.mem_cons_of_mem _ hw), hE, B.notSynchronized, (name_of_methodNamed B.named B.method).1, htab, Nat.le_refl _, Nat.le_refl _⟩ ⟨by show 0 + mc ≤ mc; omega, by show 0 + ms ≤ ms; omega, va_S.rf, hWd⟩ ⟨?_, ?_⟩
    · unfold entL
      rw [lvl_app, lvl_none, List.append_nil, lvl_ent]
      exact hl
    · unfold entL
      rw [List.length_append, List.length_replicate]
      omega
  by_cases hx : mEx x = []
  · refine my_ofW (cc := mCode x) (maxL := mMax x) (ret := mRet x) hp (WS_code hx) ?_
    intro p e s m ar below meth c s₁ B hml hno hv
    refine key p e s m ar below meth c s₁ B hml ?_ hv
    rw [hx]
    cases ht : c.exceptionTable.toList with
    | nil => rfl
    | cons w r => exact (hno w (by rw [ht]; exact List.mem_cons_self)).elim
  · refine my_ofWH (cc := mCode x) (maxL := mMax x) (ret := mRet x) hp (WS_codeW hx) ?_
    intro p e s m ar below meth c s₁ B hml hv
    have hm : Cond.codeWith (mY x) (mCode x) (mMax x) (mRet x) (mEx x) ∈ WS x := by
      rw [WS_codeW hx]
      exact List.mem_cons_self
    exact key p e s m ar below meth c s₁ B hml (vx_table (x := mY x) B ((atoms_spec (ws := WS x) B.pre) _ hm)) hv
/-- a method's contract, run from its first instruction -/
theorem Mgo {x : Nat} (ok : AllOk x) (n : Nat) {args : List Value} {h : mH} {mc ms d : Nat} {K : Kt} (hn : Nat.ble (entA args).length (mMax x) = true) (q : run P x K d n (seekC (mChk x) 0) (entL (mMax x) args) [] h mc ms) : M P x args h mc ms d K := by
  have hb := ok.2
  unfold exOkB at hb
  simp only [Bool.and_eq_true, Bool.or_eq_true, decide_eq_true_eq] at hb
  have hp : plainFor (mY x) = true := by
    rcases hb.1.1 with h9 | h9
    · obtain ⟨c9, hc9, he9⟩ := List.any_eq_true.mp h9
      have e9 : c9 = (mY x).cls := of_decide_eq_true he9
      exact plainFor_of_name (by rw [← e9]; exact clsL_ok _ hc9)
    · obtain ⟨c9, hc9, he9⟩ := List.any_eq_true.mp h9
      have e9 : c9 = mY x := of_decide_eq_true he9
      rw [← e9]
      exact mathL_ok _ hc9
  exact M_of hp hb.1.2 (Nat.le_of_ble_eq_true hn) (go ok n q)
end GO
end
section
/-! a stretch of instructions is decoded in one pass -/
def tI (es : List Ent) : List (Instr × Nat) := es.map (fun e => (e.2.1, e.2.2.1))
def contig : List Ent → Nat → Bool
  | [], _ => true
  | e :: es, pc => Nat.beq e.1 pc && contig es (pc + e.2.2.1)
def lnkE (a : Nat) (e : Ent) : Bool := lnk a e.1 e.2.1 e.2.2.1 e.2.2.2.1 e.2.2.2.2.1 e.2.2.2.2.2.1
theorem lin_of {cc : ByteArray} : ∀ (es : List Ent) (pc : Nat), Jvm.Free.DS.Facts cc pc (tI es) → contig es pc = true → ∀ e ∈ es, decode cc e.1 = .ok (e.2.1, e.2.2.1)
  | [], _, _, _ => fun _ h => absurd h List.not_mem_nil
  | e :: es, pc, hF, hc => by
    unfold contig at hc
    simp only [Bool.and_eq_true] at hc
    have h1 : decode cc pc = .ok (e.2.1, e.2.2.1) ∧ Jvm.Free.DS.Facts cc (pc + e.2.2.1) (tI es) := hF
    intro e2 h2
    rcases List.mem_cons.mp h2 with rfl | h3
    · rw [Nat.eq_of_beq_eq_true hc.1]
      exact h1.1
    · exact lin_of es _ h1.2 hc.2 e2 h3
def chL (a pc0 : Nat) (es : List Ent) : Bool := Jvm.Free.DS.chk ((mCode a).data.toList.drop pc0) pc0 (tI es) && (Nat.ble (pc0 + ((tI es).map (fun q => q.2)).sum) (mCode a).data.size && (contig es pc0 && es.all (lnkE a)))
theorem chL_of {a pc0 : Nat} {es : List Ent} (h : chL a pc0 es = true) : ∀ e ∈ es, chkE a e = true := by
  unfold chL at h
  simp only [Bool.and_eq_true] at h
  obtain ⟨h1, h2, h3, h4⟩ := h
  intro e he
  have hF := Jvm.Free.DS.facts pc0 (tI es) h1 (Nat.le_of_ble_eq_true h2)
  unfold chkE
  rw [Bool.and_eq_true, decide_eq_true_eq]
  exact ⟨lin_of es pc0 hF h3 e he, List.all_eq_true.mp h4 e he⟩
theorem okChL {a : Nat} {es : List Ent} (pc0 : Nat) (ps : List Nat) (h : (chL a pc0 es && (decide ((es.flatMap (wlE a)).map (fun q => some q.2) = ps.map (nth lT)) && (es.flatMap (wlE a)).all (fun q => okK q.1 q.2))) = true) : ∀ e ∈ es, OkE a e := by
  rw [Bool.and_eq_true] at h
  refine okCh ps ?_
  rw [Bool.and_eq_true]
  exact ⟨List.all_eq_true.mpr (chL_of h.1), h.2⟩
def allBL (a : Nat) (ps : List Nat) : Bool := exOkB a && ((mChk a).all (fun ch => chL a ch.1 ch.2.2) && (decide ((wlA a).map (fun q => some q.2) = ps.map (nth lT)) && (wlA a).all (fun q => okK q.1 q.2)))
theorem allOkL {a : Nat} (ps : List Nat) (h : allBL a ps = true) : AllOk a := by
  unfold allBL at h
  rw [Bool.and_eq_true, Bool.and_eq_true] at h
  refine allOk_of ps ?_
  unfold allOkB
  rw [Bool.and_eq_true, Bool.and_eq_true]
  exact ⟨h.1, List.all_eq_true.mpr (fun ch hc => List.all_eq_true.mpr (chL_of (List.all_eq_true.mp h.2.1 ch hc))), h.2.2⟩
end
section
/-! every entry is as it says: each method by program -/
theorem ok_D_ofSigned : AllOk n_D_ofSigned := allOkL [543, 544, 37, 545, 546, 37, 547, 574, 575, 35, 576, 578, 579, 580, 37, 581, 673, 674, 675, 37, 676, 710, 711, 712, 37, 713] (by decide +kernel)
theorem ok_D_ofUnsigned : AllOk n_D_ofUnsigned := allOkL [543, 544, 37, 545, 546, 37, 547, 574, 575, 35, 576, 673, 674, 675, 37, 676, 710, 711, 712, 37, 713] (by decide +kernel)
theorem ok_D_appendBackwards : AllOk n_D_appendBackwards := allOkL [577, 345, 578, 579, 580, 37, 581] (by decide +kernel)
theorem ok_D_countOf : AllOk n_D_countOf := allOkL [345] (by decide +kernel)
theorem ok_A_holdForPair : AllOk n_A_holdForPair := allOkL [168, 169, 49, 170, 180, 181, 49, 182, 195, 196, 49, 197, 204, 205, 49, 206, 226, 227, 32, 228, 230, 183, 184, 32, 185] (by decide +kernel)
theorem ok_A_holdForAverages : AllOk n_A_holdForAverages := allOkL [171, 172, 32, 173, 171, 172, 32, 173, 174, 175, 34, 176, 177, 178, 34, 179] (by decide +kernel)
theorem ok_A_holdForFloor : AllOk n_A_holdForFloor := allOkL [183, 184, 32, 185, 189, 190, 32, 191, 192, 193, 32, 194, 189, 190, 32, 191] (by decide +kernel)
theorem ok_A_holdForTowards : AllOk n_A_holdForTowards := allOkL [198, 199, 32, 200, 189, 190, 32, 191, 201, 202, 32, 203, 189, 190, 32, 191] (by decide +kernel)
theorem ok_A_holdForProduct : AllOk n_A_holdForProduct := allOkL [189, 190, 32, 191, 207, 208, 209, 32, 210, 212, 213, 32, 214] (by decide +kernel)
theorem ok_A_holdForResidue : AllOk n_A_holdForResidue := allOkL [246, 247, 48, 248, 250, 251, 48, 252, 263, 264, 48, 265, 246, 247, 48, 248, 246, 247, 48, 248] (by decide +kernel)
theorem ok_A_keepResidues : AllOk n_A_keepResidues := allOkL [246, 247, 48, 248, 246, 247, 48, 248, 246, 247, 48, 248, 246, 247, 48, 248, 246, 247, 48, 248, 246, 247, 48, 248] (by decide +kernel)
theorem ok_A_holdForMeeting : AllOk n_A_holdForMeeting := allOkL [277, 278, 48, 279, 207, 246, 247, 48, 248, 246, 247, 48, 248] (by decide +kernel)
theorem ok_R_sizeOf : AllOk n_R_sizeOf := allOkL [256, 257, 34, 258] (by decide +kernel)
theorem ok_R_residueOf : AllOk n_R_residueOf := allOkL [249, 193, 32, 194] (by decide +kernel)
theorem ok_R_raised : AllOk n_R_raised := allOkL [266, 247, 48, 248, 266, 247, 48, 248, 266, 247, 48, 248] (by decide +kernel)
theorem ok_R_greatestDivisor : AllOk n_R_greatestDivisor := allOkL [] (by decide +kernel)
theorem ok_R_hasInverse : AllOk n_R_hasInverse := allOkL [253, 254, 48, 255, 259, 260, 48, 261, 262] (by decide +kernel)
theorem ok_R_inverseOf : AllOk n_R_inverseOf := allOkL [253, 254, 48, 255, 259, 260, 48, 261, 266, 247, 48, 248] (by decide +kernel)
theorem ok_R_inverseBelow : AllOk n_R_inverseBelow := allOkL [249, 193, 32, 194, 249, 193, 32, 194, 262] (by decide +kernel)
theorem ok_R_meetingOf : AllOk n_R_meetingOf := allOkL [253, 254, 48, 255, 253, 254, 48, 255, 249, 193, 32, 194, 280, 281, 48, 282, 249, 193, 32, 194, 262, 283, 184, 32, 185, 283, 184, 32, 185, 283, 184, 32, 185, 259, 260, 48, 261, 249, 193, 32, 194] (by decide +kernel)
theorem ok_W_order : AllOk n_W_order := allOkL [] (by decide +kernel)
theorem ok_W_isWithin : AllOk n_W_isWithin := allOkL [] (by decide +kernel)
theorem ok_W_goneRound : AllOk n_W_goneRound := allOkL [] (by decide +kernel)
theorem ok_W_edge : AllOk n_W_edge := allOkL [222, 339, 340, 341] (by decide +kernel)
theorem ok_W_joined : AllOk n_W_joined := allOkL [] (by decide +kernel)
theorem ok_W_isExact : AllOk n_W_isExact := allOkL [215, 216, 32, 217, 218, 219, 32, 220, 223, 224, 32, 225] (by decide +kernel)
theorem ok_W_isTrue : AllOk n_W_isTrue := allOkL [221, 222] (by decide +kernel)
theorem ok_W_upperHalf : AllOk n_W_upperHalf := allOkL [211, 211, 211] (by decide +kernel)
theorem ok_W_averageOf : AllOk n_W_averageOf := allOkL [] (by decide +kernel)
theorem ok_W_floorOf : AllOk n_W_floorOf := allOkL [186, 187, 34, 188] (by decide +kernel)
theorem ok_W_restOf : AllOk n_W_restOf := allOkL [] (by decide +kernel)
theorem ok_W_quotientTowards : AllOk n_W_quotientTowards := allOkL [] (by decide +kernel)
theorem ok_W_restTowards : AllOk n_W_restTowards := allOkL [] (by decide +kernel)
theorem ok_W_chained : AllOk n_W_chained := allOkL [229, 184, 32, 185, 229, 184, 32, 185, 229, 184, 32, 185] (by decide +kernel)
theorem ok_X_new : AllOk n_X_new := allOkL [55, 56, 57, 77, 58, 77, 59, 78, 60, 78, 61] (by decide +kernel)
theorem ok_X_put : AllOk n_X_put := allOkL [368, 369, 371, 9, 25, 372] (by decide +kernel)
theorem ok_X_copy : AllOk n_X_copy := allOkL [91, 93, 1, 25, 94, 369, 371, 9, 25, 372] (by decide +kernel)
theorem ok_X_widen : AllOk n_X_widen := allOkL [91, 93, 1, 25, 94, 369, 371, 9, 25, 372] (by decide +kernel)
theorem ok_X_narrow : AllOk n_X_narrow := allOkL [95, 96, 25, 97, 91, 93, 1, 25, 94, 394, 224, 32, 225, 395, 397, 10, 25, 398, 369, 371, 9, 25, 372] (by decide +kernel)
theorem ok_X_exact : AllOk n_X_exact := allOkL [91, 93, 1, 25, 94, 91, 93, 1, 25, 94, 294, 295, 25, 296, 407, 409, 11, 25, 410] (by decide +kernel)
theorem ok_X_fits : AllOk n_X_fits := allOkL [91, 93, 1, 25, 94, 91, 93, 1, 25, 94, 294, 295, 25, 296, 411, 213, 32, 214] (by decide +kernel)
theorem ok_X_alone : AllOk n_X_alone := allOkL [91, 93, 1, 25, 94, 294, 295, 25, 296, 407, 409, 11, 25, 410, 407, 409, 11, 25, 410] (by decide +kernel)
theorem ok_X_timesInt : AllOk n_X_timesInt := allOkL [91, 93, 1, 25, 94, 91, 93, 1, 25, 94, 407, 409, 11, 25, 410] (by decide +kernel)
theorem ok_X_full : AllOk n_X_full := allOkL [91, 93, 1, 25, 94, 91, 93, 1, 25, 94, 369, 371, 9, 25, 372] (by decide +kernel)
theorem ok_X_high : AllOk n_X_high := allOkL [91, 93, 1, 25, 94, 91, 93, 1, 25, 94, 448, 209, 32, 210, 369, 371, 9, 25, 372] (by decide +kernel)
theorem ok_X_round : AllOk n_X_round := allOkL [91, 93, 1, 25, 94, 91, 93, 1, 25, 94, 294, 295, 25, 296, 412, 216, 32, 217, 456, 458, 12, 25, 459] (by decide +kernel)
theorem ok_X_abs : AllOk n_X_abs := allOkL [91, 93, 1, 25, 94, 456, 458, 12, 25, 459] (by decide +kernel)
theorem ok_X_extreme : AllOk n_X_extreme := allOkL [91, 93, 1, 25, 94, 91, 93, 1, 25, 94, 475, 178, 34, 179, 476, 175, 34, 176, 369, 371, 9, 25, 372] (by decide +kernel)
theorem ok_X_floor : AllOk n_X_floor := allOkL [91, 93, 1, 25, 94, 484, 486, 13, 25, 487] (by decide +kernel)
theorem ok_X_floorInt : AllOk n_X_floorInt := allOkL [91, 93, 1, 25, 94, 484, 486, 13, 25, 487] (by decide +kernel)
theorem ok_X_towards : AllOk n_X_towards := allOkL [91, 93, 1, 25, 94, 91, 93, 1, 25, 94, 395, 397, 10, 25, 398, 504, 202, 32, 203, 505, 199, 32, 200, 456, 458, 12, 25, 459] (by decide +kernel)
theorem ok_X_average : AllOk n_X_average := allOkL [91, 93, 1, 25, 94, 91, 93, 1, 25, 94, 513, 172, 32, 173, 369, 371, 9, 25, 372] (by decide +kernel)
theorem ok_X_chain : AllOk n_X_chain := allOkL [91, 93, 1, 25, 94, 521, 522, 25, 523, 525, 227, 32, 228, 369, 371, 9, 25, 372] (by decide +kernel)
theorem ok_X_atOnce : AllOk n_X_atOnce := allOkL [91, 93, 1, 25, 94, 521, 522, 25, 523, 411, 213, 32, 214, 395, 397, 10, 25, 398, 489, 184, 32, 185, 369, 371, 9, 25, 372] (by decide +kernel)
theorem ok_X_distance : AllOk n_X_distance := allOkL [91, 93, 1, 25, 94, 91, 93, 1, 25, 94, 475, 178, 34, 179, 476, 175, 34, 176, 540, 541, 35, 542] (by decide +kernel)
theorem ok_X_compare : AllOk n_X_compare := allOkL [91, 93, 1, 25, 94, 91, 93, 1, 25, 94, 333, 334, 32, 335] (by decide +kernel)
theorem ok_X_text : AllOk n_X_text := allOkL [91, 93, 1, 25, 94, 856, 857, 35, 858] (by decide +kernel)
theorem ok_X_ofNumber : AllOk n_X_ofNumber := allOkL [91, 93, 1, 25, 94, 294, 295, 25, 296, 333, 334, 32, 335, 336, 337, 32, 338, 342, 343, 35, 344] (by decide +kernel)
theorem ok_X_rest : AllOk n_X_rest := allOkL [91, 93, 1, 25, 94, 870, 871, 25, 872, 488, 193, 32, 194] (by decide +kernel)
theorem ok_X_quotient : AllOk n_X_quotient := allOkL [91, 93, 1, 25, 94, 870, 871, 25, 872, 489, 184, 32, 185, 460, 190, 32, 191, 856, 857, 35, 858] (by decide +kernel)
theorem ok_X_modulus : AllOk n_X_modulus := allOkL [235, 237, 4, 25, 238, 870, 871, 25, 872, 60, 239, 241, 5, 25, 242, 888, 890, 14, 25, 891] (by decide +kernel)
theorem ok_X_bring : AllOk n_X_bring := allOkL [91, 93, 1, 25, 94, 888, 890, 14, 25, 891] (by decide +kernel)
theorem ok_X_lift : AllOk n_X_lift := allOkL [239, 241, 5, 25, 242, 369, 371, 9, 25, 372] (by decide +kernel)
theorem ok_X_plus : AllOk n_X_plus := allOkL [239, 241, 5, 25, 242, 239, 241, 5, 25, 242, 888, 890, 14, 25, 891] (by decide +kernel)
theorem ok_X_times : AllOk n_X_times := allOkL [239, 241, 5, 25, 242, 239, 241, 5, 25, 242, 888, 890, 14, 25, 891] (by decide +kernel)
theorem ok_X_power : AllOk n_X_power := allOkL [239, 241, 5, 25, 242, 297, 33, 235, 237, 4, 25, 238, 929, 930, 48, 931, 888, 890, 14, 25, 891] (by decide +kernel)
theorem ok_X_inverse : AllOk n_X_inverse := allOkL [239, 241, 5, 25, 242, 235, 237, 4, 25, 238, 324, 251, 48, 252, 395, 397, 10, 25, 398, 939, 264, 48, 265, 888, 890, 14, 25, 891] (by decide +kernel)
theorem ok_X_isUnit : AllOk n_X_isUnit := allOkL [239, 241, 5, 25, 242, 235, 237, 4, 25, 238, 324, 251, 48, 252] (by decide +kernel)
theorem ok_X_residue : AllOk n_X_residue := allOkL [239, 241, 5, 25, 242] (by decide +kernel)
theorem ok_X_ringText : AllOk n_X_ringText := allOkL [958, 544, 37, 959, 546, 37, 547, 235, 237, 4, 25, 238, 960, 750, 751, 37, 752, 961, 579, 580, 37, 581, 961, 579, 580, 37, 581, 239, 241, 5, 25, 242, 960, 750, 751, 37, 752, 962, 711, 712, 37, 713] (by decide +kernel)
theorem ok_X_areAlike : AllOk n_X_areAlike := allOkL [235, 237, 4, 25, 238, 91, 93, 1, 25, 94, 91, 93, 1, 25, 94, 488, 193, 32, 194, 488, 193, 32, 194] (by decide +kernel)
theorem ok_X_together : AllOk n_X_together := allOkL [95, 96, 25, 97, 239, 241, 5, 25, 242, 239, 241, 5, 25, 242, 235, 237, 4, 25, 238, 235, 237, 4, 25, 238, 977, 278, 48, 279, 978, 395, 397, 10, 25, 398, 369, 371, 9, 25, 372] (by decide +kernel)
theorem ok_X_common : AllOk n_X_common := allOkL [235, 237, 4, 25, 238, 986, 254, 48, 255, 235, 237, 4, 25, 238, 986, 254, 48, 255, 987, 281, 48, 282, 489, 184, 32, 185, 856, 857, 35, 858] (by decide +kernel)
theorem ok_X_house : AllOk n_X_house := allOkL [294, 295, 25, 296, 62, 63, 58, 313, 314, 25, 315, 59, 313, 314, 25, 315, 316, 318, 7, 25, 319] (by decide +kernel)
theorem ok_X_knock : AllOk n_X_knock := allOkL [63, 63, 63] (by decide +kernel)
theorem ok_X_isSound : AllOk n_X_isSound := allOkL [87, 89, 0, 25, 90, 87, 89, 0, 25, 90, 231, 233, 3, 25, 234, 270, 272, 6, 25, 273] (by decide +kernel)
theorem ok_X_digest : AllOk n_X_digest := allOkL [288, 289, 290, 291, 292, 25, 293, 325, 327, 8, 25, 328, 325, 327, 8, 25, 328, 289, 235, 237, 4, 25, 238, 289, 239, 241, 5, 25, 242, 289, 346, 84, 85, 25, 86] (by decide +kernel)
theorem ok_X_needIndex : AllOk n_X_needIndex := allOkL [98, 31] (by decide +kernel)
theorem ok_X_needChoice : AllOk n_X_needChoice := allOkL [297, 33] (by decide +kernel)
theorem ok_X_needNotZero : AllOk n_X_needNotZero := allOkL [297, 33] (by decide +kernel)
theorem ok_X_needDivisors : AllOk n_X_needDivisors := allOkL [297, 33] (by decide +kernel)
theorem ok_X_numberAt : AllOk n_X_numberAt := allOkL [95, 96, 25, 97, 59, 58] (by decide +kernel)
theorem ok_X_modulusAt : AllOk n_X_modulusAt := allOkL [95, 96, 25, 97, 60] (by decide +kernel)
theorem ok_X_residueAt : AllOk n_X_residueAt := allOkL [95, 96, 25, 97, 95, 96, 25, 97, 61] (by decide +kernel)
theorem ok_X_refuse : AllOk n_X_refuse := allOkL [62, 62] (by decide +kernel)
theorem ok_X_keep : AllOk n_X_keep := allOkL [95, 96, 25, 97, 59, 58, 333, 334, 32, 335] (by decide +kernel)
theorem ok_X_keepRound : AllOk n_X_keepRound := allOkL [460, 190, 32, 191, 369, 371, 9, 25, 372] (by decide +kernel)
theorem ok_X_keepExact : AllOk n_X_keepExact := allOkL [411, 213, 32, 214, 395, 397, 10, 25, 398, 412, 216, 32, 217, 369, 371, 9, 25, 372] (by decide +kernel)
theorem ok_X_keepFloor : AllOk n_X_keepFloor := allOkL [91, 93, 1, 25, 94, 395, 397, 10, 25, 398, 488, 193, 32, 194, 489, 184, 32, 185, 456, 458, 12, 25, 459] (by decide +kernel)
theorem ok_X_keepResidue : AllOk n_X_keepResidue := allOkL [235, 237, 4, 25, 238, 892, 247, 48, 248, 95, 96, 25, 97, 61] (by decide +kernel)
theorem ok_X_countZeros : AllOk n_X_countZeros := allOkL [] (by decide +kernel)
theorem ok_X_countUnits : AllOk n_X_countUnits := allOkL [320, 321, 322, 25, 323] (by decide +kernel)
theorem ok_X_digestNumbers : AllOk n_X_digestNumbers := allOkL [289, 329, 330, 331, 25, 332] (by decide +kernel)
theorem ok_X_areNumbersSound : AllOk n_X_areNumbersSound := allOkL [91, 93, 1, 25, 94, 91, 93, 1, 25, 94, 165, 166, 49, 167] (by decide +kernel)
theorem ok_X_areRingsSound : AllOk n_X_areRingsSound := allOkL [235, 237, 4, 25, 238, 239, 241, 5, 25, 242, 243, 244, 49, 245, 91, 93, 1, 25, 94, 91, 93, 1, 25, 94, 267, 268, 49, 269] (by decide +kernel)
theorem ok_X_areMeetingsSound : AllOk n_X_areMeetingsSound := allOkL [239, 241, 5, 25, 242, 235, 237, 4, 25, 238, 239, 241, 5, 25, 242, 235, 237, 4, 25, 238, 274, 275, 49, 276] (by decide +kernel)
end
section
/-! every entry is as it says: each method by program -/
theorem ok_M_new : AllOk n_M_new := allOkL [997, 56, 57, 77, 1001, 77, 1002, 78, 1003, 1004] (by decide +kernel)
theorem ok_M_thrown : AllOk n_M_thrown := allOkL [1000] (by decide +kernel)
theorem ok_M_refuse : AllOk n_M_refuse := allOkL [1000, 1000, 1000] (by decide +kernel)
theorem ok_M_start : AllOk n_M_start := allOkL [1000, 1037, 1039, 16, 26, 1040] (by decide +kernel)
theorem ok_M_isNo : AllOk n_M_isNo := allOkL [] (by decide +kernel)
theorem ok_M_isNoRing : AllOk n_M_isNoRing := allOkL [] (by decide +kernel)
theorem ok_M_no : AllOk n_M_no := allOkL [1005, 1005] (by decide +kernel)
theorem ok_M_sign : AllOk n_M_sign := allOkL [] (by decide +kernel)
theorem ok_M_now : AllOk n_M_now := allOkL [1002, 1001] (by decide +kernel)
theorem ok_M_become : AllOk n_M_become := allOkL [1002, 1001, 1046, 1048, 18, 26, 1049, 1050, 1051, 26, 1052] (by decide +kernel)
theorem ok_M_above : AllOk n_M_above := allOkL [1082, 1082, 1082] (by decide +kernel)
theorem ok_M_both : AllOk n_M_both := allOkL [] (by decide +kernel)
theorem ok_M_isWithin : AllOk n_M_isWithin := allOkL [1076, 1077, 26, 1078, 1079, 1080, 26, 1081] (by decide +kernel)
theorem ok_M_floorOf : AllOk n_M_floorOf := allOkL [] (by decide +kernel)
theorem ok_M_restOf : AllOk n_M_restOf := allOkL [] (by decide +kernel)
theorem ok_M_gcd : AllOk n_M_gcd := allOkL [1260, 257, 34, 258, 1260, 257, 34, 258] (by decide +kernel)
theorem ok_M_against : AllOk n_M_against := allOkL [1119, 1120, 26, 1121, 1119, 1120, 26, 1121] (by decide +kernel)
theorem ok_M_put : AllOk n_M_put := allOkL [1030, 1031, 26, 1032, 1033, 1035, 15, 26, 1036, 1041, 1041, 1042, 1044, 17, 26, 1045] (by decide +kernel)
theorem ok_M_copy : AllOk n_M_copy := allOkL [1030, 1031, 26, 1032, 1030, 1031, 26, 1032, 1033, 1035, 15, 26, 1036, 1046, 1048, 18, 26, 1049, 1042, 1044, 17, 26, 1045] (by decide +kernel)
theorem ok_M_widen : AllOk n_M_widen := allOkL [1030, 1031, 26, 1032, 1030, 1031, 26, 1032, 1033, 1035, 15, 26, 1036, 1001, 1042, 1044, 17, 26, 1045] (by decide +kernel)
theorem ok_M_narrow : AllOk n_M_narrow := allOkL [1030, 1031, 26, 1032, 1030, 1031, 26, 1032, 1033, 1035, 15, 26, 1036, 1002, 1002, 1002, 1042, 1044, 17, 26, 1045, 1065, 1067, 19, 26, 1068] (by decide +kernel)
theorem ok_M_exact : AllOk n_M_exact := allOkL [1030, 1031, 26, 1032, 1030, 1031, 26, 1032, 1033, 1035, 15, 26, 1036, 1037, 1039, 16, 26, 1040, 1046, 1048, 18, 26, 1049, 1046, 1048, 18, 26, 1049, 1073, 1074, 26, 1075, 1076, 1077, 26, 1078, 1042, 1044, 17, 26, 1045, 1065, 1067, 19, 26, 1068] (by decide +kernel)
theorem ok_M_fits : AllOk n_M_fits := allOkL [1030, 1031, 26, 1032, 1030, 1031, 26, 1032, 1033, 1035, 15, 26, 1036, 1037, 1039, 16, 26, 1040, 1046, 1048, 18, 26, 1049, 1046, 1048, 18, 26, 1049, 1073, 1074, 26, 1075] (by decide +kernel)
theorem ok_M_alone : AllOk n_M_alone := allOkL [1030, 1031, 26, 1032, 1033, 1035, 15, 26, 1036, 1037, 1039, 16, 26, 1040, 1046, 1048, 18, 26, 1049, 1073, 1074, 26, 1075, 1042, 1044, 17, 26, 1045, 1065, 1067, 19, 26, 1068, 1073, 1074, 26, 1075, 1076, 1077, 26, 1078, 1042, 1044, 17, 26, 1045, 1065, 1067, 19, 26, 1068] (by decide +kernel)
theorem ok_M_timesInt : AllOk n_M_timesInt := allOkL [1030, 1031, 26, 1032, 1030, 1031, 26, 1032, 1033, 1035, 15, 26, 1036, 1002, 1001, 1073, 1074, 26, 1075, 1002, 1001, 1042, 1044, 17, 26, 1045, 1065, 1067, 19, 26, 1068] (by decide +kernel)
theorem ok_M_full : AllOk n_M_full := allOkL [1030, 1031, 26, 1032, 1030, 1031, 26, 1032, 1030, 1031, 26, 1032, 1033, 1035, 15, 26, 1036, 1001, 1001, 1042, 1044, 17, 26, 1045] (by decide +kernel)
theorem ok_M_high : AllOk n_M_high := allOkL [1030, 1031, 26, 1032, 1030, 1031, 26, 1032, 1030, 1031, 26, 1032, 1033, 1035, 15, 26, 1036, 1002, 1002, 1079, 1080, 26, 1081, 1042, 1044, 17, 26, 1045] (by decide +kernel)
theorem ok_M_round : AllOk n_M_round := allOkL [1030, 1031, 26, 1032, 1030, 1031, 26, 1032, 1033, 1035, 15, 26, 1036, 1037, 1039, 16, 26, 1040, 1046, 1048, 18, 26, 1049, 1046, 1048, 18, 26, 1049, 1076, 1077, 26, 1078, 1042, 1044, 17, 26, 1045] (by decide +kernel)
theorem ok_M_abs : AllOk n_M_abs := allOkL [1030, 1031, 26, 1032, 1033, 1035, 15, 26, 1036, 1046, 1048, 18, 26, 1049, 1046, 1048, 18, 26, 1049, 1042, 1044, 17, 26, 1045, 1046, 1048, 18, 26, 1049, 1050, 1051, 26, 1052] (by decide +kernel)
theorem ok_M_extreme : AllOk n_M_extreme := allOkL [1030, 1031, 26, 1032, 1030, 1031, 26, 1032, 1033, 1035, 15, 26, 1036, 1046, 1048, 18, 26, 1049, 1046, 1048, 18, 26, 1049, 1042, 1044, 17, 26, 1045] (by decide +kernel)
theorem ok_M_floor : AllOk n_M_floor := allOkL [1030, 1031, 26, 1032, 1030, 1031, 26, 1032, 1033, 1035, 15, 26, 1036, 1046, 1048, 18, 26, 1049, 1065, 1067, 19, 26, 1068, 1046, 1048, 18, 26, 1049, 1119, 1120, 26, 1121, 1046, 1048, 18, 26, 1049, 1122, 1123, 26, 1124, 1042, 1044, 17, 26, 1045] (by decide +kernel)
theorem ok_M_floorInt : AllOk n_M_floorInt := allOkL [1030, 1031, 26, 1032, 1030, 1031, 26, 1032, 1033, 1035, 15, 26, 1036, 1001, 1065, 1067, 19, 26, 1068, 1002, 1001, 1119, 1120, 26, 1121, 1002, 1001, 1122, 1123, 26, 1124, 1042, 1044, 17, 26, 1045] (by decide +kernel)
theorem ok_M_towards : AllOk n_M_towards := allOkL [1030, 1031, 26, 1032, 1030, 1031, 26, 1032, 1033, 1035, 15, 26, 1036, 1046, 1048, 18, 26, 1049, 1065, 1067, 19, 26, 1068, 1046, 1048, 18, 26, 1049, 1046, 1048, 18, 26, 1049, 1042, 1044, 17, 26, 1045] (by decide +kernel)
theorem ok_M_average : AllOk n_M_average := allOkL [1030, 1031, 26, 1032, 1030, 1031, 26, 1032, 1033, 1035, 15, 26, 1036, 1046, 1048, 18, 26, 1049, 1046, 1048, 18, 26, 1049, 1042, 1044, 17, 26, 1045] (by decide +kernel)
theorem ok_M_areWrong : AllOk n_M_areWrong := allOkL [] (by decide +kernel)
theorem ok_M_chain : AllOk n_M_chain := allOkL [1030, 1031, 26, 1032, 1033, 1035, 15, 26, 1036, 1141, 1142, 26, 1143, 1037, 1039, 16, 26, 1040, 1002, 1122, 1123, 26, 1124, 1122, 1123, 26, 1124, 1122, 1123, 26, 1124, 1042, 1044, 17, 26, 1045] (by decide +kernel)
theorem ok_M_atOnce : AllOk n_M_atOnce := allOkL [1030, 1031, 26, 1032, 1033, 1035, 15, 26, 1036, 1141, 1142, 26, 1143, 1037, 1039, 16, 26, 1040, 1148, 1065, 1067, 19, 26, 1068, 1002, 1122, 1123, 26, 1124, 1042, 1044, 17, 26, 1045] (by decide +kernel)
theorem ok_M_plain : AllOk n_M_plain := allOkL [1157, 544, 37, 1158, 546, 37, 547, 1159, 782, 783, 37, 784, 1160, 1161, 1162, 37, 1163, 1187, 711, 712, 37, 713, 1188, 1157, 544, 37, 1158, 546, 37, 547, 1159, 782, 783, 37, 784, 1160, 1161, 1162, 37, 1163, 1189, 1160, 1161, 1162, 37, 1163, 1187, 711, 712, 37, 713] (by decide +kernel)
theorem ok_M_distance : AllOk n_M_distance := allOkL [1030, 1031, 26, 1032, 1030, 1031, 26, 1032, 1033, 1035, 15, 26, 1036, 1046, 1048, 18, 26, 1049, 1046, 1048, 18, 26, 1049, 1154, 1155, 26, 1156] (by decide +kernel)
theorem ok_M_compare : AllOk n_M_compare := allOkL [1030, 1031, 26, 1032, 1030, 1031, 26, 1032, 1033, 1035, 15, 26, 1036, 1046, 1048, 18, 26, 1049, 1046, 1048, 18, 26, 1049, 1046, 1048, 18, 26, 1049, 1046, 1048, 18, 26, 1049] (by decide +kernel)
theorem ok_M_text : AllOk n_M_text := allOkL [1030, 1031, 26, 1032, 1033, 1035, 15, 26, 1036, 1157, 544, 37, 1158, 546, 37, 547, 1159, 782, 783, 37, 784, 1046, 1048, 18, 26, 1049, 1160, 1161, 1162, 37, 1163, 1187, 711, 712, 37, 713] (by decide +kernel)
theorem ok_M_ofNow : AllOk n_M_ofNow := allOkL [1046, 1048, 18, 26, 1049, 1206, 1207, 1050, 1051, 26, 1052, 1208, 1157, 544, 37, 1158, 546, 37, 547, 1159, 782, 783, 37, 784, 1160, 1161, 1162, 37, 1163, 1187, 711, 712, 37, 713, 1209, 796, 797, 38, 798] (by decide +kernel)
theorem ok_M_ofNumber : AllOk n_M_ofNumber := allOkL [1030, 1031, 26, 1032, 1033, 1035, 15, 26, 1036, 1037, 1039, 16, 26, 1040, 1202, 1204, 20, 26, 1205] (by decide +kernel)
theorem ok_M_rest : AllOk n_M_rest := allOkL [1030, 1031, 26, 1032, 1033, 1035, 15, 26, 1036, 1037, 1039, 16, 26, 1040, 1046, 1048, 18, 26, 1049, 1119, 1120, 26, 1121] (by decide +kernel)
theorem ok_M_quotient : AllOk n_M_quotient := allOkL [1030, 1031, 26, 1032, 1033, 1035, 15, 26, 1036, 1037, 1039, 16, 26, 1040, 1046, 1048, 18, 26, 1049, 1122, 1123, 26, 1124, 1157, 544, 37, 1158, 546, 37, 547, 1159, 782, 783, 37, 784, 1160, 1161, 1162, 37, 1163, 1187, 711, 712, 37, 713] (by decide +kernel)
theorem ok_M_come : AllOk n_M_come := allOkL [1004, 1003, 1119, 1120, 26, 1121, 1004] (by decide +kernel)
theorem ok_M_modulus : AllOk n_M_modulus := allOkL [1222, 1223, 26, 1224, 1033, 1035, 15, 26, 1036, 1037, 1039, 16, 26, 1040, 1003, 1003, 1004, 1225, 1227, 21, 26, 1228] (by decide +kernel)
theorem ok_M_bring : AllOk n_M_bring := allOkL [1222, 1223, 26, 1224, 1030, 1031, 26, 1032, 1030, 1031, 26, 1032, 1033, 1035, 15, 26, 1036, 1046, 1048, 18, 26, 1049, 1225, 1227, 21, 26, 1228] (by decide +kernel)
theorem ok_M_lift : AllOk n_M_lift := allOkL [1222, 1223, 26, 1224, 1030, 1031, 26, 1032, 1030, 1031, 26, 1032, 1033, 1035, 15, 26, 1036, 1004, 1042, 1044, 17, 26, 1045] (by decide +kernel)
theorem ok_M_plus : AllOk n_M_plus := allOkL [1222, 1223, 26, 1224, 1030, 1031, 26, 1032, 1030, 1031, 26, 1032, 1033, 1035, 15, 26, 1036, 1004, 1004, 1225, 1227, 21, 26, 1228] (by decide +kernel)
theorem ok_M_times : AllOk n_M_times := allOkL [1222, 1223, 26, 1224, 1030, 1031, 26, 1032, 1030, 1031, 26, 1032, 1033, 1035, 15, 26, 1036, 1004, 1004, 1225, 1227, 21, 26, 1228] (by decide +kernel)
theorem ok_M_power : AllOk n_M_power := allOkL [1222, 1223, 26, 1224, 1030, 1031, 26, 1032, 1033, 1035, 15, 26, 1036, 1037, 1039, 16, 26, 1040, 1003, 1119, 1120, 26, 1121, 1004, 1003, 1119, 1120, 26, 1121, 1003, 1119, 1120, 26, 1121, 1225, 1227, 21, 26, 1228] (by decide +kernel)
theorem ok_M_isUnitNow : AllOk n_M_isUnitNow := allOkL [1004, 1003, 1257, 1258, 26, 1259] (by decide +kernel)
theorem ok_M_inverse : AllOk n_M_inverse := allOkL [1222, 1223, 26, 1224, 1030, 1031, 26, 1032, 1033, 1035, 15, 26, 1036, 1253, 1255, 22, 26, 1256, 1065, 1067, 19, 26, 1068, 1004, 1003, 1260, 257, 34, 258, 1261, 1262, 26, 1263, 1225, 1227, 21, 26, 1228] (by decide +kernel)
theorem ok_M_isUnit : AllOk n_M_isUnit := allOkL [1222, 1223, 26, 1224, 1030, 1031, 26, 1032, 1033, 1035, 15, 26, 1036, 1253, 1255, 22, 26, 1256] (by decide +kernel)
theorem ok_M_residue : AllOk n_M_residue := allOkL [1222, 1223, 26, 1224, 1030, 1031, 26, 1032, 1033, 1035, 15, 26, 1036, 1004] (by decide +kernel)
theorem ok_M_ringText : AllOk n_M_ringText := allOkL [1222, 1223, 26, 1224, 1033, 1035, 15, 26, 1036, 1004, 1157, 544, 37, 1158, 546, 37, 547, 1003, 1276, 750, 751, 37, 752, 1159, 782, 783, 37, 784, 1276, 750, 751, 37, 752, 1159, 782, 783, 37, 784, 1276, 750, 751, 37, 752, 1159, 782, 783, 37, 784, 1276, 750, 751, 37, 752, 1159, 782, 783, 37, 784, 1276, 750, 751, 37, 752, 1187, 711, 712, 37, 713] (by decide +kernel)
theorem ok_M_areAlike : AllOk n_M_areAlike := allOkL [1222, 1223, 26, 1224, 1030, 1031, 26, 1032, 1030, 1031, 26, 1032, 1033, 1035, 15, 26, 1036, 1046, 1048, 18, 26, 1049, 1003, 1119, 1120, 26, 1121, 1046, 1048, 18, 26, 1049, 1003, 1119, 1120, 26, 1121] (by decide +kernel)
theorem ok_M_together : AllOk n_M_together := allOkL [1030, 1031, 26, 1032, 1222, 1223, 26, 1224, 1030, 1031, 26, 1032, 1222, 1223, 26, 1224, 1030, 1031, 26, 1032, 1033, 1035, 15, 26, 1036, 1003, 1260, 257, 34, 258, 1003, 1260, 257, 34, 258, 1257, 1258, 26, 1259, 1004, 1119, 1120, 26, 1121, 1004, 1119, 1120, 26, 1121, 1065, 1067, 19, 26, 1068, 1119, 1120, 26, 1121, 1261, 1262, 26, 1263, 1119, 1120, 26, 1121, 1042, 1044, 17, 26, 1045] (by decide +kernel)
theorem ok_M_common : AllOk n_M_common := allOkL [1222, 1223, 26, 1224, 1222, 1223, 26, 1224, 1033, 1035, 15, 26, 1036, 1003, 1260, 257, 34, 258, 1003, 1260, 257, 34, 258, 1257, 1258, 26, 1259, 1157, 544, 37, 1158, 546, 37, 547, 1159, 782, 783, 37, 784, 1160, 1161, 1162, 37, 1163, 1187, 711, 712, 37, 713] (by decide +kernel)
theorem ok_M_houseNow : AllOk n_M_houseNow := allOkL [1001, 1002, 1253, 1255, 22, 26, 1256, 1005, 1006] (by decide +kernel)
theorem ok_M_house : AllOk n_M_house := allOkL [1033, 1035, 15, 26, 1036, 1295, 1297, 23, 26, 1298] (by decide +kernel)
theorem ok_M_knock : AllOk n_M_knock := allOkL [1000, 1006, 1006] (by decide +kernel)
theorem ok_M_isSound : AllOk n_M_isSound := allOkL [1000] (by decide +kernel)
theorem ok_M_digest : AllOk n_M_digest := allOkL [1000, 1311, 1312, 1295, 1297, 23, 26, 1298, 1312, 1202, 1204, 20, 26, 1205, 1312, 1003, 1312, 1004, 1312] (by decide +kernel)
end
section
/-! every entry is as it says: each method by program -/
theorem ok_O_new : AllOk n_O_new := allOkL [352, 56, 57] (by decide +kernel)
theorem ok_K_put : AllOk n_K_put := allOkL [364, 365, 366, 25, 367, 353] (by decide +kernel)
theorem ok_K_copy : AllOk n_K_copy := allOkL [376, 377, 378, 25, 379, 353] (by decide +kernel)
theorem ok_K_widen : AllOk n_K_widen := allOkL [383, 384, 385, 25, 386, 353] (by decide +kernel)
theorem ok_K_narrow : AllOk n_K_narrow := allOkL [390, 391, 392, 25, 393, 353] (by decide +kernel)
theorem ok_K_exact : AllOk n_K_exact := allOkL [403, 404, 405, 25, 406, 353] (by decide +kernel)
theorem ok_K_fits : AllOk n_K_fits := allOkL [416, 417, 418, 25, 419, 353] (by decide +kernel)
theorem ok_K_alone : AllOk n_K_alone := allOkL [423, 424, 425, 25, 426, 353] (by decide +kernel)
theorem ok_K_timesInt : AllOk n_K_timesInt := allOkL [430, 431, 432, 25, 433, 353] (by decide +kernel)
theorem ok_K_full : AllOk n_K_full := allOkL [437, 438, 439, 25, 440, 353] (by decide +kernel)
theorem ok_K_high : AllOk n_K_high := allOkL [444, 445, 446, 25, 447, 353] (by decide +kernel)
theorem ok_K_round : AllOk n_K_round := allOkL [452, 453, 454, 25, 455, 353] (by decide +kernel)
theorem ok_K_abs : AllOk n_K_abs := allOkL [464, 465, 466, 25, 467, 353] (by decide +kernel)
theorem ok_K_extreme : AllOk n_K_extreme := allOkL [471, 472, 473, 25, 474, 353] (by decide +kernel)
theorem ok_K_floor : AllOk n_K_floor := allOkL [480, 481, 482, 25, 483, 353] (by decide +kernel)
theorem ok_K_floorInt : AllOk n_K_floorInt := allOkL [493, 494, 495, 25, 496, 353] (by decide +kernel)
theorem ok_K_towards : AllOk n_K_towards := allOkL [500, 501, 502, 25, 503, 353] (by decide +kernel)
theorem ok_K_average : AllOk n_K_average := allOkL [509, 510, 511, 25, 512, 353] (by decide +kernel)
theorem ok_K_chain : AllOk n_K_chain := allOkL [517, 518, 519, 25, 520, 353] (by decide +kernel)
theorem ok_K_atOnce : AllOk n_K_atOnce := allOkL [529, 530, 531, 25, 532, 353] (by decide +kernel)
theorem ok_K_distance : AllOk n_K_distance := allOkL [536, 537, 538, 25, 539, 354] (by decide +kernel)
theorem ok_K_compare : AllOk n_K_compare := allOkL [845, 846, 847, 25, 848, 353] (by decide +kernel)
theorem ok_K_text : AllOk n_K_text := allOkL [852, 853, 854, 25, 855, 354] (by decide +kernel)
theorem ok_K_ofNumber : AllOk n_K_ofNumber := allOkL [862, 330, 331, 25, 332, 353] (by decide +kernel)
theorem ok_K_rest : AllOk n_K_rest := allOkL [866, 867, 868, 25, 869, 353] (by decide +kernel)
theorem ok_K_quotient : AllOk n_K_quotient := allOkL [877, 878, 879, 25, 880, 354] (by decide +kernel)
theorem ok_K_modulus : AllOk n_K_modulus := allOkL [884, 885, 886, 25, 887, 353] (by decide +kernel)
theorem ok_K_bring : AllOk n_K_bring := allOkL [896, 897, 898, 25, 899, 353] (by decide +kernel)
theorem ok_K_lift : AllOk n_K_lift := allOkL [903, 904, 905, 25, 906, 353] (by decide +kernel)
theorem ok_K_plus : AllOk n_K_plus := allOkL [910, 911, 912, 25, 913, 353] (by decide +kernel)
theorem ok_K_times : AllOk n_K_times := allOkL [917, 918, 919, 25, 920, 353] (by decide +kernel)
theorem ok_K_power : AllOk n_K_power := allOkL [924, 925, 926, 25, 927, 353] (by decide +kernel)
theorem ok_K_inverse : AllOk n_K_inverse := allOkL [935, 936, 937, 25, 938, 353] (by decide +kernel)
theorem ok_K_isUnit : AllOk n_K_isUnit := allOkL [943, 321, 322, 25, 323, 353] (by decide +kernel)
theorem ok_K_residue : AllOk n_K_residue := allOkL [947, 948, 949, 25, 950, 353] (by decide +kernel)
theorem ok_K_ringText : AllOk n_K_ringText := allOkL [954, 955, 956, 25, 957, 354] (by decide +kernel)
theorem ok_K_areAlike : AllOk n_K_areAlike := allOkL [966, 967, 968, 25, 969, 353] (by decide +kernel)
theorem ok_K_together : AllOk n_K_together := allOkL [973, 974, 975, 25, 976, 353] (by decide +kernel)
theorem ok_K_common : AllOk n_K_common := allOkL [982, 983, 984, 25, 985, 354] (by decide +kernel)
theorem ok_K_house : AllOk n_K_house := allOkL [991, 291, 292, 25, 293, 353] (by decide +kernel)
end
section
/-! every entry is as it says: each method by program -/
theorem ok_ASB_new : AllOk n_ASB_new := allOkL [551, 56, 57, 552, 164, 561, 562, 561, 562] (by decide +kernel)
theorem ok_ASB_length : AllOk n_ASB_length := allOkL [564] (by decide +kernel)
theorem ok_ASB_ensureCapacityInternal : AllOk n_ASB_ensureCapacityInternal := allOkL [561, 562, 561, 589, 1316, 1326, 591, 36, 592, 562, 604, 605, 41, 606, 561] (by decide +kernel)
theorem ok_ASB_newCapacity : AllOk n_ASB_newCapacity := allOkL [561, 562, 562, 593, 594, 40, 595, 603, 562] (by decide +kernel)
theorem ok_ASB_append_T : AllOk n_ASB_append_T := allOkL [795, 796, 797, 38, 798, 564, 585, 1315, 1325, 587, 36, 588, 564, 804, 1322, 1328, 806, 36, 807, 564, 564] (by decide +kernel)
theorem ok_ASB_append_C : AllOk n_ASB_append_C := allOkL [564, 585, 1315, 1325, 587, 36, 588, 620, 622, 623, 621, 36, 624, 625, 626, 43, 627, 561, 564, 564, 620, 622, 623, 621, 36, 624, 561, 564, 564] (by decide +kernel)
theorem ok_ASB_append_I : AllOk n_ASB_append_I := allOkL [564, 756, 757, 46, 758, 585, 1315, 1325, 587, 36, 588, 620, 622, 623, 621, 36, 624, 561, 759, 760, 46, 761, 561, 564] (by decide +kernel)
theorem ok_ASB_append_J : AllOk n_ASB_append_J := allOkL [564, 1167, 1168, 47, 1169, 585, 1315, 1325, 587, 36, 588, 620, 622, 623, 621, 36, 624, 561, 1172, 1173, 47, 1174, 561, 564] (by decide +kernel)
theorem ok_ASB_reverse : AllOk n_ASB_reverse := allOkL [561, 564, 620, 622, 623, 621, 36, 624] (by decide +kernel)
theorem ok_ASB_getValue : AllOk n_ASB_getValue := allOkL [561] (by decide +kernel)
theorem ok_ASB_isLatin1 : AllOk n_ASB_isLatin1 := allOkL [552, 562] (by decide +kernel)
theorem ok_ASB_inflateIfNeededFor : AllOk n_ASB_inflateIfNeededFor := allOkL [552, 562, 812, 800, 801, 38, 802] (by decide +kernel)
theorem ok_ASB_putStringAt : AllOk n_ASB_putStringAt := allOkL [808, 1323, 1327, 810, 36, 811, 561, 562, 813, 814, 815, 38, 816] (by decide +kernel)
theorem ok_INT_getChars : AllOk n_INT_getChars := allOkL [762, 764, 762, 764] (by decide +kernel)
theorem ok_INT_stringSize : AllOk n_INT_stringSize := allOkL [] (by decide +kernel)
theorem ok_LNG_getChars : AllOk n_LNG_getChars := allOkL [1175, 1176, 1176, 1177, 1178, 1177, 1178, 1177, 1178] (by decide +kernel)
theorem ok_LNG_stringSize : AllOk n_LNG_stringSize := allOkL [1170, 1171] (by decide +kernel)
theorem ok_MA_floorDiv : AllOk n_MA_floorDiv := allOkL [] (by decide +kernel)
theorem ok_MA_abs : AllOk n_MA_abs := allOkL [] (by decide +kernel)
theorem ok_MA_max_II : AllOk n_MA_max_II := allOkL [] (by decide +kernel)
theorem ok_MA_max_JJ : AllOk n_MA_max_JJ := allOkL [] (by decide +kernel)
theorem ok_MA_min_II : AllOk n_MA_min_II := allOkL [] (by decide +kernel)
theorem ok_MA_min_JJ : AllOk n_MA_min_JJ := allOkL [] (by decide +kernel)
theorem ok_STR_new_Q : AllOk n_STR_new_Q := allOkL [719, 720, 38, 721] (by decide +kernel)
theorem ok_STR_length : AllOk n_STR_length := allOkL [831, 799, 800, 801, 38, 802] (by decide +kernel)
theorem ok_STR_getBytes : AllOk n_STR_getBytes := allOkL [799, 800, 801, 38, 802, 831, 831, 831, 831] (by decide +kernel)
theorem ok_STR_new_QN : AllOk n_STR_new_QN := allOkL [722, 56, 57, 723, 725, 726, 724, 36, 727, 728, 730, 729, 731, 732, 37, 733, 735, 736, 622, 623, 621, 36, 624, 832, 737, 738, 41, 739, 831, 803, 563, 831, 831, 832, 832, 737, 738, 41, 739, 831] (by decide +kernel)
theorem ok_STR_coder : AllOk n_STR_coder := allOkL [803, 832] (by decide +kernel)
theorem ok_SB_new : AllOk n_SB_new := allOkL [548, 549, 36, 550] (by decide +kernel)
theorem ok_SB_append_T : AllOk n_SB_append_T := allOkL [785, 1320, 573, 786, 36, 787] (by decide +kernel)
theorem ok_SB_append_C : AllOk n_SB_append_C := allOkL [582, 1314, 573, 583, 36, 584] (by decide +kernel)
theorem ok_SB_append_I : AllOk n_SB_append_I := allOkL [753, 1319, 573, 754, 36, 755] (by decide +kernel)
theorem ok_SB_append_J : AllOk n_SB_append_J := allOkL [1164, 1324, 573, 1165, 36, 1166] (by decide +kernel)
theorem ok_SB_reverse : AllOk n_SB_reverse := allOkL [677, 1318, 573, 678, 36, 679] (by decide +kernel)
theorem ok_SB_toString : AllOk n_SB_toString := allOkL [714, 715, 38, 716, 717, 38, 718] (by decide +kernel)
theorem ok_SB_length : AllOk n_SB_length := allOkL [734, 730, 573, 729, 36, 735] (by decide +kernel)
theorem ok_L1_canEncode : AllOk n_L1_canEncode := allOkL [] (by decide +kernel)
theorem ok_ARR_copyOf : AllOk n_ARR_copyOf := allOkL [164, 614, 615, 34, 616] (by decide +kernel)
theorem ok_ARR_checkLength : AllOk n_ARR_checkLength := allOkL [747, 544, 37, 748, 546, 37, 547, 749, 750, 751, 37, 752, 781, 782, 783, 37, 784, 749, 750, 751, 37, 752, 819, 711, 712, 37, 713] (by decide +kernel)
theorem ok_ARR_copyOfRange : AllOk n_ARR_copyOfRange := allOkL [740, 741, 41, 742] (by decide +kernel)
theorem ok_ARR_copyOfRangeByte : AllOk n_ARR_copyOfRangeByte := allOkL [743, 744, 41, 745, 164, 614, 615, 34, 616] (by decide +kernel)
theorem ok_AS_newLength : AllOk n_AS_newLength := allOkL [596, 597, 34, 598, 599] (by decide +kernel)
end
section
/-! every entry is as it says: each method by program -/
theorem okc_0 : ∀ e ∈ e243_0, OkE n_K_law e := okChL 0 [50, 51, 25, 52, 53, 25, 54, 992, 993, 26, 994, 995, 26, 996, 347, 348, 27, 349, 350, 27, 351] (by decide +kernel)
theorem okc_1 : ∀ e ∈ e243_1, OkE n_K_law e := okChL 228 [360, 361, 24, 362, 1026, 1027, 1028, 26, 1029, 1022, 1023, 1024, 26, 1025, 353] (by decide +kernel)
theorem okc_2 : ∀ e ∈ e243_2, OkE n_K_law e := okChL 337 [373, 374, 24, 375, 1053, 1054, 1055, 26, 1056] (by decide +kernel)
theorem okc_3 : ∀ e ∈ e243_3, OkE n_K_law e := okChL 405 [380, 381, 24, 382, 1057, 1058, 1059, 26, 1060] (by decide +kernel)
theorem okc_4 : ∀ e ∈ e243_4, OkE n_K_law e := okChL 445 [387, 388, 24, 389, 1061, 1062, 1063, 26, 1064] (by decide +kernel)
theorem okc_5 : ∀ e ∈ e243_5, OkE n_K_law e := okChL 485 [399, 400, 24, 401, 1069, 1070, 1071, 26, 1072] (by decide +kernel)
theorem okc_6 : ∀ e ∈ e243_6, OkE n_K_law e := okChL 565 [413, 414, 24, 415, 1083, 1084, 1085, 26, 1086] (by decide +kernel)
theorem okc_7 : ∀ e ∈ e243_7, OkE n_K_law e := okChL 645 [420, 421, 24, 422, 1087, 1088, 1089, 26, 1090] (by decide +kernel)
theorem okc_8 : ∀ e ∈ e243_8, OkE n_K_law e := okChL 713 [427, 428, 24, 429, 1091, 1092, 1093, 26, 1094] (by decide +kernel)
theorem okc_9 : ∀ e ∈ e243_9, OkE n_K_law e := okChL 753 [434, 435, 24, 436, 1095, 1096, 1097, 26, 1098] (by decide +kernel)
theorem okc_10 : ∀ e ∈ e243_10, OkE n_K_law e := okChL 805 [441, 442, 24, 443, 1099, 1100, 1101, 26, 1102] (by decide +kernel)
theorem okc_11 : ∀ e ∈ e243_11, OkE n_K_law e := okChL 857 [449, 450, 24, 451, 1103, 1104, 1105, 26, 1106] (by decide +kernel)
theorem okc_12 : ∀ e ∈ e243_12, OkE n_K_law e := okChL 937 [461, 462, 24, 463, 1107, 1108, 1109, 26, 1110] (by decide +kernel)
theorem okc_13 : ∀ e ∈ e243_13, OkE n_K_law e := okChL 993 [468, 469, 24, 470, 1111, 1112, 1113, 26, 1114] (by decide +kernel)
theorem okc_14 : ∀ e ∈ e243_14, OkE n_K_law e := okChL 1089 [477, 478, 24, 479, 1115, 1116, 1117, 26, 1118] (by decide +kernel)
theorem okc_15 : ∀ e ∈ e243_15, OkE n_K_law e := okChL 1185 [490, 491, 24, 492, 1125, 1126, 1127, 26, 1128] (by decide +kernel)
theorem okc_16 : ∀ e ∈ e243_16, OkE n_K_law e := okChL 1253 [497, 498, 24, 499, 1129, 1130, 1131, 26, 1132] (by decide +kernel)
theorem okc_17 : ∀ e ∈ e243_17, OkE n_K_law e := okChL 1349 [506, 507, 24, 508, 1133, 1134, 1135, 26, 1136] (by decide +kernel)
theorem okc_18 : ∀ e ∈ e243_18, OkE n_K_law e := okChL 1445 [514, 515, 24, 516, 1137, 1138, 1139, 26, 1140] (by decide +kernel)
theorem okc_19 : ∀ e ∈ e243_19, OkE n_K_law e := okChL 1509 [526, 527, 24, 528, 1144, 1145, 1146, 26, 1147] (by decide +kernel)
theorem okc_20 : ∀ e ∈ e243_20, OkE n_K_law e := okChL 1573 [533, 534, 24, 535, 1149, 1150, 1151, 26, 1152] (by decide +kernel)
theorem okc_21 : ∀ e ∈ e243_21, OkE n_K_law e := okChL 1641 [842, 843, 24, 844, 1190, 1191, 1192, 26, 1193] (by decide +kernel)
theorem okc_22 : ∀ e ∈ e243_22, OkE n_K_law e := okChL 1709 [849, 850, 24, 851, 1194, 1195, 1196, 26, 1197] (by decide +kernel)
theorem okc_23 : ∀ e ∈ e243_23, OkE n_K_law e := okChL 1765 [859, 860, 24, 861, 1198, 1199, 1200, 26, 1201] (by decide +kernel)
theorem okc_24 : ∀ e ∈ e243_24, OkE n_K_law e := okChL 1833 [863, 864, 24, 865, 1210, 1211, 1212, 26, 1213] (by decide +kernel)
theorem okc_25 : ∀ e ∈ e243_25, OkE n_K_law e := okChL 1901 [874, 875, 24, 876, 1214, 1215, 1216, 26, 1217] (by decide +kernel)
theorem okc_26 : ∀ e ∈ e243_26, OkE n_K_law e := okChL 1969 [881, 882, 24, 883, 1218, 1219, 1220, 26, 1221] (by decide +kernel)
theorem okc_27 : ∀ e ∈ e243_27, OkE n_K_law e := okChL 2009 [893, 894, 24, 895, 1229, 1230, 1231, 26, 1232] (by decide +kernel)
theorem okc_28 : ∀ e ∈ e243_28, OkE n_K_law e := okChL 2089 [900, 901, 24, 902, 1233, 1234, 1235, 26, 1236] (by decide +kernel)
theorem okc_29 : ∀ e ∈ e243_29, OkE n_K_law e := okChL 2169 [907, 908, 24, 909, 1237, 1238, 1239, 26, 1240] (by decide +kernel)
theorem okc_30 : ∀ e ∈ e243_30, OkE n_K_law e := okChL 2249 [914, 915, 24, 916, 1241, 1242, 1243, 26, 1244] (by decide +kernel)
theorem okc_31 : ∀ e ∈ e243_31, OkE n_K_law e := okChL 2301 [921, 922, 24, 923, 1245, 1246, 1247, 26, 1248] (by decide +kernel)
theorem okc_32 : ∀ e ∈ e243_32, OkE n_K_law e := okChL 2353 [932, 933, 24, 934, 1249, 1250, 1251, 26, 1252] (by decide +kernel)
theorem okc_33 : ∀ e ∈ e243_33, OkE n_K_law e := okChL 2393 [940, 941, 24, 942, 1264, 1265, 1266, 26, 1267] (by decide +kernel)
theorem okc_34 : ∀ e ∈ e243_34, OkE n_K_law e := okChL 2433 [944, 945, 24, 946, 1268, 1269, 1270, 26, 1271] (by decide +kernel)
theorem okc_35 : ∀ e ∈ e243_35, OkE n_K_law e := okChL 2473 [951, 952, 24, 953, 1272, 1273, 1274, 26, 1275] (by decide +kernel)
theorem okc_36 : ∀ e ∈ e243_36, OkE n_K_law e := okChL 2501 [963, 964, 24, 965, 1279, 1280, 1281, 26, 1282] (by decide +kernel)
theorem okc_37 : ∀ e ∈ e243_37, OkE n_K_law e := okChL 2581 [970, 971, 24, 972, 1283, 1284, 1285, 26, 1286] (by decide +kernel)
theorem okc_38 : ∀ e ∈ e243_38, OkE n_K_law e := okChL 2657 [979, 980, 24, 981, 1287, 1288, 1289, 26, 1290] (by decide +kernel)
theorem okc_39 : ∀ e ∈ e243_39, OkE n_K_law e := okChL 2725 [988, 989, 24, 990, 1291, 1292, 1293, 26, 1294] (by decide +kernel)
theorem okc_40 : ∀ e ∈ e243_40, OkE n_K_law e := okChL 2753 [79, 80, 81, 25, 82, 1299, 1300, 1301, 26, 1302] (by decide +kernel)
theorem okc_41 : ∀ e ∈ e243_41, OkE n_K_law e := okChL 2766 [83, 84, 85, 25, 86, 1303, 1304, 1305, 26, 1306] (by decide +kernel)
theorem okc_42 : ∀ e ∈ e243_42, OkE n_K_law e := okChL 2779 [284, 285, 286, 25, 287, 1307, 1308, 1309, 26, 1310] (by decide +kernel)
theorem okc_43 : ∀ e ∈ e243_43, OkE n_K_law e := okChL 2792 [] (by decide +kernel)
theorem ok_K_law : AllOk n_K_law := ⟨List.forall_mem_cons.mpr ⟨okc_0, List.forall_mem_cons.mpr ⟨okc_1, List.forall_mem_cons.mpr ⟨okc_2, List.forall_mem_cons.mpr ⟨okc_3, List.forall_mem_cons.mpr ⟨okc_4, List.forall_mem_cons.mpr ⟨okc_5, List.forall_mem_cons.mpr ⟨okc_6, List.forall_mem_cons.mpr ⟨okc_7, List.forall_mem_cons.mpr ⟨okc_8, List.forall_mem_cons.mpr ⟨okc_9, List.forall_mem_cons.mpr ⟨okc_10, List.forall_mem_cons.mpr ⟨okc_11, List.forall_mem_cons.mpr ⟨okc_12, List.forall_mem_cons.mpr ⟨okc_13, List.forall_mem_cons.mpr ⟨okc_14, List.forall_mem_cons.mpr ⟨okc_15, List.forall_mem_cons.mpr ⟨okc_16, List.forall_mem_cons.mpr ⟨okc_17, List.forall_mem_cons.mpr ⟨okc_18, List.forall_mem_cons.mpr ⟨okc_19, List.forall_mem_cons.mpr ⟨okc_20, List.forall_mem_cons.mpr ⟨okc_21, List.forall_mem_cons.mpr ⟨okc_22, List.forall_mem_cons.mpr ⟨okc_23, List.forall_mem_cons.mpr ⟨okc_24, List.forall_mem_cons.mpr ⟨okc_25, List.forall_mem_cons.mpr ⟨okc_26, List.forall_mem_cons.mpr ⟨okc_27, List.forall_mem_cons.mpr ⟨okc_28, List.forall_mem_cons.mpr ⟨okc_29, List.forall_mem_cons.mpr ⟨okc_30, List.forall_mem_cons.mpr ⟨okc_31, List.forall_mem_cons.mpr ⟨okc_32, List.forall_mem_cons.mpr ⟨okc_33, List.forall_mem_cons.mpr ⟨okc_34, List.forall_mem_cons.mpr ⟨okc_35, List.forall_mem_cons.mpr ⟨okc_36, List.forall_mem_cons.mpr ⟨okc_37, List.forall_mem_cons.mpr ⟨okc_38, List.forall_mem_cons.mpr ⟨okc_39, List.forall_mem_cons.mpr ⟨okc_40, List.forall_mem_cons.mpr ⟨okc_41, List.forall_mem_cons.mpr ⟨okc_42, List.forall_mem_cons.mpr ⟨okc_43, fun _ h => nomatch h⟩⟩⟩⟩⟩⟩⟩⟩⟩⟩⟩⟩⟩⟩⟩⟩⟩⟩⟩⟩⟩⟩⟩⟩⟩⟩⟩⟩⟩⟩⟩⟩⟩⟩⟩⟩⟩⟩⟩⟩⟩⟩⟩⟩, by decide +kernel⟩
end
