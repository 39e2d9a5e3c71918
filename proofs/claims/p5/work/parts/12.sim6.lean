/-! steps: calls -/
section SIM6
variable {P : GP} {a : Nat} {K : Kt} {d : Nat}
variable {k : Ct} {es : List Ent} {pc n x y z : Nat} {fl : Bool} {L : mLs} {st : List Value} {h : mH} {cb sb : Nat}
theorem Env_step {s U : State} {H : Heap} {locs : List Loc} (h : Env P s) (hW : s.WarmedH U.vm) (hS : va_S (gF P) s.heap H locs) (hU : U.heap = H) : Env P U := by
  obtain ⟨h1, h2, h3, h4, h5, h6, h7, h8, h9, h10, h11, h12, ⟨h13, h14⟩, ⟨h15, h16⟩, ⟨h17, h18⟩, h19, h20⟩ := h
  subst hU
  refine ⟨va_K.moved hW.alike h1, Nat.le_trans h2 hS.1, va_X.moved hW.alike (h3.kept (hS.2.1 _ (Nat.lt_of_lt_of_le h4 h2) (Nat.not_le.mpr h4))), h4, fun w hw => ?_, fun w hw => ?_, vx_Zq.moved hW.alike (h7.kept hS.2.1), vx_Zq.moved hW.alike (h8.kept hS.2.1),
    fun q hq => ?_, fun i q hq => vk_R.warm hW (h10 i q hq), vk_S.moved hW.alike (h11.kept hS.2.1), va_Z.moved hW.alike (h12.kept hS.2.1), ⟨va_Z.moved hW.alike (h13.kept hS.2.1), va_T.moved hW.alike (h14.kept hS.2.1)⟩, ⟨va_Z.moved hW.alike (h15.kept hS.2.1), va_T.moved hW.alike (h16.kept hS.2.1)⟩, ⟨va_Nc.moved hW.alike h17, va_Nc.moved hW.alike h18⟩, h19, over_moved hW.alike h20⟩
  · have hf := (List.mem_filter.mp hw).2
    simp only [Bool.and_eq_true] at hf
    have e := Cond.before_shiftedFace (State.Shifted.of_warmed hW) w hf.2 (h5 w hw)
    exact va_tabs hf.1 (rfl : (s.setVm U.vm).vm = U.vm) e
  · have hf := (List.mem_filter.mp hw).2
    have hb := h6 w hw
    cases w <;> first | exact va_Nw.warmF hW hb | exact va_Nw.warmM hW hb | (simp [isNest] at hf; done)
  · obtain ⟨sa, hs⟩ := h9 q hq
    exact ⟨sa, vk_R.warm hW hs⟩
theorem Env_same {u U : State} (h : Env P u) (hv : U.vm = u.vm) (hh : U.heap = u.heap) : Env P U :=
  Env_step (H := u.heap) (locs := []) h (by rw [hv]; exact State.WarmedH.refl u) va_S.rf hh
theorem Pc_blind (as : List Value) (h : mH) : FrameBlind (PcK P as h) := fun a U g mk q => ⟨q.1, Env_same q.2.1 rfl rfl, q.2.2⟩
theorem catE_mem : ∀ {l : List (Nat × Nat)} {i E : Nat}, catE l i = some E → (i, E) ∈ l
  | [], i, E, h => by simp [catE] at h
  | q :: r, i, E, h => by
    unfold catE at h
    split at h
    · rename_i hb
      have := Nat.eq_of_beq_eq_true hb
      cases h
      rw [← this]
      exact List.mem_cons_self
    · exact List.mem_cons_of_mem _ (catE_mem h)
theorem exW : ∀ q ∈ kC, q.1 ≠ 0 ∧ (.classLink rc_K q.1 (exN q.2) : Jvm.Cond) ∈ TB := by
  have h : ∀ q ∈ kC, q.1 ≠ 0 ∧ ((.classLink rc_K q.1 (exN q.2) : Jvm.Cond) ∈ lT ∧ okK 0 (.classLink rc_K q.1 (exN q.2)) = true) := by decide +kernel
  exact fun q hq => ⟨(h q hq).1, TB_in (h q hq).2⟩
theorem exC : ∀ E, E < 2 → (.castable (exN E) (exN E) : Jvm.Cond) ∈ WF := by
  have h : ∀ E, E < 2 → ((.castable (exN E) (exN E) : Jvm.Cond) ∈ lT ∧ okK 2 (.castable (exN E) (exN E)) = true) := by decide +kernel
  exact fun E hE => List.mem_filter.mpr ⟨(h E hE).1, (h E hE).2⟩
/-- an entry of a table that does not take what is thrown -/
def exPass (pc E : Nat) (x : Nat × Nat × Nat × Nat) : Prop := ¬ (x.1 ≤ pc ∧ pc < x.2.1) ∨ ∃ E2, catE kC x.2.2.2 = some E2 ∧ E2 ≠ E
theorem findH_none {pc E : Nat} : ∀ {l : List (Nat × Nat × Nat × Nat)}, findH l pc E = none → ∀ x ∈ l, exPass pc E x
  | [], _, x, hx => nomatch hx
  | y :: r, h, x, hx => by
    unfold findH at h
    split at h
    · split at h
      · rename_i E2 hc
        split at h
        · cases h
        · rename_i hne
          rcases List.mem_cons.mp hx with rfl | hx
          · exact Or.inr ⟨E2, hc, fun e => by subst e; rw [Nat.beq_refl] at hne; cases hne⟩
          · exact findH_none h x hx
      · cases h
    · rename_i hb
      rcases List.mem_cons.mp hx with rfl | hx
      · refine Or.inl fun q => ?_
        rw [Nat.ble_eq_true_of_le q.1, show Nat.blt pc x.2.1 = true from Nat.ble_eq_true_of_le q.2] at hb
        cases hb
      · exact findH_none h x hx
theorem findH_some {pc E t : Nat} : ∀ {l : List (Nat × Nat × Nat × Nat)}, findH l pc E = some t → ∃ pre x suf, l = pre ++ x :: suf ∧ (∀ y ∈ pre, exPass pc E y) ∧ (x.1 ≤ pc ∧ pc < x.2.1) ∧ ((catE kC x.2.2.2 = some E ∧ t = x.2.2.1) ∨ catE kC x.2.2.2 = none)
  | [], h => by simp [findH] at h
  | y :: r, h => by
    unfold findH at h
    split at h
    · rename_i hb
      simp only [Bool.and_eq_true] at hb
      have hb2 : y.1 ≤ pc ∧ pc < y.2.1 := ⟨Nat.le_of_ble_eq_true hb.1, Nat.le_of_ble_eq_true hb.2⟩
      split at h
      · rename_i E2 hc
        split at h
        · rename_i he
          have := Nat.eq_of_beq_eq_true he
          subst this
          cases h
          exact ⟨[], y, r, rfl, (fun _ h => nomatch h), hb2, Or.inl ⟨hc, rfl⟩⟩
        · rename_i hne
          obtain ⟨pre, x, suf, e1, e2, e3⟩ := findH_some h
          refine ⟨y :: pre, x, suf, by rw [e1]; rfl, fun w hw => ?_, e3⟩
          rcases List.mem_cons.mp hw with rfl | hw
          · exact Or.inr ⟨E2, hc, fun e => by subst e; rw [Nat.beq_refl] at hne; cases hne⟩
          · exact e2 w hw
      · exact ⟨[], y, r, rfl, (fun _ h => nomatch h), hb2, Or.inr (by assumption)⟩
    · rename_i hb
      obtain ⟨pre, x, suf, e1, e2, e3⟩ := findH_some h
      refine ⟨y :: pre, x, suf, by rw [e1]; rfl, fun w hw => ?_, e3⟩
      rcases List.mem_cons.mp hw with rfl | hw
      · refine Or.inl fun q => ?_
        rw [Nat.ble_eq_true_of_le q.1, show Nat.blt pc w.2.1 = true from Nat.ble_eq_true_of_le q.2] at hb
        cases hb
      · exact e2 w hw
theorem exCat {x : Nat × Nat × Nat × Nat} (hA : AllOk a) (hx : x ∈ mEx a) : mOwn a = rc_K ∧ ∃ E, catE kC x.2.2.2 = some E ∧ E < 2 := by
  have hA2 := hA.2
  unfold exOkB at hA2
  rw [Bool.and_eq_true] at hA2
  have := List.all_eq_true.mp hA2.2 x hx
  simp only [Bool.and_eq_true, decide_eq_true_eq] at this
  obtain ⟨h1, h2⟩ := this
  split at h2
  · exact ⟨h1, _, by assumption, Nat.le_of_ble_eq_true h2⟩
  · cases h2
theorem exNc {s : State} (hE : Env P s) : ∀ E E2, E < 2 → E2 < 2 → E2 ≠ E → va_Nc (exN E) (exN E2) s
  | 0, 0, _, _, h => absurd rfl h
  | 0, 1, _, _, _ => hE.2.2.2.2.2.2.2.2.2.2.2.2.2.2.1.2
  | 1, 0, _, _, _ => hE.2.2.2.2.2.2.2.2.2.2.2.2.2.2.1.1
  | 1, 1, _, _, h => absurd rfl h
  | _ + 2, _, h, _, _ => absurd h (by omega)
  | _, _ + 2, _, h, _ => absurd h (by omega)
theorem exPassV {p : Program} {R : Room} {s : State} {m : MethodId} {args : Array Value} {meth : Method} {c : Code} (F : Fx P a d p R s m args meth c) (hA : AllOk a) {pc E : Nat} (hE2 : E < 2) {x : Nat × Nat × Nat × Nat} (hx : x ∈ mEx a) (h : exPass pc E x) :
    covers ⟨x.1, x.2.1, x.2.2.1, x.2.2.2⟩ pc = false ∨ (x.2.2.2 ≠ 0 ∧ ∃ nm : String, (Cond.classLink (mOwn a) x.2.2.2 nm).before args s = true ∧ va_Nc (exN E) nm s) := by
  rcases h with h | ⟨E2, h1, h2⟩
  · left
    show (decide (x.1 ≤ pc) && decide (pc < x.2.1)) = false
    by_cases c1 : x.1 ≤ pc
    · by_cases c2 : pc < x.2.1
      · exact absurd ⟨c1, c2⟩ h
      · simp [c2]
    · simp [c1]
  · right
    obtain ⟨ho, E3, h3, h4⟩ := exCat hA hx
    rw [h1] at h3
    cases h3
    have hw := exW _ (catE_mem h1)
    refine ⟨hw.1, exN E2, ?_, exNc F.2.2.2.2.2.2.1 E E2 hE2 h4 h2⟩
    rw [ho]
    exact F.2.2.2.2.2.1 _ hw.2
theorem thr_go {p : Program} {e : Jvm.Env} {R : Room} {s : State} {m : MethodId} {args : Array Value} {below : List Frame} {meth : Method} {c : Code} {H : Heap} {locs : List Loc} {cells slots : Nat} {ls : Array Slot} {E : Nat} {q9 : Addr} {ce : Cell} {rest : List Value}
    (hk : Goes1 P a K d k) (hA : AllOk a) (F : Fx P a d p R s m args meth c) (Y : Dy P R s H locs cells slots h cb sb) (V : LV P ls (mMax a) L) (hE2 : E < 2) (q : thr P a K d k pc L h cb sb E) (hcell : H[q9]? = some ce) (hv : ce.vm = .none) (hcl : s.vm.findClass (exN E) = some ce.cls) :
    vx_W p (gl P) e R s m args below meth c H locs cells slots (vx_MQ below (QcK P K) (XcK P K) args s R.cells R.slots (gF P)) (F0 m pc ls rest) q9 := by
  obtain ⟨hx, hb, hml, hr, hown, hts, hE, hlocks, -, htab, -⟩ := id F
  unfold thr at q
  split at q
  · rename_i hf
    refine vx_outP hown hlocks (fun z hz => ?_) hcell hv hcl (fun t ht _ => ⟨E, h, ⟨hE2, rfl⟩, q, by rw [ht]; exact Y.2.2.2, Y.2.2.1.F ht⟩) (fun z hz => Y.2.2.1.2.2 z hz) (Nat.le_trans (Nat.le_add_right _ _) Y.1) (Nat.le_trans (Nat.le_add_right _ _) Y.2.1)
    rw [htab] at hz
    obtain ⟨x, hx9, rfl⟩ := List.mem_map.mp hz
    exact exPassV F hA hE2 hx9 (findH_none hf x hx9)
  · rename_i t hf
    obtain ⟨pre, x, suf, e1, e2, e3, e4⟩ := findH_some hf
    have hx9 : x ∈ mEx a := by rw [e1]; exact List.mem_append_right _ List.mem_cons_self
    obtain ⟨ho, E3, h3, h4⟩ := exCat hA hx9
    rcases e4 with ⟨h5, rfl⟩ | h5
    · have hw := exW _ (catE_mem h5)
      refine vx_catch hown (pre.map fun q => ⟨q.1, q.2.1, q.2.2.1, q.2.2.2⟩) ⟨x.1, x.2.1, x.2.2.1, x.2.2.2⟩ (suf.map fun q => ⟨q.1, q.2.1, q.2.2.1, q.2.2.2⟩) (name := exN E) (by rw [htab, e1]; show List.map _ _ = _; rw [List.map_append, List.map_cons]) (fun z hz => ?_) ?_ hw.1 ?_ (va_Nw.use rfl (hE.2.2.2.2.1 _ (exC E hE2))) hcell hv hcl ?_
      · obtain ⟨w, hw9, rfl⟩ := List.mem_map.mp hz
        exact exPassV F hA hE2 (by rw [e1]; exact List.mem_append_left _ hw9) (e2 w hw9)
      · show (decide (x.1 ≤ pc) && decide (pc < x.2.1)) = true
        simp [e3.1, e3.2]
      · rw [ho]
        exact hts _ hw.2
      · show W _ _ _ _ _ _ _ _ _ _ _ _ _ _ _ (F0 m x.2.2.1 ls [.ref q9])
        split at q
        · rename_i e9 cs hs
          have hpc := seekC_hd _ _ _ _ hs
          have hcs : IsE a (e9 :: cs) := by rw [← hs]; exact isE_seek hA _
          obtain ⟨pc9, i9, n9, x9, y9, z9, f9⟩ := e9
          dsimp only at hpc
          subst hpc
          obtain ⟨hd, hl, -⟩ := dec_of (hcs _ List.mem_cons_self)
          have ho2 : IsE a cs := fun e he => hcs e (List.mem_cons_of_mem _ he)
          dsimp only at q
          split at q
          · obtain ⟨L2, qq, h2, hlt, h4⟩ := set1_of _ _ _ _ q
            unfold lnk at hl
            simp only [Bool.and_eq_true] at hl
            have hn := Nat.eq_of_beq_eq_true hl.1
            subst hn
            have hj := Nat.eq_of_beq_eq_true hl.2
            subst hj
            exact lv_astore hx hb hd V.1 (Nat.lt_of_lt_of_le hlt V.2) rfl (fun ls' hl' => nxt_go hk ho2 qq p e R s m args below meth c H locs cells slots _ F Y (LV_set1 V h2 h4 (fun w hw => by cases hw) hl'))
          · obtain ⟨L2, qq, h2, hlt, h4⟩ := set1_of _ _ _ _ q
            unfold lnk at hl
            simp only [Bool.and_eq_true] at hl
            have hn := Nat.eq_of_beq_eq_true hl.1
            subst hn
            have hj := Nat.eq_of_beq_eq_true hl.2
            exact lv_astore_n hx hb hd hj V.1 (Nat.lt_of_lt_of_le hlt V.2) rfl (fun ls' hl' => nxt_go hk ho2 qq p e R s m args below meth c H locs cells slots _ F Y (LV_set1 V h2 h4 (fun w hw => by cases hw) hl'))
          · exact q.elim
        · exact q.elim
    · rw [h3] at h5
      cases h5
/-- what comes back from a call -/
def retK (P : GP) (a : Nat) (K : Kt) (d : Nat) (k : Ct) (pc n : Nat) (cs : List Ent) (L : mLs) (cb sb mc ms : Nat) (r : List Value) : Kt := fun res h' => match res with
  | .inl v => match v with
    | some w => nxt P a K d k (pc + n) cs L (w :: r) h' (cb - mc) (sb - ms)
    | none => nxt P a K d k (pc + n) cs L r h' (cb - mc) (sb - ms)
  | .inr E => thr P a K d k pc L h' (cb - mc) (sb - ms) E
theorem call_go {p : Program} {e : Jvm.Env} {R : Room} {s : State} {m : MethodId} {args : Array Value} {below : List Frame} {meth : Method} {c : Code} {H : Heap} {locs : List Loc} {cells slots : Nat} {ls : Array Slot} {mc ms : Nat} {r : List Value} {st0 : List Value} {av : Array Value}
    (hk : Goes1 P a K d k) (hA : AllOk a) (ho : IsE a es) (F : Fx P a d p R s m args meth c) (Y : Dy P R s H locs cells slots h cb sb) (V : LV P ls (mMax a) L) (hmc : mc ≤ cb) (hms : ms ≤ sb)
    (hr : vx_Run p (gl P) e R s m args below meth c H locs cells slots mc ms (F0 m pc ls st0) (r.map (mV P)) (QcK P (retK P a K d k pc 3 es L cb sb mc ms r) av) (XcK P (retK P a K d k pc 3 es L cb sb mc ms r)) (gF P)) :
    W p (gl P) e R s m args below meth c H locs cells slots (vx_MQ below (QcK P K) (XcK P K) args s R.cells R.slots (gF P)) (F0 m pc ls st0) := by
  obtain ⟨hY1, hY2, hS, hWd⟩ := id Y
  intro T hT X
  rcases hr T hT X with ⟨v, st₀, t, T', Lc, h0, X', hL, e1, e2, ⟨v9, h9, ho9, hk9, hw9, hF⟩, stp⟩ | ⟨q, st₀, t, T', Lc, E, ce, h0, X', hL, e1, e2, ⟨k9, h9, ⟨hk2, rfl⟩, hk9, hw9, hF⟩, hce, hcv, hcl, stp⟩
  · obtain ⟨k1, k2, k3⟩ := vx_keep h0 e1 hS (fun q _ h => h) (fun q h => h) hL hF
    have Y' : Dy P R s T'.heap (locs ++ Lc) (cells + mc) (slots + ms) h9 (cb - mc) (sb - ms) := ⟨by omega, by omega, k3, by rw [e1]; exact hw9⟩
    cases v9 with
    | none =>
      cases ho9
      obtain ⟨t2, a1, b1⟩ := nxt_go hk ho hk9 p e R s m args below meth c T'.heap (locs ++ Lc) (cells + mc) (slots + ms) ls F Y' V T' rfl X'
      exact ⟨t2, stp t2 a1, b1⟩
    | some w =>
      cases ho9
      obtain ⟨t2, a1, b1⟩ := nxt_go hk ho hk9 p e R s m args below meth c T'.heap (locs ++ Lc) (cells + mc) (slots + ms) ls F Y' V T' rfl X'
      exact ⟨t2, stp t2 a1, b1⟩
  · obtain ⟨k1, k2, k3⟩ := vx_keep h0 e1 hS (fun q _ h => h) (fun q h => h) hL hF
    have Y' : Dy P R s T'.heap (locs ++ Lc) (cells + mc) (slots + ms) h9 (cb - mc) (sb - ms) := ⟨by omega, by omega, k3, by rw [e1]; exact hw9⟩
    obtain ⟨t2, a1, b1⟩ := thr_go (e := e) (below := below) (rest := r.map (mV P)) hk hA F Y' V hk2 hk9 (by rw [e1]; exact hce) hcv hcl T' rfl X'
    exact ⟨t2, stp.trans a1, b1⟩
theorem popN_of {f : List Value → List Value → Prop} : ∀ (n : Nat) (st acc : List Value), popN n st acc f → ∃ vs r, st = vs ++ r ∧ vs.length = n ∧ f (vs.reverse ++ acc) r
  | 0, st, acc, h => ⟨[], st, rfl, rfl, h⟩
  | n + 1, [], acc, h => h.elim
  | n + 1, v :: st, acc, h => by
    obtain ⟨vs, r, h1, h2, h3⟩ := popN_of n st (v :: acc) h
    refine ⟨v :: vs, r, by rw [h1]; rfl, by simp [h2], ?_⟩
    rw [List.reverse_cons, List.append_assoc]
    exact h3
theorem good_WS {x : Nat} (h : headw x ∈ TB) : GoodIn TB (WS x) := fun w hw => by
  have hm : w ∈ TB := (List.mem_cons.mp hw).elim (fun e => by rw [e]; exact h) (fun h => h)
  exact ⟨hm, good_of_word (TB_good hm)⟩
theorem good_l {ws : List Jvm.Cond} (h : ∀ w ∈ ws, w ∈ TB) : GoodIn TB ws := fun w hw => ⟨h w hw, good_of_word (TB_good (h w hw))⟩
theorem WS_code {x : Nat} (h : mEx x = []) : WS x = Cond.code (mY x) (mCode x) (mMax x) (mRet x) :: TB := by
  unfold WS headw
  rw [h]
theorem WS_codeW {x : Nat} (h : mEx x ≠ []) : WS x = Cond.codeWith (mY x) (mCode x) (mMax x) (mRet x) (mEx x) :: TB := by
  unfold WS headw
  split
  · rename_i he
    exact absurd he h
  · rename_i he
    rw [he]
theorem lnS_of {x y : Nat} (h : lnS x y = true) : ((mY x).cls ≠ "java/lang/invoke/MethodHandle" ∧ (mY x).cls ≠ "java/lang/invoke/VarHandle" ∧ (parseMethodDescriptor (mY x).desc).map (fun d => d.parameters.length) = some y) ∧ mMax x ≤ 81 := by
  unfold lnS at h
  simp only [Bool.and_eq_true, decide_eq_true_eq] at h
  exact ⟨h.1, Nat.le_of_ble_eq_true h.2⟩
theorem cal_of {n x : Nat} {as r : List Value} (q : cal P a K d k pc n es L h cb sb x as r) : catS r ≤ 8 ∧ ∃ mc ms d' : Nat, M P x as h mc ms d' (retK P a K d k pc n es L cb sb mc ms r) ∧ mc ≤ cb ∧ ms ≤ sb ∧ d' + 1 ≤ d := by
  unfold cal at q
  split at q
  · exact ⟨Nat.le_of_ble_eq_true (by assumption), q⟩
  · exact q.elim
theorem cat_room {ls : Array Slot} {m : MethodId} {r stv : List Value} (hc : catS r ≤ 8) : 2 * (F0 m pc ls stv).monitorRoom + ((r.map (mV P)).map fun v => v.category).sum ≤ 8 := by
  rw [catS_map]
  show 2 * 0 + _ ≤ 8
  omega
theorem pre_S {p : Program} {R : Room} {s : State} {m : MethodId} {args : Array Value} {meth : Method} {c : Code} {H : Heap} {locs : List Loc} {cells slots : Nat} (F : Fx P a d p R s m args meth c) (Y : Dy P R s H locs cells slots h cb sb) (as : List Value) : PreS s H (PcK P as h) (as.map (mV P)) :=
  ⟨Pc_blind as h, fun U hU hW => ⟨rfl, Env_step F.2.2.2.2.2.2.1 hW Y.2.2.1 hU, by rw [hU]; exact Y.2.2.2⟩⟩
theorem s_invokestatic {ix : Nat} (hk : Goes1 P a K d k) (hA : AllOk a) (o : OkE a (pc, .invokestatic ix, n, x, y, z, fl)) (ho : IsE a es) (q : stepI P a K d k (pc, .invokestatic ix, n, x, y, z, fl) es L st h cb sb) : G P a K d pc L st h cb sb := by
  obtain ⟨hd, hl, hw⟩ := dec_of o
  unfold lnk at hl
  simp only [Bool.and_eq_true] at hl
  have hn : n = 3 := Nat.eq_of_beq_eq_true hl.1
  subst hn
  have hl := hl.2
  have hz : (z = 0 ∨ z = 8) ∧ popN y st [] fun as r => cal P a K d k pc 3 es L h cb sb x as r := by
    unfold stepI at q
    dsimp only at q
    split at q
    · exact ⟨Or.inl rfl, q⟩
    · exact ⟨Or.inr rfl, q⟩
    · exact q.elim
  obtain ⟨hz, q1⟩ := hz
  obtain ⟨vs, r, rfl, hlen, q2⟩ := popN_of _ _ _ q1
  rw [List.append_nil] at q2
  obtain ⟨hc8, mc, ms, d', hM, hmc, hms, hd'⟩ := cal_of q2
  refine G_of fun p e R s m args below meth c H locs cells slots ls F Y V hx hb => ?_
  obtain ⟨-, -, hml, hr, hown, hts, hE, hlocks, -, htab, hfr, hlo⟩ := id F
  obtain ⟨hY1, hY2, hS, hWd⟩ := id Y
  have hst : (F0 m pc ls ((vs ++ r).map (mV P))).stack = (vs.reverse.map (mV P)).reverse ++ r.map (mV P) := by
    show (vs ++ r).map (mV P) = _
    rw [List.map_append, List.map_reverse, List.reverse_reverse]
  have hnl : (vs.reverse.map (mV P)).length = y := by rw [List.length_map, List.length_reverse]; exact hlen
  refine call_go (av := (vs.reverse.map (mV P)).toArray) (r := r) hk hA ho F Y V hmc hms ?_
  rcases hz with rfl | rfl
  · have hl : (lnS x y && decide (mEx x = [])) = true := hl
    simp only [Bool.and_eq_true, decide_eq_true_eq] at hl
    obtain ⟨hl1, hl2⟩ := hl
    obtain ⟨hl3, hl4⟩ := lnS_of hl1
    have w0 := TB_in (hw (0, .methodLink (mOwn a) ix (mY x)) (by simp [lnW]))
    have w1 := TB_in (hw (0, .static (mY x)) (by simp [lnW]))
    have w2 := TB_in (hw (0, .initialized (mY x).cls) (by simp [lnW]))
    have w3 := TB_in (hw (0, headw x) (by simp [lnW]))
    exact vx_runS ⟨hx, hb, hml, hown, hts⟩ hM (va_cwS y hts (good_l (fun w hw => by
        rcases List.mem_append.mp hw with h | h
        · simp only [List.mem_cons, List.not_mem_nil, or_false] at h
          rcases h with rfl | rfl | rfl
          · exact w0
          · exact w1
          · exact w2
        · exact (good_WS w3 w h).1)) (WS_code hl2) rfl rfl hl3 ⟨by show d' + 1 ≤ _; omega, by show 8 + (mMax x + 11) + 100 * d' ≤ _; omega⟩) (pre_S F Y _) rfl hnl V.1.1 hst (cat_room hc8) hd ⟨by omega, by omega⟩
  · have hl : (lnS x y && decide (mEx x ≠ [])) = true := hl
    simp only [Bool.and_eq_true, decide_eq_true_eq] at hl
    obtain ⟨hl1, hl2⟩ := hl
    obtain ⟨hl3, hl4⟩ := lnS_of hl1
    have w0 := TB_in (hw (0, .methodLink (mOwn a) ix (mY x)) (by simp [lnW]))
    have w1 := TB_in (hw (0, .static (mY x)) (by simp [lnW]))
    have w2 := TB_in (hw (0, .initialized (mY x).cls) (by simp [lnW]))
    have w3 := TB_in (hw (0, headw x) (by simp [lnW]))
    exact vx_runSX ⟨hx, hb, hml, hown, hts⟩ hM (vx_cwSW y hts (good_l (fun w hw => by
        rcases List.mem_append.mp hw with h | h
        · simp only [List.mem_cons, List.not_mem_nil, or_false] at h
          rcases h with rfl | rfl | rfl
          · exact w0
          · exact w1
          · exact w2
        · exact (good_WS w3 w h).1)) (WS_codeW hl2) rfl rfl hl3 ⟨by show d' + 1 ≤ _; omega, by show 8 + (mMax x + 11) + 100 * d' ≤ _; omega⟩) (pre_S F Y _) rfl hnl V.1.1 hst (cat_room hc8) hd ⟨by omega, by omega⟩
theorem vs_of {vs as' : List Value} {w : Value} (h : vs.reverse = w :: as') : vs = as'.reverse ++ [w] := by
  rw [← List.reverse_reverse vs, h, List.reverse_cons]
theorem recv_heap {p : Program} {R : Room} {s : State} {m : MethodId} {args : Array Value} {meth : Method} {c : Code} {H : Heap} {locs : List Loc} {cells slots : Nat} (F : Fx P a d p R s m args meth c) (Y : Dy P R s H locs cells slots h cb sb) {i ci : Nat} {fs : List Value} (hi : nth h i = some (.inr (ci, fs))) (hc : ci < 5) :
    ∃ cell : Cell, H[gN P + i]? = some cell ∧ cell.vm.isStatics = false ∧ s.vm.findClass (mCn ci) = some cell.cls :=
  va_recv (ws := [(gN P + i, .inr (ci, fs.map (mV P)))]) (q0 := 0) (Env_K F.2.2.2.2.2.2.1) (one_P (wd_at Y.2.2.2 hi hc)) (mCl_at ci hc) rfl
theorem recv_any {p : Program} {R : Room} {s : State} {m : MethodId} {args : Array Value} {meth : Method} {c : Code} {H : Heap} {locs : List Loc} {cells slots : Nat} (F : Fx P a d p R s m args meth c) (Y : Dy P R s H locs cells slots h cb sb) {w : Value} {ci : Nat}
    (hw : (∃ i fs, w = .ref i ∧ nth h i = some (.inr (ci, fs)) ∧ ci < 5) ∨ (∃ c9, w = .retAddr c9 ∧ ci = 0 ∧ 10 ≤ c9 ∧ c9 < 13)) :
    ∃ b : Nat, mV P w = .ref b ∧ ∃ cell : Cell, H[b]? = some cell ∧ cell.vm.isStatics = false ∧ s.vm.findClass (mCn ci) = some cell.cls := by
  rcases hw with ⟨i, fs, rfl, hi, hc⟩ | ⟨c9, rfl, rfl, h1, h2⟩
  · exact ⟨_, rfl, recv_heap F Y hi hc⟩
  · refine ⟨_, rfl, ?_⟩
    have := vk_recv F.2.2.2.2.2.2.1.2.2.2.2.2.2.2.2.2.2.1 (i := c9 - 10) (by omega) Y.2.2.1
    rw [show 10 + (c9 - 10) = c9 by omega] at this
    exact this
theorem pre_V {p : Program} {R : Room} {s : State} {m : MethodId} {args : Array Value} {meth : Method} {c : Code} {H : Heap} {locs : List Loc} {cells slots : Nat} (F : Fx P a d p R s m args meth c) (Y : Dy P R s H locs cells slots h cb sb) {w : Value} {b ci : Nat} (as : List Value) (hb : mV P w = .ref b) (hr : ∃ cell : Cell, H[b]? = some cell ∧ cell.vm.isStatics = false ∧ s.vm.findClass (mCn ci) = some cell.cls) : PreV s H (mCn ci) b (PcK P (w :: as) h) (as.map (mV P)) :=
  ⟨Pc_blind _ h, hr, fun U hU hW => ⟨by rw [List.map_cons, hb], Env_step F.2.2.2.2.2.2.1 hW Y.2.2.1 hU, by rw [hU]; exact Y.2.2.2⟩⟩
theorem s_invokevirtual {ix : Nat} (hk : Goes1 P a K d k) (hA : AllOk a) (o : OkE a (pc, .invokevirtual ix, n, x, y, z, fl)) (ho : IsE a es) (q : stepI P a K d k (pc, .invokevirtual ix, n, x, y, z, fl) es L st h cb sb) : G P a K d pc L st h cb sb := by
  obtain ⟨hd, hl, hw⟩ := dec_of o
  unfold lnk at hl
  simp only [Bool.and_eq_true] at hl
  have hn : n = 3 := Nat.eq_of_beq_eq_true hl.1
  subst hn
  have hl := hl.2
  have hz : (z / 16 = 1 ∨ z / 16 = 2 ∨ z / 16 = 3) ∧ ∃ vs r w as', st = vs ++ r ∧ vs.length = y + 1 ∧ vs.reverse = w :: as' ∧ ((∃ i fs, w = .ref i ∧ nth h i = some (.inr (z % 16, fs))) ∨ (∃ c9, w = .retAddr c9 ∧ z % 16 = 0 ∧ 10 ≤ c9 ∧ c9 < 13)) ∧ cal P a K d k pc 3 es L h cb sb x (w :: as') r := by
    unfold stepI at q
    dsimp only at q
    split at q
    · rename_i hb
      simp only [Bool.or_eq_true] at hb
      refine ⟨?_, ?_⟩
      · rcases hb with (hb | hb) | hb
        · exact Or.inl (Nat.eq_of_beq_eq_true hb)
        · exact Or.inr (Or.inl (Nat.eq_of_beq_eq_true hb))
        · exact Or.inr (Or.inr (Nat.eq_of_beq_eq_true hb))
      · obtain ⟨vs, r, h1, h2, q2⟩ := popN_of _ _ _ q
        rw [List.append_nil] at q2
        generalize hv : vs.reverse = V9 at q2
        split at q2
        · split at q2
          · split at q2
            · rename_i hb2
              have := Nat.eq_of_beq_eq_true hb2
              subst this
              exact ⟨vs, r, _, _, h1, h2, hv, Or.inl ⟨_, _, rfl, by assumption⟩, q2⟩
            · exact q2.elim
          · exact q2.elim
        · split at q2
          · rename_i hb2
            simp only [Bool.and_eq_true] at hb2
            exact ⟨vs, r, _, _, h1, h2, hv, Or.inr ⟨_, rfl, Nat.eq_of_beq_eq_true hb2.1.1, Nat.le_of_ble_eq_true hb2.1.2, Nat.le_of_ble_eq_true hb2.2⟩, q2⟩
          · exact q2.elim
        · exact q2.elim
    · exact q.elim
  obtain ⟨hz, vs, r, w, as', rfl, hlen, hrev, hrc, q2⟩ := hz
  obtain ⟨hc8, mc, ms, d', hM, hmc, hms, hd'⟩ := cal_of q2
  refine G_of fun p e R s m args below meth c H locs cells slots ls F Y V hx hb => ?_
  obtain ⟨-, -, hml, hr, hown, hts, hE, hlocks, -, htab, hfr, hlo⟩ := id F
  obtain ⟨hY1, hY2, hS, hWd⟩ := id Y
  have hvs := vs_of hrev
  have hal : as'.length = y := by
    have := congrArg List.length hvs
    simp only [List.length_append, List.length_reverse, List.length_singleton] at this
    omega
  have hz5 : z % 16 < 5 := by
    rcases hz with hz | hz | hz <;> (rw [hz] at hl; simp only [Bool.and_eq_true] at hl)
    · exact Nat.le_of_ble_eq_true hl.2
    · exact Nat.le_of_ble_eq_true hl.2
    · exact Nat.le_of_ble_eq_true hl.1.1.2
  have hrc2 : (∃ i fs, w = .ref i ∧ nth h i = some (.inr (z % 16, fs)) ∧ z % 16 < 5) ∨ (∃ c9, w = .retAddr c9 ∧ z % 16 = 0 ∧ 10 ≤ c9 ∧ c9 < 13) := by
    rcases hrc with ⟨i, fs, e1, e2⟩ | h9
    · exact Or.inl ⟨i, fs, e1, e2, hz5⟩
    · exact Or.inr h9
  obtain ⟨b, hbw, hrecv⟩ := recv_any F Y hrc2
  have hst : (F0 m pc ls ((vs ++ r).map (mV P))).stack = (as'.map (mV P)).reverse ++ .ref b :: r.map (mV P) := by
    show (vs ++ r).map (mV P) = _
    rw [hvs, List.map_append, List.map_append, List.map_reverse, List.append_assoc, List.map_cons, hbw]
    rfl
  have hnl : (as'.map (mV P)).length = y := by rw [List.length_map]; exact hal
  have hpV := pre_V F Y as' hbw hrecv
  refine call_go (av := (Value.ref b :: as'.map (mV P)).toArray) (r := r) hk hA ho F Y V hmc hms ?_
  have hroom : ∀ x : Nat, mMax x ≤ 81 → d' + 1 ≤ R.frames ∧ 8 + (mMax x + 11) + 100 * d' ≤ R.locals := fun x hx => ⟨by omega, by omega⟩
  rcases hz with hz | hz | hz
  · rw [hz] at hl
    simp only [Bool.and_eq_true, decide_eq_true_eq] at hl
    obtain ⟨⟨⟨hl1, hl2⟩, hcls⟩, -⟩ := hl
    obtain ⟨hl3, hl4⟩ := lnS_of hl1
    have w0 := TB_in (hw (0, .methodLink (mOwn a) ix (mY x)) (by simp [lnW, hz]))
    have w1 := TB_in (hw (0, .instanceMethod (mY x)) (by simp [lnW, hz]))
    have w2 := TB_in (hw (0, .selects (mCn (z % 16)) (mY x) (mY x)) (by simp [lnW, hz]))
    have w3 := TB_in (hw (0, .initialized (mCn (z % 16))) (by simp [lnW, hz]))
    have w4 := TB_in (hw (0, headw x) (by simp [lnW, hz]))
    exact vx_runV ⟨hx, hb, hml, hown, hts⟩ hM (cwV y hts (good_l (fun w hw => by
        rcases List.mem_append.mp hw with h | h
        · simp only [List.mem_cons, List.not_mem_nil, or_false] at h
          rcases h with rfl | rfl | rfl | rfl
          · exact w0
          · exact w1
          · exact w2
          · exact w3
        · exact (good_WS w4 w h).1)) (WS_code hl2) rfl rfl ⟨hcls, hl3⟩ (hroom x hl4)) hpV rfl hnl V.1.1 hst (cat_room hc8) hd ⟨by omega, by omega⟩
  · rw [hz] at hl
    simp only [Bool.and_eq_true, decide_eq_true_eq] at hl
    obtain ⟨⟨hl1, hl2⟩, -⟩ := hl
    obtain ⟨hl3, hl4⟩ := lnS_of hl1
    have w0 := TB_in (hw (0, .methodLink (mOwn a) ix (mY x)) (by simp [lnW, hz]))
    have w1 := TB_in (hw (0, .sameMethod (mY x).cls (mY x).cls (mY x).name (mY x).desc) (by simp [lnW, hz]))
    have w2 := TB_in (hw (0, .selects (mCn (z % 16)) (mY x) (mY x)) (by simp [lnW, hz]))
    have w3 := TB_in (hw (0, .instanceMethod (mY x)) (by simp [lnW, hz]))
    have w4 := TB_in (hw (0, .initialized (mY x).cls) (by simp [lnW, hz]))
    have w5 := TB_in (hw (0, headw x) (by simp [lnW, hz]))
    exact vx_runU ⟨hx, hb, hml, hown, hts⟩ hM (va_cwU (x := mY x) (owner := (mY x).cls) y hts (good_l (fun w hw => by
        rcases List.mem_append.mp hw with h | h
        · simp only [List.mem_cons, List.not_mem_nil, or_false] at h
          rcases h with rfl | rfl | rfl | rfl | rfl
          · exact w0
          · exact w1
          · exact w2
          · exact w3
          · exact w4
        · exact (good_WS w5 w h).1)) (WS_code hl2) rfl rfl rfl hl3 (hroom x hl4)) hpV rfl hnl V.1.1 hst (cat_room hc8) hd ⟨by omega, by omega⟩
  · rw [hz] at hl
    simp only [Bool.and_eq_true, decide_eq_true_eq] at hl
    obtain ⟨⟨⟨⟨hl1, hl2⟩, -⟩, hoy⟩, hex2⟩ := hl
    obtain ⟨hl3, hl4⟩ := lnS_of hl1
    have w0 := TB_in (hw (0, .methodLink (mOwn a) ix (oY x)) (by simp [lnW, hz]))
    have w1 := TB_in (hw (0, .sameMethod rc_ASB rc_ASB (mY x).name (mY x).desc) (by simp [lnW, hz]))
    have w2 := TB_in (hw (0, .instanceMethod (oY x)) (by simp [lnW, hz]))
    have w3 := TB_in (hw (0, .selects (mCn (z % 16)) (oY x) (mY x)) (by simp [lnW, hz]))
    have w4 := TB_in (hw (0, .instanceMethod (mY x)) (by simp [lnW, hz]))
    have w5 := TB_in (hw (0, .initialized (mY x).cls) (by simp [lnW, hz]))
    have w6 := TB_in (hw (0, headw x) (by simp [lnW, hz]))
    have w7 := TB_in (hw (0, headw n_ASB_length) (by simp [lnW, hz]))
    have h7 : Cond.code (oY x) (mCode n_ASB_length) (mMax n_ASB_length) (mRet n_ASB_length) ∈ TB := by
      have e : headw n_ASB_length = Cond.code (mY n_ASB_length) (mCode n_ASB_length) (mMax n_ASB_length) (mRet n_ASB_length) := by
        unfold headw
        rw [hex2]
      rw [hoy, ← e]
      exact w7
    exact vx_runU ⟨hx, hb, hml, hown, hts⟩ hM (va_cwO (x := oY x) (owner := rc_ASB) y hts (good_l (fun w hw => by
        rcases List.mem_append.mp hw with h | h
        · simp only [List.mem_cons, List.not_mem_nil, or_false] at h
          rcases h with rfl | rfl | rfl | rfl | rfl | rfl
          · exact w0
          · exact w1
          · exact w2
          · exact w3
          · exact w4
          · exact w5
        · exact (good_WS w6 w h).1)) (WS_code hl2) rfl rfl h7 ⟨by decide, by decide, hl3.2.2⟩ (hroom x hl4)) hpV rfl hnl V.1.1 hst (cat_room hc8) hd ⟨by omega, by omega⟩
theorem s_invokespecial {ix : Nat} (hk : Goes1 P a K d k) (hA : AllOk a) (o : OkE a (pc, .invokespecial ix, n, x, y, z, fl)) (ho : IsE a es) (q : stepI P a K d k (pc, .invokespecial ix, n, x, y, z, fl) es L st h cb sb) : G P a K d pc L st h cb sb := by
  obtain ⟨hd, hl, hw⟩ := dec_of o
  unfold lnk at hl
  simp only [Bool.and_eq_true] at hl
  have hn : n = 3 := Nat.eq_of_beq_eq_true hl.1
  subst hn
  have hl := hl.2
  have hz : (z = 7 ∧ ∃ i r, st = .ref i :: r ∧ (catS r ≤ 8 ∧ 1 ≤ d) ∧ nxt P a K d k (pc + 3) es L r h cb sb) ∨ ((z = 4 ∨ z = 5 ∨ z = 6) ∧ ∃ vs r i as', st = vs ++ r ∧ vs.length = y + 1 ∧ vs.reverse = .ref i :: as' ∧ (z = 4 → ∃ ci fs, nth h i = some (.inr (ci, fs)) ∧ ci < 5) ∧ cal P a K d k pc 3 es L h cb sb x (.ref i :: as') r) := by
    unfold stepI at q
    dsimp only at q
    split at q
    · obtain ⟨vs, r, h1, h2, q2⟩ := popN_of _ _ _ q
      rw [List.append_nil] at q2
      generalize hv : vs.reverse = V9 at q2
      split at q2
      · split at q2
        · split at q2
          · exact Or.inr ⟨Or.inl rfl, vs, r, _, _, h1, h2, hv, fun _ => ⟨_, _, by assumption, Nat.le_of_ble_eq_true (by assumption)⟩, q2⟩
          · exact q2.elim
        · exact q2.elim
      · exact q2.elim
    · obtain ⟨vs, r, h1, h2, q2⟩ := popN_of _ _ _ q
      rw [List.append_nil] at q2
      generalize hv : vs.reverse = V9 at q2
      split at q2
      · exact Or.inr ⟨Or.inr (Or.inl rfl), vs, r, _, _, h1, h2, hv, (fun h => by cases h), q2⟩
      · exact q2.elim
    · obtain ⟨vs, r, h1, h2, q2⟩ := popN_of _ _ _ q
      rw [List.append_nil] at q2
      generalize hv : vs.reverse = V9 at q2
      split at q2
      · exact Or.inr ⟨Or.inr (Or.inr rfl), vs, r, _, _, h1, h2, hv, (fun h => by cases h), q2⟩
      · exact q2.elim
    · split at q
      · split at q
        · rename_i hb9
          simp only [Bool.and_eq_true] at hb9
          exact Or.inl ⟨rfl, _, _, rfl, ⟨Nat.le_of_ble_eq_true hb9.1, Nat.le_of_ble_eq_true hb9.2⟩, q⟩
        · exact q.elim
      · exact q.elim
    · exact q.elim
  rcases hz with ⟨rfl, i, r, rfl, ⟨hc8, hd1⟩, qq⟩ | ⟨hz, vs, r, i, as', rfl, hlen, hrev, hrc, q2⟩
  · have w0 := TB_in (hw (0, .methodLink (mOwn a) ix Lib.objectInit) (by simp [lnW]))
    have w1 := TB_in (hw (0, .instanceMethod Lib.objectInit) (by simp [lnW]))
    have w2 := TB_in (hw (0, .code Lib.objectInit ⟨#[0xb1]⟩ 1 none) (by simp [lnW]))
    refine G_of fun p e R s m args below meth c H locs cells slots ls F Y V hx hb => ?_
    obtain ⟨-, -, hml, hr, hown, hts, hE, hlocks, -, htab, hfr, hlo⟩ := id F
    exact W.objInit hx hb hown (hts _ w0) (hts _ w1) (hts _ w2) rfl (by rw [hml]; exact V.1.1) rfl hd (by omega) (by rw [catS_map]; show 2 * 0 + _ + 12 ≤ _; omega) (nxt_go hk ho qq p e R s m args below meth c H locs cells slots _ F Y V)
  · obtain ⟨hc8, mc, ms, d', hM, hmc, hms, hd'⟩ := cal_of q2
    refine G_of fun p e R s m args below meth c H locs cells slots ls F Y V hx hb => ?_
    obtain ⟨-, -, hml, hr, hown, hts, hE, hlocks, -, htab, hfr, hlo⟩ := id F
    obtain ⟨hY1, hY2, hS, hWd⟩ := id Y
    have hvs := vs_of hrev
    have hal : as'.length = y := by
      have := congrArg List.length hvs
      simp only [List.length_append, List.length_reverse, List.length_singleton] at this
      omega
    have hst : (F0 m pc ls ((vs ++ r).map (mV P))).stack = (as'.map (mV P)).reverse ++ .ref (gN P + i) :: r.map (mV P) := by
      show (vs ++ r).map (mV P) = _
      rw [hvs, List.map_append, List.map_append, List.map_reverse, List.append_assoc]
      rfl
    have hnl : (as'.map (mV P)).length = y := by rw [List.length_map]; exact hal
    refine call_go (av := (Value.ref (gN P + i) :: as'.map (mV P)).toArray) (r := r) hk hA ho F Y V hmc hms ?_
    have hroom : ∀ x : Nat, mMax x ≤ 81 → d' + 1 ≤ R.frames ∧ 8 + (mMax x + 11) + 100 * d' ≤ R.locals := fun x hx => ⟨by omega, by omega⟩
    rcases hz with rfl | rfl | rfl
    · have hl : (lnS x y && decide (mEx x = []) && decide ((mY x).name ≠ "<init>")) = true := hl
      simp only [Bool.and_eq_true, decide_eq_true_eq] at hl
      obtain ⟨⟨hl1, hl2⟩, hl5⟩ := hl
      obtain ⟨hl3, hl4⟩ := lnS_of hl1
      obtain ⟨ci, fs, hi, hci⟩ := hrc rfl
      have w0 := TB_in (hw (0, .methodLink (mOwn a) ix (mY x)) (by simp [lnW]))
      have w1 := TB_in (hw (0, .sameMethod (mY x).cls (mY x).cls (mY x).name (mY x).desc) (by simp [lnW]))
      have w2 := TB_in (hw (0, .superclass (mOwn a) (mY x).cls) (by simp [lnW]))
      have w3 := TB_in (hw (0, .instanceMethod (mY x)) (by simp [lnW]))
      have w4 := TB_in (hw (0, .initialized (mY x).cls) (by simp [lnW]))
      have w5 := TB_in (hw (0, headw x) (by simp [lnW]))
      have hpV := pre_V (w := .ref i) F Y as' rfl (recv_heap F Y hi hci)
      exact vx_runSU ((Env_K hE).1 ci _ (mCl_at ci hci)).2 ⟨hx, hb, hml, hown, hts⟩ hM (va_cwSU y hts (good_l (fun w hw => by
          rcases List.mem_append.mp hw with h | h
          · simp only [List.mem_cons, List.not_mem_nil, or_false] at h
            rcases h with rfl | rfl | rfl | rfl | rfl
            · exact w0
            · exact w1
            · exact w2
            · exact w3
            · exact w4
          · exact (good_WS w5 w h).1)) (WS_code hl2) rfl rfl ⟨hl5, hl3.2.2⟩ (hroom x hl4)) hpV rfl hnl V.1.1 hst (cat_room hc8) hd ⟨by omega, by omega⟩
    · have hl : (lnS x y && decide (mEx x = []) && decide ((mY x).name = "<init>") && decide (mRet x = none)) = true := hl
      simp only [Bool.and_eq_true, decide_eq_true_eq] at hl
      obtain ⟨⟨⟨hl1, hl2⟩, hl5⟩, hl6⟩ := hl
      obtain ⟨hl3, hl4⟩ := lnS_of hl1
      have w0 := TB_in (hw (0, .methodLink (mOwn a) ix (mY x)) (by simp [lnW]))
      have w3 := TB_in (hw (0, .instanceMethod (mY x)) (by simp [lnW]))
      have w4 := TB_in (hw (0, .initialized (mY x).cls) (by simp [lnW]))
      have w5 := TB_in (hw (0, headw x) (by simp [lnW]))
      have hws := WS_code hl2
      rw [hl6] at hws
      exact vx_runI ⟨hx, hb, hml, hown, hts⟩ hM (cwI y hts (good_WS w5) hws rfl rfl (hts _ w4) (hts _ w0) (hts _ w3) hl5 hl3 (hroom x hl4)) (pre_S F Y (.ref i :: as')) rfl hnl V.1.1 hst (cat_room hc8) hd ⟨by omega, by omega⟩
    · have hl : (lnS x y && decide (mEx x = []) && decide ((mY x).name = "<init>") && decide (mRet x = none)) = true := hl
      simp only [Bool.and_eq_true, decide_eq_true_eq] at hl
      obtain ⟨⟨⟨hl1, hl2⟩, hl5⟩, hl6⟩ := hl
      obtain ⟨hl3, hl4⟩ := lnS_of hl1
      have w0 := WN_in (hw (1, .methodLinkNest (mOwn a) ix (mY x) (mOwn a)) (by simp [lnW]))
      have w3 := TB_in (hw (0, .instanceMethod (mY x)) (by simp [lnW]))
      have w4 := TB_in (hw (0, .initialized (mY x).cls) (by simp [lnW]))
      have w5 := TB_in (hw (0, headw x) (by simp [lnW]))
      have hws := WS_code hl2
      rw [hl6] at hws
      exact vx_runIN ⟨hx, hb, hml, hown, hts⟩ hM ⟨va_cnB y hts (good_WS w5) hws rfl rfl (hE.2.2.2.2.2.1 _ w0) (hts _ w4) hl3 (hroom x hl4), hl5, hts _ w3⟩ (pre_S F Y (.ref i :: as')) rfl hnl V.1.1 hst (cat_room hc8) hd ⟨by omega, by omega⟩
end SIM6
