/-! steps: constants, new cells, what is thrown, returns -/
section SIM5
variable {P : GP} {a : Nat} {K : Kt} {d : Nat}
variable {k : Ct} {es : List Ent} {pc n x y z : Nat} {fl : Bool} {L : mLs} {st : List Value} {h : mH} {cb sb : Nat}
theorem tfx : ∀ j z, j < 2 → nth kZ j = some z → ∀ w ∈ vx_atS rc_X z (exN j) nmX, w.onTables = true ∧ w ∈ WF := by
  have h0 : ∀ w ∈ vx_atS rc_X ((nth kZ 0).getD 0) (exN 0) nmX, w ∈ lT ∧ (w.onTables && w.keepsFace) = true := by decide +kernel
  have h1 : ∀ w ∈ vx_atS rc_X ((nth kZ 1).getD 0) (exN 1) nmX, w ∈ lT ∧ (w.onTables && w.keepsFace) = true := by decide +kernel
  intro j z hj hz w hw
  have key : w ∈ lT ∧ (w.onTables && w.keepsFace) = true := by
    match j, hj with
    | 0, _ => exact h0 w (by rw [hz]; exact hw)
    | 1, _ => exact h1 w (by rw [hz]; exact hw)
  have k2 := key.2
  simp only [Bool.and_eq_true] at k2
  exact ⟨k2.1, List.mem_filter.mpr ⟨key.1, key.2⟩⟩
theorem fitX : ∀ j, j < 2 → Bundle.fit (exN j) = true := by decide
theorem catS_map (P : GP) : ∀ st : List Value, ((st.map (mV P)).map fun v => v.category).sum = catS st
  | [] => rfl
  | v :: r => by
    simp only [List.map_cons, List.sum_cons, catS, mV_cat]
    rw [catS_map P r]
theorem wd_junk {h : mH} {H H1 : Heap} (w : Wd P h H) (hz : H.size ≤ H1.size) (ho : ∀ q : Nat, q < H.size → H1[q]? = H[q]?) : Wd P (h ++ List.replicate (H1.size - H.size) junk) H1 := by
  refine ⟨by rw [List.length_append, List.length_replicate]; have := w.1; omega, fun j x hj => ?_⟩
  rw [nth_app] at hj
  by_cases e : j < h.length
  · rw [if_pos e] at hj
    exact mC_kept (w.2 j x hj) (ho _ (by rw [w.1]; omega))
  · rw [if_neg e, nth_eq] at hj
    have hm := List.mem_of_getElem? hj
    rw [List.eq_of_mem_replicate hm]
    exact fun h9 => absurd h9 (by decide)
theorem s_ldc {ix : Nat} (hk : Goes1 P a K d k) (hA : AllOk a) (o : OkE a (pc, .ldc ix, n, x, y, z, fl)) (ho : IsE a es) (q : stepI P a K d k (pc, .ldc ix, n, x, y, z, fl) es L st h cb sb) : G P a K d pc L st h cb sb := by
  obtain ⟨hd, hl, hw⟩ := dec_of o
  unfold lnk at hl
  simp only [Bool.and_eq_true] at hl
  have hn : n = 2 := Nat.eq_of_beq_eq_true hl.1
  subst hn
  match y, q, hw, hl with
  | 0, q, hw, _ =>
    obtain ⟨v, hv, qq⟩ := cI_of q
    have hw := TB_in (hw (0, .constant (mOwn a) ix v) (by simp [lnW, hv]))
    exact G_of fun p e R s m args below meth c H locs cells slots ls F Y V hx hb => lv_ldc hx hb F.2.2.2.2.1 (F.2.2.2.2.2.1 _ hw) hd (nxt_go hk ho qq p e R s m args below meth c H locs cells slots _ F Y V)
  | 1, q, hw, hl =>
    have q : (match Nat.blt x 3 with | true => nxt P a K d k (pc + 2) es L (.retAddr (10 + x) :: st) h cb sb | false => False) := q
    have hq : (match Nat.blt x 3 with | true => (match nth LTx x with | some t => decide (t.1 = mOwn a) && Nat.beq t.2.1 ix | none => false) | false => true) = true := hl.2
    cases h3 : Nat.blt x 3 with
    | false => rw [h3] at q; exact q.elim
    | true =>
    rw [h3] at q hq
    dsimp only at q hq
    cases hs : nth LTx x with
    | none => rw [hs] at hq; cases hq
    | some t =>
      rw [hs] at hq
      simp only [Bool.and_eq_true, decide_eq_true_eq] at hq
      refine G_of fun p e R s m args below meth c H locs cells slots ls F Y V hx hb => ?_
      have hR := F.2.2.2.2.2.2.1.2.2.2.2.2.2.2.2.2.1 x t hs
      rw [hq.1, Nat.eq_of_beq_eq_true hq.2] at hR
      exact va_ldcS hx hb F.2.2.2.2.1 hR hd (nxt_go hk ho q p e R s m args below meth c H locs cells slots _ F Y V)
  | _ + 2, q, hw, _ => exact q.elim
theorem s_new {ix : Nat} (hk : Goes1 P a K d k) (hA : AllOk a) (o : OkE a (pc, .new ix, n, x, y, z, fl)) (ho : IsE a es) (q : stepI P a K d k (pc, .new ix, n, x, y, z, fl) es L st h cb sb) : G P a K d pc L st h cb sb := by
  obtain ⟨hd, hl, hw⟩ := dec_of o
  unfold lnk at hl
  simp only [Bool.and_eq_true] at hl
  have hn : n = 3 := Nat.eq_of_beq_eq_true hl.1
  subst hn
  have hl := hl.2
  unfold stepI at q
  dsimp only at q
  split at q
  · rename_i h100
    rw [h100] at hl
    dsimp only at hl
    simp only [Bool.and_eq_true, decide_eq_true_eq] at hl
    obtain ⟨⟨⟨⟨⟨⟨⟨hd3, hd4⟩, hd6⟩, hd9⟩, hLR⟩, hown9⟩, hkz⟩, hx2⟩ := hl
    split at q
    · rename_i hex
      obtain ⟨⟨q1, q2, q3, q4⟩, q5⟩ := q
      have hw1 := TB_in (hw (0, .classLink (mOwn a) ix (exN (x - 100))) (by simp [lnW, h100]))
      have hw2 := TB_in (hw (0, .initialized (exN (x - 100))) (by simp [lnW, h100]))
      have hx9 : x - 100 < 2 := by have : x < 102 := Nat.le_of_ble_eq_true hx2; omega
      have hwf := tfx (x - 100) z hx9 hkz
      rw [← hown9] at hwf
      obtain ⟨tq, htq, hte⟩ := List.any_eq_true.mp hLR
      simp only [Bool.and_eq_true, decide_eq_true_eq] at hte
      refine G_of fun p e R s m args below meth c H locs cells slots ls F Y V hx hb => ?_
      obtain ⟨-, -, hml, -, hown, hts, hE, hlocks, -, htab, hfr, hlo⟩ := id F
      obtain ⟨hY1, hY2, hS, hWd⟩ := id Y
      obtain ⟨sa, hsa⟩ := hE.2.2.2.2.2.2.2.2.1 tq htq
      rw [hte.1, Nat.eq_of_beq_eq_true hte.2] at hsa
      refine vx_throwS (names := nmX) (sa := sa) (A := gF P) hx hb hE.2.2.2.2.2.2.2.2.2.2.2.2.2.2.2.1 hown (fitX (x - 100) hx9) (by decide) (hts _ hw1) (hts _ hw2) hsa (fun w hw => va_Nw.use (hwf w hw).1 (hE.2.2.2.2.1 w (hwf w hw).2)) (fun w hw => ?_)
        hE.2.2.2.2.2.2.1 hE.2.2.2.2.2.2.2.1 hS (V.1.1.trans hml.symm) hd hd3 hd4 hd6 hd9 (fun x9 hx9 => ?_) (by show 2 + 3 < R.frames; omega) (by rw [catS_map]; show catS st + (13 * (2 + 1) + 43) ≤ R.locals; omega) (by omega) (by omega) hlocks (fun t halike hsz hsame => ?_) (fun w hw => hS.2.2 w hw) (by omega) (by omega)
      · rcases List.mem_cons.mp hw with rfl | hw
        · simp [vx_ot, TB_good hw1]
        · rcases List.mem_cons.mp hw with rfl | hw
          · simp [vx_ot, TB_good hw2]
          · simp [vx_ot, (hwf w hw).1]
      · rw [htab, hex] at hx9
        cases hx9
      · refine ⟨x - 100, h ++ List.replicate (t.heap.size - H.size) junk, ⟨hx9, rfl⟩, q5 _, wd_junk hWd hsz hsame, Nat.le_trans hS.1 hsz, fun q h1 h2 => ?_⟩
        rw [hsame q (Nat.lt_of_lt_of_le h1 hS.1)]
        exact hS.2.1 q h1 h2
    · exact q.elim
  · rename_i h100
    rw [h100] at hl
    split at q
    · exact q.elim
    · rename_i h5
      rw [h5] at hl
      dsimp only at hl
      have hx5 : x < 5 := by
        rcases Nat.lt_or_ge x 5 with w | w
        · exact w
        · rw [Nat.ble_eq_true_of_le w] at h5; cases h5
      have hyN : y = mNn x := Nat.eq_of_beq_eq_true hl
      subst hyN
      obtain ⟨⟨q1, q2⟩, qq⟩ := q
      have hw1 := TB_in (hw (0, .classLink (mOwn a) ix (mCn x)) (by simp [lnW, h100, h5]))
      have hw2 := TB_in (hw (0, .instantiable (mCn x) (mNn x)) (by simp [lnW, h100, h5]))
      have hw3 := TB_in (hw (0, .initialized (mCn x)) (by simp [lnW, h100, h5]))
      refine G_of fun p e R s m args below meth c H locs cells slots ls F Y V hx hb => ?_
      obtain ⟨-, -, -, -, hown, hts, hE, -⟩ := id F
      obtain ⟨hY1, hY2, hS, hWd⟩ := id Y
      have hKn := (Env_K hE).1 x _ (mCl_at x hx5)
      refine W.newcK hx hb hown (hts _ hw1) (hts _ hw2) (hts _ hw3) rfl hd (by omega) (by omega) hKn.2.1 rfl fun H1 kC hkC e1 z1 o1 => ?_
      have hz : H.size = gN P + h.length := hWd.1
      have K1 := nxt_go hk ho qq p e R s m args below meth c H1 locs (cells + 1) (slots + mNn x) ls F ⟨by omega, by omega, ⟨Nat.le_trans hS.1 (by omega), fun x h1 h2 => (o1 x (Nat.lt_of_lt_of_le h1 hS.1)).trans (hS.2.1 x h1 h2), hS.2.2⟩, wd_push hWd z1 ?_ o1⟩ V
      · show W _ _ _ _ _ _ _ _ _ _ _ _ _ _ _ (F0 m (pc + 3) ls (.ref H.size :: st.map (mV P)))
        rw [hz]
        exact K1
      · intro _
        refine ⟨_, mCl_at x hx5, ?_⟩
        show t_OB (gN P + h.length) _ _ _ _ _
        rw [← hz]
        exact (u_born (mTy x) hts (inW x hx5) hKn hkC e1 (mTy_ok x hx5)).to (mDf_ok x hx5)
theorem arrK {s : State} (hE : Env P s) {k9 : Nat} {ty : FieldType} {cA : ClassId} (ht : (tys P)[k9]? = some (gC P k9, ty)) (hn : s.vm.findClass ("[" ++ ty.toString) = some cA) (ho : ∀ C, ty ≠ .object C) : gC P k9 = cA := by
  have h2 := ((Env_K hE).2 k9 _ ht).2
  cases ty with
  | object C => exact (ho C rfl).elim
  | _ => exact Option.some.inj (h2.symm.trans hn)
theorem s_newarray {t : ArrayType} (hk : Goes1 P a K d k) (hA : AllOk a) (o : OkE a (pc, .newarray t, n, x, y, z, fl)) (ho : IsE a es) (q : stepI P a K d k (pc, .newarray t, n, x, y, z, fl) es L st h cb sb) : G P a K d pc L st h cb sb := by
  obtain ⟨v, r, rfl, ⟨g1, g2, g3, g4⟩, q⟩ := p1i_of q
  obtain ⟨hd, hl, hw⟩ := dec_of o
  unfold lnk at hl
  simp only [Bool.and_eq_true] at hl
  have hn : n = 2 := Nat.eq_of_beq_eq_true hl.1
  subst hn
  have hl := hl.2
  match x, q, hw, hl with
  | 0, q, hw, hl =>
    have hl : t = .byte := of_decide_eq_true hl
    subst hl
    have hw := TB_in (hw _ (List.mem_singleton.mpr rfl))
    refine G_of fun p e R s m args below meth c H locs cells slots ls F Y V hx hb => ?_
    obtain ⟨hY1, hY2, hS, hWd⟩ := id Y
    refine va_newaK (atype := .byte) hx hb (F.2.2.2.2.2.1 _ hw) rfl hd rfl g1 rfl (by show _ * 1 ≤ _; omega) (by omega) (by omega) rfl fun H1 cA e1 z1 o1 _ hNm => ?_
    have hz : H.size = gN P + h.length := hWd.1
    have hcA := arrK F.2.2.2.2.2.2.1 (k9 := 0) rfl hNm (fun _ e => by cases e)
    have K1 := nxt_go hk ho q p e R s m args below meth c H1 locs (cells + 1) (slots + v.toNatClampNeg) ls F ⟨by omega, by omega, ⟨Nat.le_trans hS.1 (by omega), fun x h1 h2 => (o1 x (Nat.lt_of_lt_of_le h1 hS.1)).trans (hS.2.1 x h1 h2), hS.2.2⟩, wd_push hWd z1 (by show H1[gN P + h.length]? = _; rw [← hz, hcA]; exact e1) o1⟩ V
    show W _ _ _ _ _ _ _ _ _ _ _ _ _ _ _ (F0 m (pc + 2) ls (.ref H.size :: r.map (mV P)))
    rw [hz]
    exact K1
  | 1, q, hw, hl =>
    have hl : t = .int := of_decide_eq_true hl
    subst hl
    have hw := TB_in (hw _ (List.mem_singleton.mpr rfl))
    refine G_of fun p e R s m args below meth c H locs cells slots ls F Y V hx hb => ?_
    obtain ⟨hY1, hY2, hS, hWd⟩ := id Y
    refine va_newaK (atype := .int) hx hb (F.2.2.2.2.2.1 _ hw) rfl hd rfl g1 rfl (by show _ * 4 ≤ _; omega) (by omega) (by omega) rfl fun H1 cA e1 z1 o1 _ hNm => ?_
    have hz : H.size = gN P + h.length := hWd.1
    have hcA := arrK F.2.2.2.2.2.2.1 (k9 := 1) rfl hNm (fun _ e => by cases e)
    have K1 := nxt_go hk ho q p e R s m args below meth c H1 locs (cells + 1) (slots + v.toNatClampNeg) ls F ⟨by omega, by omega, ⟨Nat.le_trans hS.1 (by omega), fun x h1 h2 => (o1 x (Nat.lt_of_lt_of_le h1 hS.1)).trans (hS.2.1 x h1 h2), hS.2.2⟩, wd_push hWd z1 (by show H1[gN P + h.length]? = _; rw [← hz, hcA]; exact e1) o1⟩ V
    show W _ _ _ _ _ _ _ _ _ _ _ _ _ _ _ (F0 m (pc + 2) ls (.ref H.size :: r.map (mV P)))
    rw [hz]
    exact K1
  | 2, q, hw, hl =>
    have hl : t = .long := of_decide_eq_true hl
    subst hl
    have hw := TB_in (hw _ (List.mem_singleton.mpr rfl))
    refine G_of fun p e R s m args below meth c H locs cells slots ls F Y V hx hb => ?_
    obtain ⟨hY1, hY2, hS, hWd⟩ := id Y
    refine va_newaK (atype := .long) hx hb (F.2.2.2.2.2.1 _ hw) rfl hd rfl g1 rfl (by show _ * 8 ≤ _; omega) (by omega) (by omega) rfl fun H1 cA e1 z1 o1 _ hNm => ?_
    have hz : H.size = gN P + h.length := hWd.1
    have hcA := arrK F.2.2.2.2.2.2.1 (k9 := 2) rfl hNm (fun _ e => by cases e)
    have K1 := nxt_go hk ho q p e R s m args below meth c H1 locs (cells + 1) (slots + v.toNatClampNeg) ls F ⟨by omega, by omega, ⟨Nat.le_trans hS.1 (by omega), fun x h1 h2 => (o1 x (Nat.lt_of_lt_of_le h1 hS.1)).trans (hS.2.1 x h1 h2), hS.2.2⟩, wd_push hWd z1 (by show H1[gN P + h.length]? = _; rw [← hz, hcA]; exact e1) o1⟩ V
    show W _ _ _ _ _ _ _ _ _ _ _ _ _ _ _ (F0 m (pc + 2) ls (.ref H.size :: r.map (mV P)))
    rw [hz]
    exact K1
  | _ + 3, q, hw, hl => exact q.elim
theorem qc_of {v : Option Value} {R : Room} {s t : State} {args : Array Value} {H : Heap} {locs : List Loc} {cells slots : Nat} (q : K (.inl v) h) (Y : Dy P R s H locs cells slots h cb sb) (ht : t.heap = H) : QcK P K args s (.returned (v.map (mV P))) t :=
  ⟨v, h, rfl, q, by rw [ht]; exact Y.2.2.2, Y.2.2.1.F ht⟩
theorem s_return_ (hk : Goes1 P a K d k) (hA : AllOk a) (o : OkE a (pc, .return_, n, x, y, z, fl)) (ho : IsE a es) (q : stepI P a K d k (pc, .return_, n, x, y, z, fl) es L st h cb sb) : G P a K d pc L st h cb sb := by
  obtain ⟨hd, hl, -⟩ := dec_of o
  have hn : n = 1 := Nat.eq_of_beq_eq_true hl
  subst hn
  have hq : st = [] ∧ mRet a = none ∧ K (.inl none) h := by
    unfold stepI at q
    dsimp only at q
    split at q
    · split at q
      · exact ⟨rfl, by assumption, q⟩
      · exact q.elim
    · exact q.elim
  obtain ⟨rfl, hr, q⟩ := hq
  exact G_of fun p e R s m args below meth c H locs cells slots ls F Y V hx hb =>
    vx_ret (W.widen (k := R.cells) (n := R.slots) (Nat.le_trans (Nat.le_add_right _ _) Y.1) (Nat.le_trans (Nat.le_add_right _ _) Y.2.1) (W.vret hx hb (F.2.2.2.1.trans hr) (fun t ht _ => qc_of q Y ht) (fun q hq => Y.2.2.1.2.2 q hq) hd F.2.2.2.2.2.2.2.1))
theorem s_ireturn (hk : Goes1 P a K d k) (hA : AllOk a) (o : OkE a (pc, .ireturn, n, x, y, z, fl)) (ho : IsE a es) (q : stepI P a K d k (pc, .ireturn, n, x, y, z, fl) es L st h cb sb) : G P a K d pc L st h cb sb := by
  obtain ⟨v, r, rfl, q1⟩ := p1i_of q
  obtain ⟨hd, hl, -⟩ := dec_of o
  have hn : n = 1 := Nat.eq_of_beq_eq_true hl
  subst hn
  cases r with
  | cons _ _ => exact q1.elim
  | nil =>
  have hq : ∃ ty, mRet a = some ty ∧ narrow ty (.int v) = .int v ∧ K (.inl (some (.int v))) h := by
    dsimp only at q1
    split at q1
    · exact ⟨_, by assumption, rfl, q1⟩
    · exact ⟨_, by assumption, q1.1, q1.2⟩
    · exact q1.elim
  obtain ⟨ty, hr, hn, q⟩ := hq
  exact G_of fun p e R s m args below meth c H locs cells slots ls F Y V hx hb =>
    vx_ret (W.widen (k := R.cells) (n := R.slots) (Nat.le_trans (Nat.le_add_right _ _) Y.1) (Nat.le_trans (Nat.le_add_right _ _) Y.2.1) (W.zret hx hb (F.2.2.2.1.trans hr) hn (fun t ht _ => qc_of q Y ht) (fun q hq => Y.2.2.1.2.2 q hq) hd F.2.2.2.2.2.2.2.1))
theorem s_lreturn (hk : Goes1 P a K d k) (hA : AllOk a) (o : OkE a (pc, .lreturn, n, x, y, z, fl)) (ho : IsE a es) (q : stepI P a K d k (pc, .lreturn, n, x, y, z, fl) es L st h cb sb) : G P a K d pc L st h cb sb := by
  obtain ⟨v, r, rfl, q1⟩ := p1l_of q
  obtain ⟨hd, hl, -⟩ := dec_of o
  have hn : n = 1 := Nat.eq_of_beq_eq_true hl
  subst hn
  cases r with
  | cons _ _ => exact q1.elim
  | nil =>
  have hq : mRet a = some .long ∧ K (.inl (some (.long v))) h := by
    dsimp only at q1
    split at q1
    · exact ⟨by assumption, q1⟩
    · exact q1.elim
  obtain ⟨hr, q⟩ := hq
  exact G_of fun p e R s m args below meth c H locs cells slots ls F Y V hx hb =>
    vx_ret (W.widen (k := R.cells) (n := R.slots) (Nat.le_trans (Nat.le_add_right _ _) Y.1) (Nat.le_trans (Nat.le_add_right _ _) Y.2.1) (W.lret hx hb (F.2.2.2.1.trans hr) (fun t ht _ => qc_of q Y ht) (fun q hq => Y.2.2.1.2.2 q hq) hd F.2.2.2.2.2.2.2.1))
theorem isR_of {t : Option FieldType} (h : isR t = true) : ∃ rt, t = some rt ∧ ((∃ n, rt = .object n) ∨ ∃ u, rt = .array u) := by
  unfold isR at h
  split at h
  · exact ⟨_, rfl, Or.inl ⟨_, rfl⟩⟩
  · exact ⟨_, rfl, Or.inr ⟨_, rfl⟩⟩
  · cases h
theorem s_areturn (hk : Goes1 P a K d k) (hA : AllOk a) (o : OkE a (pc, .areturn, n, x, y, z, fl)) (ho : IsE a es) (q : stepI P a K d k (pc, .areturn, n, x, y, z, fl) es L st h cb sb) : G P a K d pc L st h cb sb := by
  obtain ⟨hd, hl, -⟩ := dec_of o
  have hn : n = 1 := Nat.eq_of_beq_eq_true hl
  subst hn
  have hq : ∃ v b, st = [v] ∧ mV P v = .ref b ∧ isR (mRet a) = true ∧ K (.inl (some v)) h := by
    unfold stepI at q
    dsimp only at q
    split at q
    · split at q
      · exact ⟨_, _, rfl, rfl, by assumption, q⟩
      · exact q.elim
    · split at q
      · exact ⟨_, _, rfl, rfl, by assumption, q⟩
      · exact q.elim
    · exact q.elim
  obtain ⟨v, b, rfl, hb9, hr, q⟩ := hq
  obtain ⟨rt, hr, hrt⟩ := isR_of hr
  exact G_of fun p e R s m args below meth c H locs cells slots ls F Y V hx hb =>
    vx_ret (W.widen (k := R.cells) (n := R.slots) (Nat.le_trans (Nat.le_add_right _ _) Y.1) (Nat.le_trans (Nat.le_add_right _ _) Y.2.1) (W.aret hx hb (F.2.2.2.1.trans hr) hrt (Or.inr ⟨b, hb9⟩) (fun t ht _ => qc_of q Y ht) (fun q hq => Y.2.2.1.2.2 q hq) hd F.2.2.2.2.2.2.2.1))
end SIM5
