/-! steps that no run takes: bytes copied, bytes cloned, a cast, rows of rows made at once -/
theorem wN_ac : Cond.native arraycopyName ∈ TB := TB_in ⟨nth_mem (n := 619) (by decide +kernel), by decide +kernel⟩
theorem wS_ac : Cond.static arraycopyName ∈ TB := TB_in ⟨nth_mem (n := 618) (by decide +kernel), by decide +kernel⟩
theorem wI_ac : Cond.initialized "java/lang/System" ∈ TB := TB_in ⟨nth_mem (n := 42) (by decide +kernel), by decide +kernel⟩
theorem wA_ac : Cond.methodLink rc_ARR 150 arraycopyName ∈ TB := TB_in ⟨nth_mem (n := 617) (by decide +kernel), by decide +kernel⟩
theorem wT_ac : Cond.methodLink rc_STR 212 arraycopyName ∈ TB := TB_in ⟨nth_mem (n := 817) (by decide +kernel), by decide +kernel⟩
theorem nnI (z : Int32) (hz : ¬ z < 0) : z.toInt = (z.toNatClampNeg : Int) := by
  have hz0 : (0 : Int) ≤ z.toInt := by
    have := Int32.not_lt.mp hz
    simpa using Int32.le_iff_toInt_le.mp this
  show z.toInt = ((z.toInt.toNat : Nat) : Int)
  omega
def BF (g : Nat → Int32) : Prop := ∀ j, fits .byte (.int (g j)) = true
section SPC
variable {P : GP} {a : Nat} {K : Kt} {d : Nat}
variable {pc : Nat} {L : mLs} {st : List Value} {h : mH} {cb sb : Nat}
/-- bytes that stand somewhere: in a cell of ours, or fixed -/
def SrcB (P : GP) (h : mH) (w : Value) (n0 : Nat) (f : Nat → Int32) : Prop := ∃ b : Nat, mV P w = .ref b ∧ ∀ (s : State) (H : Heap) (locs : List Loc), Env P s → va_S (gF P) s.heap H locs → Wd P h H →
  ∃ scr : Cell, H[b]? = some scr ∧ (∀ k, scr.vm ≠ .statics k) ∧ scr.vm ≠ .unknown ∧ (∃ (k0 : Class) (cm : ClassId), s.vm.classes[scr.cls]? = some k0 ∧ k0.kind = .array cm .byte) ∧ n0 ≤ scr.slots.size ∧ ∀ j : Nat, j < n0 → scr.slots[j]? = some (.int (f j))
theorem src_h {i n0 : Nat} {f : Nat → Int32} (hi : nth h i = some (.inl (0, n0, .inl f))) : SrcB P h (.ref i) n0 f := by
  refine ⟨_, rfl, fun s H locs hE hS hWd => ?_⟩
  obtain ⟨-, k0, hk0, cm0, hkk0⟩ := ((Env_K hE).2 0 _ rfl).1 n0 (fun j => .int (f j))
  have hc : H[gN P + i]? = some (vp_cell (gC P 0) (n0, .inl f)) := wd_arr hWd hi
  refine ⟨vp_cell (gC P 0) (n0, .inl f), hc, ?_, ?_, ⟨k0, cm0, hk0, hkk0⟩, ?_, ?_⟩
  · intro k h
    cases h
  · intro h
    cases h
  · exact Nat.le_of_eq (arrV_size _ _ _).symm
  · intro j hj
    exact arrV_read _ _ hj
theorem src_c {c n0 : Nat} {f : Nat → Int32} (hc : cBy c = some (n0, f)) : SrcB P h (.retAddr c) n0 f := by
  refine ⟨_, rfl, fun s H locs hE hS hWd => ?_⟩
  obtain ⟨scr, hs1, hs2, hs3, hs4, -, hs5, hs7⟩ := cBy_of hc hE
  obtain ⟨hs6, k0, hk0, cm0, hkk0⟩ := hs2
  exact ⟨scr, by rw [hS.2.1 _ (Array.getElem?_eq_some_iff.mp hs1).1 hs7]; exact hs1, hs6, hs3, ⟨k0, cm0, hk0, hkk0⟩, hs4, hs5⟩
theorem s_acp {ix j n0 n1 : Nat} {w : Value} {f g : Nat → Int32} {sp dp n : Int32} (hd : decode (mCode a) pc = .ok (.invokestatic ix, 3)) (w1 : Cond.methodLink (mOwn a) ix arraycopyName ∈ TB)
    (hsrc : SrcB P h w n0 f) (hj : nth h j = some (.inl (0, n1, .inl g))) (h1 : ¬ sp < 0) (h2 : ¬ dp < 0) (h3 : ¬ n < 0) (h4 : sp.toNatClampNeg + n.toNatClampNeg ≤ n0) (h5 : dp.toNatClampNeg + n.toNatClampNeg ≤ n1) (hfit : BF f) (hc8 : catS st ≤ 8) (hd1 : 1 ≤ d)
    (q : G P a K d (pc + 3) L st (h.set j (.inl (0, n1, .inl (va_cpy f g sp.toNatClampNeg dp.toNatClampNeg n.toNatClampNeg)))) cb sb) : G P a K d pc L (.int n :: .int dp :: .ref j :: .int sp :: w :: st) h cb sb := by
  obtain ⟨b, hwb, hsrc⟩ := hsrc
  refine G_of fun p e R s m args below meth c H locs cells slots ls F Y V hx hb => ?_
  obtain ⟨-, -, hml, hr, hown, hts, hE, hlocks, -, htab, hfr, hlo⟩ := id F
  obtain ⟨hY1, hY2, hS, hWd⟩ := id Y
  obtain ⟨scr, hc0, hs6, hs3, ⟨k0, cm0, hk0, hkk0⟩, hs4, hs5⟩ := hsrc s H locs hE hS hWd
  have hc1 : H[gN P + j]? = some (vp_cell (gC P 0) (n1, .inl g)) := wd_arr hWd hj
  obtain ⟨-, k1, hk1, cm1, hkk1⟩ := ((Env_K hE).2 0 _ rfl).1 n1 (fun j => .int (g j))
  intro T hT X
  obtain ⟨vm', X', step⟩ := X.arraycopy hx hown (hts _ w1) (hts _ wN_ac) (hts _ wS_ac) (hts _ wI_ac) (src := b) (dst := gN P + j) (cs := scr) (cd := vp_cell (gC P 0) (n1, .inl g)) (srcPos := sp) (destPos := dp) (n := n) (by rw [hT]; exact hc0) (by rw [hT]; exact hc1)
    hs6 (fun _ h => by cases h) hs3 (fun h => by cases h) hk0 hk1 hkk0 hkk1 (by simp [refKind]) h1 h2 h3
    (by rw [nnI sp h1, nnI n h3]; omega)
    (by rw [nnI dp h2, nnI n h3]; show ¬ _ > ((arrV (gC P 0) n1 (fun j => .int (g j))).slots.size : Int); rw [arrV_size]; omega)
    (fun vm₁ _ i hi => by
      have e : scr.slots.getD (sp.toNatClampNeg + i) .null = .int (f (sp.toNatClampNeg + i)) := by
        rw [Array.getD_eq_getD_getElem?, hs5 _ (by omega)]
        rfl
      refine ⟨?_, ?_⟩
      · rw [e]
        exact hfit _
      · rw [e]
        exact trivial)
    (g := F0 m pc ls ((.int n :: .int dp :: .ref j :: .int sp :: w :: st : List Value).map (mV P))) rfl (by show ls.size = _; rw [hml]; exact V.1.1) (rest := st.map (mV P)) (by show mV P (.int n) :: mV P (.int dp) :: mV P (.ref j) :: mV P (.int sp) :: mV P w :: st.map (mV P) = _; rw [hwb]; rfl) (by rw [hb]; exact hd) (by omega)
    (by
      have hz : nativeFrameWords "java/lang/System" "arraycopy" 5 + 11 ≤ 92 := by decide +kernel
      have := cat_room (P := P) (pc := pc) (ls := ls) (m := m) (stv := []) hc8
      show 2 * 0 + _ + _ ≤ _
      have h0 : 2 * (F0 m pc ls []).monitorRoom = 0 := rfl
      omega)
  have e1 : copied scr (vp_cell (gC P 0) (n1, .inl g)) sp dp n = vp_cell (gC P 0) (n1, .inl (va_cpy f g sp.toNatClampNeg dp.toNatClampNeg n.toNatClampNeg)) := va_copiedX (fun z => .int z) scr (gC P 0) f g hs5 h4
  rw [e1] at X' step
  have hl : gN P + j < H.size := (Array.getElem?_eq_some_iff.mp hc1).1
  have hheap : ((T.setVm vm').setCell (gN P + j) (vp_cell (gC P 0) (n1, .inl (va_cpy f g sp.toNatClampNeg dp.toNatClampNeg n.toNatClampNeg)))).heap = H.setIfInBounds (gN P + j) (vp_cell (gC P 0) (n1, .inl (va_cpy f g sp.toNatClampNeg dp.toNatClampNeg n.toNatClampNeg))) := by rw [← hT]; rfl
  have oq : ∀ q : Nat, q ≠ gN P + j → (H.setIfInBounds (gN P + j) (vp_cell (gC P 0) (n1, .inl (va_cpy f g sp.toNatClampNeg dp.toNatClampNeg n.toNatClampNeg))))[q]? = H[q]? := fun q hq => by simp [Array.getElem?_setIfInBounds, Ne.symm hq]
  have hz : (H.setIfInBounds (gN P + j) (vp_cell (gC P 0) (n1, .inl (va_cpy f g sp.toNatClampNeg dp.toNatClampNeg n.toNatClampNeg)))).size = H.size := by simp
  obtain ⟨t, a1, b1⟩ := q p e R s m args below meth c _ _ cells slots ls F ⟨hY1, hY2, ⟨by rw [hz]; exact hS.1, fun q g1 g2 => by
      rw [oq q (fun e => g2 (by rw [e]; show gN P ≤ gN P + j; omega))]
      exact hS.2.1 q g1 g2, fun q hq => by
      rcases List.mem_append.mp hq with h | h
      · exact hS.2.2 q h
      · obtain ⟨z, -, hz⟩ := List.mem_map.mp h
        rw [← hz]
        show gN P ≤ gN P + j
        omega⟩, wd_set hWd hj hz (show (H.setIfInBounds (gN P + j) _)[gN P + j]? = some _ by simp [Array.getElem?_setIfInBounds, hl]; rfl) oq⟩ V _ hheap X'
  exact ⟨t, step t a1, b1⟩
theorem w_c1 : Cond.methodLink rc_ARR 310 ⟨"[B", "clone", "()Ljava/lang/Object;"⟩ ∈ TB := TB_in ⟨nth_mem (n := 607) (by decide +kernel), by decide +kernel⟩
theorem w_c2 : Cond.sameMethod "[B" "java/lang/Object" "clone" "()Ljava/lang/Object;" ∈ TB := TB_in ⟨nth_mem (n := 608) (by decide +kernel), by decide +kernel⟩
theorem w_c3 : Cond.native ⟨"java/lang/Object", "clone", "()Ljava/lang/Object;"⟩ ∈ TB := TB_in ⟨nth_mem (n := 609) (by decide +kernel), by decide +kernel⟩
theorem w_c4 : Cond.instanceMethod ⟨"java/lang/Object", "clone", "()Ljava/lang/Object;"⟩ ∈ TB := TB_in ⟨nth_mem (n := 610) (by decide +kernel), by decide +kernel⟩
theorem w_c5 : Cond.selects "[B" ⟨"[B", "clone", "()Ljava/lang/Object;"⟩ ⟨"java/lang/Object", "clone", "()Ljava/lang/Object;"⟩ ∈ TB := TB_in ⟨nth_mem (n := 611) (by decide +kernel), by decide +kernel⟩
theorem w_c6 : Cond.castable "[B" "java/lang/Cloneable" ∈ WF := List.mem_filter.mpr ⟨nth_mem (n := 612) (by decide +kernel), by decide +kernel⟩
theorem w_c7 : Cond.classLink rc_ARR 311 "[B" ∈ TB := TB_in ⟨nth_mem (n := 613) (by decide +kernel), by decide +kernel⟩
theorem find_B {s : State} (hE : Env P s) : s.vm.findClass "[B" = some (gC P 0) := ((Env_K hE).2 0 _ rfl).2
theorem s_clone {i n0 : Nat} {f : Nat → Int32} (hd : decode (mCode a) pc = .ok (.invokevirtual 310, 3)) (ho : mOwn a = rc_ARR) (hi : nth h i = some (.inl (0, n0, .inl f))) (hfit : BF f) (hc8 : catS st ≤ 8) (hd1 : 1 ≤ d) (hcb : 1 ≤ cb) (hsb : n0 ≤ sb)
    (q : G P a K d (pc + 3) L (.ref h.length :: st) (h ++ [.inl (0, n0, .inl f)]) (cb - 1) (sb - n0)) : G P a K d pc L (.ref i :: st) h cb sb := by
  refine G_of fun p e R s m args below meth c H locs cells slots ls F Y V hx hb => ?_
  obtain ⟨-, -, hml, hr, hown, hts, hE, hlocks, -, htab, hfr, hlo⟩ := id F
  obtain ⟨hY1, hY2, hS, hWd⟩ := id Y
  have hc0 : H[gN P + i]? = some (vp_cell (gC P 0) (n0, .inl f)) := wd_arr hWd hi
  have hsz : (vp_cell (gC P 0) (n0, .inl f)).slots.size = n0 := arrV_size _ _ _
  have hcl := hE.2.2.2.2.1 _ w_c6
  obtain ⟨c0, t0', f1, f2, f3⟩ := Cond.castable_spec hcl
  cases (find_B hE).symm.trans f1
  intro T hT X
  obtain ⟨-, kA, hkA, comp, hkind⟩ := State.isArrayOf_alike X.warmed.alike (((Env_K hE).2 0 _ rfl).1 0 (fun _ => .null))
  obtain ⟨-, kS, hkS, compS, hkindS⟩ := ((Env_K hE).2 0 _ rfl).1 0 (fun _ => .null)
  rw [ho] at hown
  obtain ⟨vm', X', stp⟩ := X.cloneArray hx hown (hts _ w_c1) (hts _ w_c2) (hts _ w_c3) (hts _ w_c4) (hts _ w_c5) (a := gN P + i) (cell := vp_cell (gC P 0) (n0, .inl f)) (by rw [hT]; exact hc0) (fun k h => by cases h) (fun h => by cases h) (find_B hE) f2 f3
    (fun i v hv => by
      have hk' : T.vm.classes[gC P 0]? = some kA := hkA
      have hi9 : i < n0 := by
        have := (Array.getElem?_eq_some_iff.mp hv).1
        rw [hsz] at this
        exact this
      have hv2 : (vp_cell (gC P 0) (n0, .inl f)).slots[i]? = some (.int (f i)) := arrV_read _ _ hi9
      rw [hv2] at hv
      cases hv
      have hcls : (vp_cell (gC P 0) (n0, .inl f)).cls = gC P 0 := rfl
      rw [hcls]
      simpa [State.fitsSlot, State.slotType?, hk', hkind] using hfit i)
    (g := F0 m pc ls ((.ref i :: st : List Value).map (mV P))) rfl (by show ls.size = _; rw [hml]; exact V.1.1) (rest := st.map (mV P)) rfl (by rw [hb]; exact hd) (by omega)
    (by
      have := cat_room (P := P) (pc := pc) (ls := ls) (m := m) (stv := []) hc8
      have h0 : 2 * (F0 m pc ls []).monitorRoom = 0 := rfl
      show 2 * 0 + _ + 14 ≤ _
      omega) (by omega) (by rw [hsz]; omega) (hloader := Vm.clonesLoader_of_array hkS hkindS)
  have hcellE : ({ cls := (vp_cell (gC P 0) (n0, .inl f)).cls, slots := (vp_cell (gC P 0) (n0, .inl f)).slots } : Cell) = vp_cell (gC P 0) (n0, .inl f) := rfl
  rw [hcellE, hsz] at X'
  rw [hcellE] at stp
  have hz : H.size = gN P + h.length := hWd.1
  have z1 : (H.push (vp_cell (gC P 0) (n0, .inl f))).size = H.size + 1 := Array.size_push _
  have e1 : (H.push (vp_cell (gC P 0) (n0, .inl f)))[H.size]? = some (vp_cell (gC P 0) (n0, .inl f)) := Array.getElem?_push_size
  have o1 : ∀ q : Nat, q < H.size → (H.push (vp_cell (gC P 0) (n0, .inl f)))[q]? = H[q]? := fun q hq => by rw [Array.getElem?_push, if_neg (Nat.ne_of_lt hq)]
  obtain ⟨t, a1, b1⟩ := q p e R s m args below meth c (H.push (vp_cell (gC P 0) (n0, .inl f))) locs (cells + 1) (slots + n0) ls F ⟨by omega, by omega, ⟨Nat.le_trans hS.1 (by omega), fun x h1 h2 => (o1 x (Nat.lt_of_lt_of_le h1 hS.1)).trans (hS.2.1 x h1 h2), hS.2.2⟩, wd_push hWd z1 (by show (H.push _)[gN P + h.length]? = some _; rw [← hz]; exact e1) o1⟩ V
    ((T.setVm vm').pushCell (vp_cell (gC P 0) (n0, .inl f))) (by rw [← hT]; rfl) X'
  refine ⟨t, stp t ?_, b1⟩
  show Steps p.tables e below (((T.setVm vm').pushCell (vp_cell (gC P 0) (n0, .inl f))).setTop (F0 m (pc + 3) ls (.ref T.heap.size :: st.map (mV P)))) t
  rw [hT, hz]
  exact a1
theorem s_castA {i n0 : Nat} {f : Nat → Int32} (hd : decode (mCode a) pc = .ok (.checkcast 311, 3)) (ho : mOwn a = rc_ARR) (hi : nth h i = some (.inl (0, n0, .inl f))) (q : G P a K d (pc + 3) L (.ref i :: st) h cb sb) : G P a K d pc L (.ref i :: st) h cb sb := by
  refine G_of fun p e R s m args below meth c H locs cells slots ls F Y V hx hb => ?_
  have hown := F.2.2.2.2.1
  rw [ho] at hown
  exact va_castA (ws := [(gN P + i, .inl (gC P 0, n0, .inl f))]) hx hb hown (F.2.2.2.2.2.1 _ w_c7) (one_P (wd_arr Y.2.2.2 hi)) 0 rfl (find_B F.2.2.2.2.2.2.1) hd (q p e R s m args below meth c H locs cells slots ls F Y V)
end SPC
