/-! steps with more to them: comparisons, switches, cells -/
section SIM2
variable {P : GP} {a : Nat} {K : Kt} {d : Nat}
variable {k : Ct} {es : List Ent} {pc n x y z : Nat} {fl : Bool} {L : mLs} {st : List Value} {h : mH} {cb sb : Nat}
theorem inW : ∀ ci, ci < 5 → ∀ w ∈ u_ws (mCn ci) (mTt ci) (mNn ci), w ∈ TB := by
  have h : ∀ ci, ci < 5 → ∀ w ∈ u_ws (mCn ci) (mTt ci) (mNn ci), w ∈ lT ∧ okK 0 w = true := by decide +kernel
  exact fun ci hc w hw => TB_in (h ci hc w hw)
theorem mCl_at : ∀ ci, ci < 5 → mCl[ci]? = some (mCn ci, mTt ci, mNn ci)
  | 0, _ => rfl
  | 1, _ => rfl
  | 2, _ => rfl
  | 3, _ => rfl
  | 4, _ => rfl
  | _ + 5, h => absurd h (by omega)
theorem mTy_ok : ∀ ci, ci < 5 → ∀ k, k < mNn ci → parseFieldDescriptor (mTt ci k).2.2.1 = some (mTy ci k)
  | 0, _ => oT0
  | 1, _ => oT1
  | 2, _ => oT2
  | 3, _ => oT3
  | 4, _ => oT4
  | _ + 5, h => absurd h (by omega)
theorem mNm_ok : ∀ ci, ci < 5 → ∀ a, a < mNn ci → ∀ b, b < mNn ci → a ≠ b → (mTt ci a).2.1 ≠ (mTt ci b).2.1
  | 0, _ => nT0
  | 1, _ => nT1
  | 2, _ => nT2
  | 3, _ => nT3
  | 4, _ => nT4
  | _ + 5, h => absurd h (by omega)
theorem mDf_ok : ∀ ci, ci < 5 → ∀ j, j < mNn ci → defaultValue (mTy ci j) = vp_V ((mDf ci).map (mV P)) j := by
  intro ci hc j hj
  match ci, hc with
  | 0, _ => match j, hj with | 0, _ => rfl | 1, _ => rfl | 2, _ => rfl | 3, _ => rfl | _ + 4, h => exact absurd h (by simp only [mNn]; omega)
  | 1, _ => match j, hj with | 0, _ => rfl | 1, _ => rfl | 2, _ => rfl | 3, _ => rfl | _ + 4, h => exact absurd h (by simp only [mNn]; omega)
  | 2, _ => match j, hj with | 0, _ => rfl | 1, _ => rfl | 2, _ => rfl | 3, _ => rfl | 4, _ => rfl | 5, _ => rfl | _ + 6, h => exact absurd h (by simp only [mNn]; omega)
  | 3, _ => match j, hj with | 0, _ => rfl | 1, _ => rfl | _ + 2, h => exact absurd h (by simp only [mNn]; omega)
  | 4, _ => match j, hj with | 0, _ => rfl | 1, _ => rfl | 2, _ => rfl | 3, _ => rfl | 4, _ => rfl | 5, _ => rfl | 6, _ => rfl | _ + 7, h => exact absurd h (by simp only [mNn]; omega)
  | _ + 5, h => exact absurd h (by omega)
theorem one_P {D : va_G} {cl : List vw_C} {q : Nat × va_E} {H : Heap} (h : va_at D cl q H) : va_P D cl [q] H := fun k x hx => by
  match k, hx with
  | 0, hx => cases hx; exact h
  | _ + 1, hx => simp at hx
theorem wd_at {h : mH} {H : Heap} (w : Wd P h H) {i ci : Nat} {fs : List Value} (hi : nth h i = some (.inr (ci, fs))) (hc : ci < 5) : va_at (gD P) mCl (gN P + i, .inr (ci, fs.map (mV P))) H := w.2 i _ hi hc
theorem wd_arr {h : mH} {H : Heap} (w : Wd P h H) {i k n : Nat} {g : mAc} (hi : nth h i = some (.inl (k, n, g))) : va_at (gD P) mCl (gN P + i, .inl (gC P k, n, mRA P g)) H := w.2 i _ hi
theorem nth_map {α β : Type} (f : α → β) : ∀ (l : List α) (n : Nat), (l.map f)[n]? = (nth l n).map f
  | [], _ => by simp [nth]
  | _ :: _, 0 => by simp [nth]
  | _ :: t, n + 1 => by simp [nth, nth_map f t n]
theorem nth_lt {α : Type} {l : List α} {n : Nat} {x : α} (h : nth l n = some x) : n < l.length := by
  rw [nth_eq] at h
  exact (List.getElem?_eq_some_iff.mp h).1
theorem nth_set {α : Type} (l : List α) (i j : Nat) (x : α) : nth (l.set i x) j = if i = j then (if i < l.length then some x else none) else nth l j := by
  rw [nth_eq, nth_eq, List.getElem?_set]
theorem nth_app {α : Type} (l r : List α) (j : Nat) : nth (l ++ r) j = if j < l.length then nth l j else nth r (j - l.length) := by
  rw [nth_eq, nth_eq, nth_eq]
  by_cases h : j < l.length
  · rw [if_pos h, List.getElem?_append_left h]
  · rw [if_neg h, List.getElem?_append_right (by omega)]
theorem mC_kept {i : Nat} {c : va_E} {H H1 : Heap} (h : mC P i c H) (hq : H1[gN P + i]? = H[gN P + i]?) : mC P i c H1 := by
  unfold mC at h ⊢
  split at h
  · rw [hq]; exact h
  · exact fun hc => (h hc).kept hq
theorem wd_set {h : mH} {H H1 : Heap} (w : Wd P h H) {i : Nat} {c0 c : va_E} (hi : nth h i = some c0) (hz : H1.size = H.size) (hc : mC P i c H1) (ho : ∀ q : Nat, q ≠ gN P + i → H1[q]? = H[q]?) : Wd P (h.set i c) H1 := by
  refine ⟨by rw [hz, w.1, List.length_set], fun j x hj => ?_⟩
  rw [nth_set] at hj
  by_cases e : i = j
  · subst e
    rw [if_pos rfl, if_pos (nth_lt hi)] at hj
    cases hj
    exact hc
  · rw [if_neg e] at hj
    exact mC_kept (w.2 j x hj) (ho _ (by omega))
theorem wd_push {h : mH} {H H1 : Heap} (w : Wd P h H) {c : va_E} (hz : H1.size = H.size + 1) (hc : mC P h.length c H1) (ho : ∀ q : Nat, q < H.size → H1[q]? = H[q]?) : Wd P (h ++ [c]) H1 := by
  refine ⟨by rw [hz, w.1, List.length_append]; simp only [List.length_singleton]; omega, fun j x hj => ?_⟩
  rw [nth_app] at hj
  by_cases e : j < h.length
  · rw [if_pos e] at hj
    exact mC_kept (w.2 j x hj) (ho _ (by rw [w.1]; omega))
  · rw [if_neg e] at hj
    have : j = h.length := by
      have := nth_lt hj
      simp only [List.length_singleton] at this
      omega
    subst this
    rw [Nat.sub_self] at hj
    cases hj
    exact hc
theorem Env_K {U : State} (h : Env P U) : va_K (gD P) mCl (tys P) U := h.1
theorem s_lcmp (hk : Goes1 P a K d k) (hA : AllOk a) (o : OkE a (pc, .lcmp, n, x, y, z, fl)) (ho : IsE a es) (q : stepI P a K d k (pc, .lcmp, n, x, y, z, fl) es L st h cb sb) : G P a K d pc L st h cb sb := by
  obtain ⟨u, v, r, rfl, q1⟩ := p2l_of q
  obtain ⟨hd, hl, -⟩ := dec_of o
  have hn : n = 1 := Nat.eq_of_beq_eq_true hl
  subst hn
  cases es with
  | nil => exact q1.elim
  | cons e2 es2 =>
    obtain ⟨pc2, j, n2, x2, y2, z2, fl2⟩ := e2
    dsimp only at q1
    split at q1
    · rename_i hb2
      simp only [Bool.and_eq_true] at hb2
      have hp : pc2 = pc + 1 := Nat.eq_of_beq_eq_true hb2.1
      subst hp
      split at q1
      · rename_i cc v0
        obtain ⟨hd2, hl2, -⟩ := dec_of (ho _ List.mem_cons_self)
        unfold lnk at hl2
        simp only [Bool.and_eq_true, decide_eq_true_eq] at hl2
        have hn : n2 = 3 := Nat.eq_of_beq_eq_true hl2.1
        subst hn
        have ho2 : IsE a es2 := fun e he => ho e (List.mem_cons_of_mem _ he)
        refine G_of fun p e R s m args below meth c H locs cells slots ls F Y V hx hb => W.lcmp hx hb hd ?_
        have c1 : lg_cmp u v = 0 ↔ u = v := by
          unfold lg_cmp
          by_cases h1 : u > v
          · rw [if_pos h1]
            exact ⟨fun e => absurd e (by decide), fun e => by subst e; exact (Int64.lt_irrefl h1).elim⟩
          · rw [if_neg h1]
            by_cases h2 : u = v
            · rw [if_pos h2]; exact ⟨fun _ => h2, fun _ => rfl⟩
            · rw [if_neg h2]; exact ⟨fun e => absurd e (by decide), fun e => absurd e h2⟩
        have c2 : lg_cmp u v < 0 ↔ u < v := by
          have h9 := lg_cmp_ge u v
          rw [← Int32.not_le, h9, Int64.not_le]
        have c3 : 0 < lg_cmp u v ↔ v < u := by
          unfold lg_cmp
          by_cases h1 : u > v
          · rw [if_pos h1]
            exact ⟨fun _ => h1, fun _ => by decide⟩
          · rw [if_neg h1]
            by_cases h2 : u = v
            · rw [if_pos h2]; exact ⟨fun e => absurd e (by decide), fun e => absurd e h1⟩
            · rw [if_neg h2]; exact ⟨fun e => absurd e (by decide), fun e => absurd e h1⟩
        cases cc with
        | eq => exact lv_if_eq hx hb hd2 hl2.2 (fun w => jmp_go hk hA (q1.1 (c1.mp w)) p e R s m args below meth c H locs cells slots _ F Y V) (fun w => nxt_go hk ho2 (q1.2 (fun e => w (c1.mpr e))) p e R s m args below meth c H locs cells slots _ F Y V)
        | ne => exact lv_if_ne hx hb hd2 hl2.2 (fun w => jmp_go hk hA (q1.2 (fun e => w (c1.mpr e))) p e R s m args below meth c H locs cells slots _ F Y V) (fun w => nxt_go hk ho2 (q1.1 (c1.mp w)) p e R s m args below meth c H locs cells slots _ F Y V)
        | lt => exact lv_if_lt hx hb hd2 hl2.2 (fun w => jmp_go hk hA (q1.1 (c2.mp w)) p e R s m args below meth c H locs cells slots _ F Y V) (fun w => nxt_go hk ho2 (q1.2 (fun e => w (c2.mpr e))) p e R s m args below meth c H locs cells slots _ F Y V)
        | ge => exact lv_if_ge hx hb hd2 hl2.2 (fun w => jmp_go hk hA (q1.2 (fun e => Int32.not_lt.mpr w (c2.mpr e))) p e R s m args below meth c H locs cells slots _ F Y V) (fun w => nxt_go hk ho2 (q1.1 (c2.mp (Int32.not_le.mp w))) p e R s m args below meth c H locs cells slots _ F Y V)
        | gt => exact lv_if_gt hx hb hd2 hl2.2 (fun w => jmp_go hk hA (q1.1 (c3.mp w)) p e R s m args below meth c H locs cells slots _ F Y V) (fun w => nxt_go hk ho2 (q1.2 (fun e => w (c3.mpr e))) p e R s m args below meth c H locs cells slots _ F Y V)
        | le => exact lv_if_le hx hb hd2 hl2.2 (fun w => jmp_go hk hA (q1.2 (fun e => Int32.not_lt.mpr w (c3.mpr e))) p e R s m args below meth c H locs cells slots _ F Y V) (fun w => nxt_go hk ho2 (q1.1 (c3.mp (Int32.not_le.mp w))) p e R s m args below meth c H locs cells slots _ F Y V)
      · exact q1.elim
    · exact q1.elim
theorem swi_of {f : Nat → Prop} {df : Nat} : ∀ {l : List (Int32 × Nat)} {v : Int32}, swi l v f df → (∃ j q, nth l j = some q ∧ v = q.1 ∧ f q.2) ∨ ((∀ j q, nth l j = some q → v ≠ q.1) ∧ f df)
  | [], v, q => Or.inr ⟨fun j q h => by simp [nth] at h, q⟩
  | q0 :: r, v, q => by
    by_cases e : v = q0.1
    · exact Or.inl ⟨0, q0, rfl, e, q.1 e⟩
    · rcases swi_of (q.2 e) with ⟨j, q9, h1, h2, h3⟩ | ⟨h1, h2⟩
      · exact Or.inl ⟨j + 1, q9, h1, h2, h3⟩
      · refine Or.inr ⟨fun j q9 hj => ?_, h2⟩
        cases j with
        | zero => cases hj; exact e
        | succ j => exact h1 j q9 hj
theorem s_tableswitch {df lo hi : Int} {offs : Array Int} (hk : Goes1 P a K d k) (hA : AllOk a) (o : OkE a (pc, .tableswitch df lo hi offs, n, x, y, z, fl)) (ho : IsE a es) (q : stepI P a K d k (pc, .tableswitch df lo hi offs, n, x, y, z, fl) es L st h cb sb) : G P a K d pc L st h cb sb := by
  obtain ⟨v, r, rfl, q1⟩ := p1i_of q
  obtain ⟨hd, hl, -⟩ := dec_of o
  unfold lnk at hl
  cases hs : nth kS z with
  | none => rw [hs] at q1; exact q1.elim
  | some l =>
    rw [hs] at q1 hl
    dsimp only at q1 hl
    simp only [Bool.and_eq_true, decide_eq_true_eq] at hl
    obtain ⟨⟨h1, h2⟩, h3, h4⟩ := hl
    have h5 : ∀ j, j < l.length → ∃ q, nth l j = some q ∧ q.1.toInt = (j : Int) ∧ ∃ o, offs[j]? = some o ∧ (pc : Int) + o = (q.2 : Int) := fun j hj => of_decide_eq_true (List.all_eq_true.mp h4 j (List.mem_range.mpr hj))
    subst h2
    refine G_of fun p e R s m args below meth c H locs cells slots ls F Y V hx hb => ?_
    rcases swi_of q1 with ⟨j, q9, g1, g2, g3⟩ | ⟨g1, g2⟩
    · obtain ⟨q8, e1, e2, o8, e3, e4⟩ := h5 j (nth_lt g1)
      rw [g1] at e1
      cases e1
      have hj := nth_lt g1
      have hv : v.toInt = (j : Int) := by rw [g2]; exact e2
      refine lv_tableIn hx hb hd (by rw [hv]; omega) (by rw [hv]; omega) (off := o8) (by rw [hv, Int.sub_zero, Int.toNat_natCast]; exact e3) e4 ?_
      exact jmp_go hk hA g3 p e R s m args below meth c H locs cells slots _ F Y V
    · refine lv_tableOut hx hb hd ?_ h1 (jmp_go hk hA g2 p e R s m args below meth c H locs cells slots _ F Y V)
      by_cases c1 : v.toInt < 0
      · exact Or.inl c1
      · refine Or.inr ?_
        by_cases c2 : hi < v.toInt
        · exact c2
        · exfalso
          obtain ⟨q8, e1, e2, -⟩ := h5 v.toInt.toNat (by omega)
          refine g1 _ _ e1 (Int32.toInt_inj.mp ?_)
          rw [e2]
          omega
end SIM2
