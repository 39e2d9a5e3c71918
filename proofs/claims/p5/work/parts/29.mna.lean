/-! rows of rows, made at once; the three objects made -/
theorem oOut (c : ClassId) (N h0 : Nat) (i : Nat) : Jvm.Free.Multi.outerC c N h0 i = arrV c N (fun j => va_rf (if j < i then some (h0 + 1 + j) else none)) := by
  induction i with
  | zero =>
    show ({ cls := c, slots := Array.replicate N .null, vm := .none } : Cell) = _
    rw [arrV_new]
    exact congrArg (arrV c N) (funext fun j => by simp [va_rf])
  | succ i ih =>
    show (Jvm.Free.Multi.outerC c N h0 i).setSlot i (.ref (h0 + 1 + i)) = _
    rw [ih, arrV_store]
    refine congrArg (arrV c N) (funext fun j => ?_)
    by_cases e : j = i
    · subst e
      simp [updV, va_rf]
    · by_cases h : j < i
      · simp [updV, e, h, Nat.lt_succ_of_lt h]
      · simp [updV, e, h, show ¬ j < i + 1 by omega]
def oRow (M : Nat) : va_E := .inl (1, M, .inl (fun _ => 0))
def oOut9 (N b : Nat) : va_E := .inl (3, N, .inr (.inr (.inr (.inr (fun i => if i < N then some (b + 1 + i) else none)))))
theorem nth_rep {α : Type} (x : α) : ∀ (n j : Nat) (y : α), nth (List.replicate n x) j = some y → y = x ∧ j < n
  | 0, _, _, h => by cases h
  | _ + 1, 0, _, h => by
    cases h
    exact ⟨rfl, Nat.succ_pos _⟩
  | n + 1, j + 1, y, h => by
    obtain ⟨h1, h2⟩ := nth_rep x n j y h
    exact ⟨h1, Nat.succ_lt_succ h2⟩
section MNA
variable {P : GP} {K : Kt} {d cb sb : Nat} {L : mLs} {st : List Value} {h : mH}
theorem wd_app {l : mH} {H H1 : Heap} (w : Wd P h H) (hz : H1.size = H.size + l.length) (hc : ∀ j c, nth l j = some c → mC P (h.length + j) c H1) (ho : ∀ q : Nat, q < H.size → H1[q]? = H[q]?) : Wd P (h ++ l) H1 := by
  refine ⟨by rw [hz, w.1, List.length_append]; omega, fun j x hj => ?_⟩
  rw [nth_app] at hj
  by_cases e : j < h.length
  · rw [if_pos e] at hj
    exact mC_kept (w.2 j x hj) (ho _ (by rw [w.1]; omega))
  · rw [if_neg e] at hj
    have := hc _ _ hj
    rw [show h.length + (j - h.length) = j by omega] at this
    exact this
theorem w_m1 : Cond.classLink rc_M 20 "[[I" ∈ TB := TB_in ⟨nth_mem (n := 998) (by decide +kernel), by decide +kernel⟩
theorem w_m3 : Cond.arrayClass .int ∈ TB := TB_in ⟨nth_mem (n := 78) (by decide +kernel), by decide +kernel⟩
theorem d_m43 : decode (mCode n_M_new) 43 = .ok (.multianewarray 20 2, 4) := by decide +kernel
theorem s_mna {n k : Int32} {N M : Nat} (hnn : ¬ n < 0) (hkk : ¬ k < 0) (hN : n.toNatClampNeg = N) (hM : k.toNatClampNeg = M) (hN2 : N ≤ 100) (hM2 : M ≤ 100) (hcb : 1 + N ≤ cb) (hsb : N + N * M ≤ sb)
    (q : G P n_M_new K d 47 L (.ref h.length :: st) (h ++ (oOut9 N h.length :: List.replicate N (oRow M))) (cb - (1 + N)) (sb - (N + N * M))) : G P n_M_new K d 43 L (.int k :: .int n :: st) h cb sb := by
  refine G_of fun p e R s m args below meth c H locs cells slots ls F Y V hx hb => ?_
  obtain ⟨hY1, hY2, hS, hWd⟩ := id Y
  have hE := F.2.2.2.2.2.2.1
  intro T hT Xs
  obtain ⟨vm₁, cA, comp, -, fA, fC, -, -, X', stp⟩ := Xs.multianewarray2F (own := rc_M) (index := 20) (ty := .int) hx F.2.2.2.2.1 (F.2.2.2.2.2.1 _ w_m1) (over_moved (Vm.Alike.refl _) hE.2.2.2.2.2.2.2.2.2.2.2.2.2.2.2.2) (F.2.2.2.2.2.1 _ w_m3) (g := F0 m 43 ls ((.int k :: .int n :: st : List Value).map (mV P))) rfl (by rw [hb]; exact d_m43) (n := n) (k := k) (rest := st.map (mV P)) rfl hnn hkk (by rw [hN]; omega) (by rw [hM]; show M * 4 ≤ _; omega) (by rw [hM]; omega) rfl rfl (by rw [hN]; omega) (by rw [hN, hM]; omega)
  rw [hN, hM] at X' stp
  have g3 : gC P 3 = cA := arrK hE (k9 := 3) (ty := .array .int) rfl fA (fun _ e => by cases e)
  have g1 : gC P 1 = comp := arrK hE (k9 := 1) (ty := .int) rfl fC (fun _ e => by cases e)
  have hTh : (T.setVm vm₁).heap = H := hT
  obtain ⟨f1, f2, -, -⟩ := Jvm.Free.Multi.fill_facts (T.setVm vm₁) cA comp N M (defaultValue .int) N
  have hold := fun (x : Nat) (hx : x < (T.setVm vm₁).heap.size) => Jvm.Free.Multi.fill_old (T.setVm vm₁) cA comp N M (defaultValue .int) (a := x) hx N
  have hrow := fun (j : Nat) (hj : j < N) => Jvm.Free.Multi.fill_inner (T.setVm vm₁) cA comp N M (defaultValue .int) N j hj
  generalize Jvm.Free.Multi.fill (T.setVm vm₁) cA comp N M (defaultValue .int) N = Fs at X' stp f1 f2 hold hrow
  rw [hTh] at f1 f2 hold hrow
  have hz : H.size = gN P + h.length := hWd.1
  have hW2 : Wd P (h ++ (oOut9 N h.length :: List.replicate N (oRow M))) Fs.heap := by
    refine wd_app hWd (by rw [f1, List.length_cons, List.length_replicate]; omega) (fun j c9 hj => ?_) hold
    cases j with
    | zero =>
      cases hj
      show Fs.heap[gN P + (h.length + 0)]? = some (vp_cell (gC P 3) (N, .inr (.inr (.inr (.inr (fun i => (if i < N then some (h.length + 1 + i) else none : Option Nat).map (fun i => gN P + i)))))))
      rw [show gN P + (h.length + 0) = H.size by omega, f2, oOut, g3, vp_cell_q]
      refine congrArg (fun f => some (arrV cA N f)) (funext fun i => ?_)
      by_cases hi : i < N
      · rw [if_pos hi, if_pos hi]
        show Value.ref (H.size + 1 + i) = Value.ref (gN P + (h.length + 1 + i))
        rw [show H.size + 1 + i = gN P + (h.length + 1 + i) by omega]
      · rw [if_neg hi, if_neg hi]
        rfl
    | succ j =>
      obtain ⟨rfl, h9⟩ := nth_rep _ _ _ _ (show nth (List.replicate N (oRow M)) j = some c9 from hj)
      show Fs.heap[gN P + (h.length + (j + 1))]? = some (vp_cell (gC P 1) (M, .inl (fun _ => 0)))
      have := hrow j h9
      rw [show gN P + (h.length + (j + 1)) = H.size + 1 + j by omega, this, g1]
      show some ({ cls := comp, slots := Array.replicate M (.int 0), vm := .none } : Cell) = _
      rw [arrV_new, vp_cell_i]
  obtain ⟨t, a1, b1⟩ := q p e R s m args below meth c Fs.heap locs (cells + 1 + N) (slots + N + N * M) ls F ⟨by omega, by omega, ⟨by rw [f1]; have := hS.1; omega, fun x h1 h2 => (hold x (Nat.lt_of_lt_of_le h1 hS.1)).trans (hS.2.1 x h1 h2), hS.2.2⟩, hW2⟩ V Fs rfl X'
  refine ⟨t, stp t ?_, b1⟩
  show Steps p.tables e below (Fs.setTop (F0 m 47 ls (.ref T.heap.size :: st.map (mV P)))) t
  rw [show T.heap.size = gN P + h.length by rw [hT, hz]]
  exact a1
def mod0 : Nat → Int32 := upd (upd (upd (fun _ => 0) 0 7) 1 10) 2 (-12)
def xs0 : XS := (fun _ => 0, fun _ => 0, mod0, fun _ => 0, 0, 0)
def ms0 : MS := (0, fun _ => 0, fun _ => 0, mod0, fun _ _ => 0, 0, 0)
theorem L_Xnew (hK : K (.inl none) (hx xs0 [])) : M P n_X_new [.ref 0] [.inr (2, mDf 2)] 4 23 9 K := by
  refine Mgo ok_X_new 60 rfl ?_
  refine ⟨by decide, ?_⟩
  refine ⟨by decide, ?_⟩
  refine ⟨by decide, ?_⟩
  refine ⟨by rw [vp_in_iff]; decide, ?_⟩
  refine ⟨by rw [vp_in_iff]; decide, ?_⟩
  refine ⟨by rw [vp_in_iff]; decide, ?_⟩
  refine ⟨by decide, ?_⟩
  exact hK
theorem L_Onew {b : Nat} (hK : K (.inl none) h) : M P n_O_new [.ref b] h 0 0 9 K := by
  refine Mgo ok_O_new 60 rfl ?_
  exact hK
theorem L_Mnew {x : XS} (hK : K (.inl none) (hm ms0 x [])) : M P n_M_new [.ref 5] (hx x [.inr (4, mDf 4)]) 7 26 9 K := by
  refine Mgo ok_M_new 29 rfl ?_
  refine ⟨by decide, ?_⟩
  refine ⟨by decide, ?_⟩
  refine ⟨by decide, ?_⟩
  refine ⟨by rw [vp_in_iff]; decide, ?_⟩
  refine ⟨by rw [vp_in_iff]; decide, ?_⟩
  refine ⟨by rw [vp_in_iff]; decide, ?_⟩
  refine s_mna (N := 3) (M := 4) (by decide) (by decide) (by decide) (by decide) (by decide) (by decide) (by decide) (by decide) ?_
  refine go ok_M_new 80 ?_
  exact hK
end MNA
