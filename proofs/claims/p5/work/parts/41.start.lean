/-! THE START: what every method finds -/
theorem nc_rep {P : GP} {h : mH} {H : Heap} {i k n : Nat} {g g' : Nat → Int32} (w : Wd P h H) (hi : nth h i = some (.inl (k, n, .inl g))) (hg : ∀ j, j < n → g j = g' j) : Wd P (h.set i (.inl (k, n, .inl g'))) H := by
  refine wd_set w hi rfl ?_ (fun _ _ => rfl)
  have h1 : H[gN P + i]? = some (vp_cell (gC P k) (n, .inl g)) := wd_arr w hi
  show H[gN P + i]? = some (vp_cell (gC P k) (n, .inl g'))
  rw [h1, vp_cell_i, vp_cell_i]
  unfold arrV
  congr 3
  funext j
  show Value.int (g j.1) = Value.int (g' j.1)
  rw [hg j.1 j.2]
theorem G_ext {P : GP} {a : Nat} {K : Kt} {d pc : Nat} {L : mLs} {st : List Value} {h h' : mH} {cb sb : Nat} (hw : ∀ H, Wd P h H → Wd P h' H) (q : G P a K d pc L st h' cb sb) : G P a K d pc L st h cb sb := by
  intro p e R s m args below meth c H locs cells slots ls F Y V
  exact q p e R s m args below meth c H locs cells slots ls F ⟨Y.1, Y.2.1, Y.2.2.1, hw _ Y.2.2.2⟩ V
def mod1 : Nat → Int32 := upd (upd (upd (fun _ => 1) 0 7) 1 10) 2 (-12)
theorem mod01 : ∀ j, j < 3 → mod0 j = mod1 j
  | 0, _ => rfl
  | 1, _ => rfl
  | 2, _ => rfl
  | _ + 3, h => absurd h (by omega)
theorem mod1_nz (j : Nat) : ¬ mod1 j = 0 := by
  unfold mod1 upd
  by_cases h2 : j = 2
  · rw [if_pos h2]
    decide
  · rw [if_neg h2]
    by_cases h1 : j = 1
    · rw [if_pos h1]
      decide
    · rw [if_neg h1]
      by_cases h0 : j = 0
      · rw [if_pos h0]
        decide
      · rw [if_neg h0]
        show ¬ (1 : Int32) = 0
        decide
def xs1 : XS := (fun _ => 0, fun _ => 0, mod1, fun _ => 0, 0, 0)
def ms1 : MS := (0, fun _ => 0, fun _ => 0, mod1, fun _ _ => 0, 0, 0)
def K1 : Kt := fun r _ => r = .inl (some (.int 1))
theorem rel_1 : Rel xs1 ms1 := ⟨rfl, rfl, fun _ => rt_I 0, rfl, mod1_nz, fun _ _ _ _ => rfl, rfl, rfl⟩
theorem l_start {P : GP} (hL : gL P ≤ 3072) : G P n_K_law K1 30 0 [some (.retAddr 0), none, none, none, none, none, none] [] [] 601024 7293034 := by
  refine go ok_K_law 60 ?_
  refine ⟨⟨Nat.le_of_ble_eq_true rfl, Nat.le_of_ble_eq_true rfl⟩, ?_⟩
  refine ⟨_, _, _, L_Xnew ?_, Nat.le_of_ble_eq_true rfl, Nat.le_of_ble_eq_true rfl, by decide⟩
  refine ⟨⟨Nat.le_of_ble_eq_true rfl, Nat.le_of_ble_eq_true rfl⟩, ?_⟩
  refine ⟨_, _, _, L_Mnew ?_, Nat.le_of_ble_eq_true rfl, Nat.le_of_ble_eq_true rfl, by decide⟩
  refine ⟨⟨Nat.le_of_ble_eq_true rfl, Nat.le_of_ble_eq_true rfl⟩, ?_⟩
  refine ⟨_, _, _, L_Onew ?_, Nat.le_of_ble_eq_true rfl, Nat.le_of_ble_eq_true rfl, by decide⟩
  refine G_ext (h' := hm ms1 xs1 (oc 0 .null :: [])) (fun H w => ?_) ?_
  · have w1 := nc_rep (i := 3) (g' := mod1) w rfl mod01
    exact nc_rep (i := 8) (g' := mod1) w1 rfl mod01
  · exact l_law hL (fun _ => rfl) 512 0 xs1 ms1 0 .null [] _ _ (by decide) (by
      have : (0 : Int32).toInt = 0 := by decide
      omega) rel_1 (Nat.le_of_ble_eq_true rfl) (Nat.le_of_ble_eq_true rfl)
theorem lx_ok {args : Array Value} {s : State} (hts : ∀ w ∈ lw_tbl, w.before args s = true) : ∀ w ∈ lx, w.before args s = true := by
  have w0 := hts (.selects rc_SB ⟨rc_ASB, "isLatin1", "()Z"⟩ ⟨rc_ASB, "isLatin1", "()Z"⟩) (by decide +kernel)
  have key : ∀ y ∈ lxM, y.cls = rc_ASB ∧ Jvm.Cond.privateMethod y ∈ lw_tbl ∧ Jvm.Cond.instanceMethod y ∈ lw_tbl := by decide +kernel
  obtain ⟨c, r, m9, hc, -, hm9, -, k9, hk9, hi9⟩ := Jvm.Cond.selects_spec w0
  intro w hw
  obtain ⟨y, hy, rfl⟩ := List.mem_map.mp hw
  obtain ⟨hy0, hy1, hy2⟩ := key y hy
  obtain ⟨mk, methM, hnamed, hmethM, -, -⟩ := Jvm.Cond.instanceMethod_spec (hts _ hy2)
  have hfound : s.methodFound? y.cls y.name y.desc = some mk := State.methodFound?_of_named hnamed (by rw [hy0]; decide)
  have hcls : mk.cls = m9.cls := Option.some.inj ((findClass_of_methodNamed hnamed).symm.trans ((by rw [hy0] : s.vm.findClass y.cls = s.vm.findClass rc_ASB).trans (findClass_of_methodNamed hm9)))
  have hsel : selectMethod {} s.vm c mk = .method mk := selectMethod_private hmethM (Jvm.Cond.privateMethod_at (hts _ hy1) mk methM hnamed hmethM)
  have hk2 : s.vm.classes[mk.cls]? = some k9 := by rw [hcls]; exact hk9
  simp only [Jvm.Cond.before, Jvm.Cond.holds, Jvm.Cond.value, hc, hfound, hnamed, hsel, hk2]
  simp
  exact hi9
