/-! THE START: what the Statement gives of it -/
section ST
variable {s : State} {b : Nat}
def fl0 : List Jvm.Cond := flatC (Jvm.Cond.and given_1 narrow_1)
theorem st_arr {args : Array Value} {ty : FieldType} (h : (Jvm.Cond.arrayClass ty).before args s = true) : ∃ cA : ClassId, ArrOfT s cA ty ∧ s.vm.findClass ("[" ++ ty.toString) = some cA := by
  obtain ⟨cA, kC, cc, h1, h2, h3⟩ := Jvm.Cond.arrayClass_spec h
  exact ⟨cA, fun n z => ⟨fun _ e => (by cases e), kC, h2, cc, h3⟩, h1⟩
theorem st_arrA {args : Array Value} (h : (Jvm.Cond.arrayOver (.array .int)).before args s = true) : ∃ cA : ClassId, ArrOfT s cA (.array .int) ∧ s.vm.findClass ("[" ++ (FieldType.array .int).toString) = some cA := by
  obtain ⟨comp, c, k, hc, hi, hk, hkind, hn⟩ := arrayOverA_spec h
  exact ⟨c, fun n z => ⟨fun _ e => (by cases e), k, hk, comp, hkind⟩, hn⟩
theorem ne_heap (s : State) : ∀ a : Nat, a < s.heap.size → ¬ (fun q : Nat => s.heap.size ≤ q) a := fun _ h h2 => absurd h (Nat.not_lt.mpr h2)
theorem nth_drop' {α : Type} : ∀ (l : List α) (k j : Nat), nth (l.drop k) j = nth l (k + j) := fun l k j => by rw [nth_eq, nth_eq, List.getElem?_drop]
def xTen (j : Nat) : Jvm.Cond := .eq (.elem (.static "java/lang/Integer" "DigitTens" "[B") (.int (Int32.ofNat j))) (.int (dTen j))
def xOne (j : Nat) : Jvm.Cond := .eq (.elem (.static "java/lang/Integer" "DigitOnes" "[B") (.int (Int32.ofNat j))) (.int (dOne j))
theorem m_ten0 : (fl0.drop 117).take 20 = (List.range 20).map (fun j => xTen (0 + j)) := by rfl
theorem m_ten20 : (fl0.drop 137).take 20 = (List.range 20).map (fun j => xTen (20 + j)) := by rfl
theorem m_ten40 : (fl0.drop 157).take 20 = (List.range 20).map (fun j => xTen (40 + j)) := by rfl
theorem m_ten60 : (fl0.drop 177).take 20 = (List.range 20).map (fun j => xTen (60 + j)) := by rfl
theorem m_ten80 : (fl0.drop 197).take 20 = (List.range 20).map (fun j => xTen (80 + j)) := by rfl
theorem m_ten : ∀ j, j < 100 → xTen j ∈ fl0 := fun j hj => by
  have key : ∀ a, (fl0.drop (117 + a)).take 20 = (List.range 20).map (fun j => xTen (a + j)) → a ≤ j → j < a + 20 → xTen j ∈ fl0 := fun a h h1 h2 => by
    have hm : xTen j ∈ (List.range 20).map (fun j => xTen (a + j)) := List.mem_map.mpr ⟨j - a, List.mem_range.mpr (by omega), by rw [show a + (j - a) = j by omega]⟩
    rw [← h] at hm
    exact List.mem_of_mem_drop (List.mem_of_mem_take hm)
  by_cases h1 : j < 20
  · exact key 0 m_ten0 (by omega) (by omega)
  · by_cases h2 : j < 40
    · exact key 20 m_ten20 (by omega) (by omega)
    · by_cases h3 : j < 60
      · exact key 40 m_ten40 (by omega) (by omega)
      · by_cases h4 : j < 80
        · exact key 60 m_ten60 (by omega) (by omega)
        · exact key 80 m_ten80 (by omega) (by omega)
theorem m_one0 : (fl0.drop 14).take 20 = (List.range 20).map (fun j => xOne (0 + j)) := by rfl
theorem m_one20 : (fl0.drop 34).take 20 = (List.range 20).map (fun j => xOne (20 + j)) := by rfl
theorem m_one40 : (fl0.drop 54).take 20 = (List.range 20).map (fun j => xOne (40 + j)) := by rfl
theorem m_one60 : (fl0.drop 74).take 20 = (List.range 20).map (fun j => xOne (60 + j)) := by rfl
theorem m_one80 : (fl0.drop 94).take 20 = (List.range 20).map (fun j => xOne (80 + j)) := by rfl
theorem m_one : ∀ j, j < 100 → xOne j ∈ fl0 := fun j hj => by
  have key : ∀ a, (fl0.drop (14 + a)).take 20 = (List.range 20).map (fun j => xOne (a + j)) → a ≤ j → j < a + 20 → xOne j ∈ fl0 := fun a h h1 h2 => by
    have hm : xOne j ∈ (List.range 20).map (fun j => xOne (a + j)) := List.mem_map.mpr ⟨j - a, List.mem_range.mpr (by omega), by rw [show a + (j - a) = j by omega]⟩
    rw [← h] at hm
    exact List.mem_of_mem_drop (List.mem_of_mem_take hm)
  by_cases h1 : j < 20
  · exact key 0 m_one0 (by omega) (by omega)
  · by_cases h2 : j < 40
    · exact key 20 m_one20 (by omega) (by omega)
    · by_cases h3 : j < 60
      · exact key 40 m_one40 (by omega) (by omega)
      · by_cases h4 : j < 80
        · exact key 60 m_one60 (by omega) (by omega)
        · exact key 80 m_one80 (by omega) (by omega)
theorem st_dig {args : Array Value} {nm : String} {f : Nat → Int32} (hs : ∀ w ∈ fl0, w.before args s = true) (hts : ∀ w ∈ lw_tbl, w.before args s = true) (h1 : Jvm.Cond.arrayOf (.static "java/lang/Integer" nm "[B") .byte ∈ fl0) (h2 : Jvm.Cond.eq (.length (.static "java/lang/Integer" nm "[B")) (.int 100) ∈ fl0)
    (h3 : ∀ j, j < 100 → Jvm.Cond.eq (.elem (.static "java/lang/Integer" nm "[B") (.int (Int32.ofNat j))) (.int (f j)) ∈ fl0) (h4 : Jvm.Cond.laysStatic "java/lang/Integer" nm "[B" ∈ lw_tbl) (h5 : Jvm.Cond.initialized "java/lang/Integer" ∈ lw_tbl) :
    ∃ t : Nat, va_Z "java/lang/Integer" nm "[B" (.ref t) (fun q : Nat => s.heap.size ≤ q) s s.heap ∧ va_T .byte t 100 (fun j => .int (f j)) (fun q : Nat => s.heap.size ≤ q) s s.heap := by
  obtain ⟨t, ht, hT⟩ := va_Tof (N := 100) (f := fun j => .int (f j)) (A := fun q : Nat => s.heap.size ≤ q) (by decide) (hs _ h1) (va_eqt (hs _ h2)) (fun j hj => va_eqt (hs _ (h3 j hj))) (ne_heap s)
  exact ⟨t, va_Zof (hts _ h4) (hts _ h5) ht (ne_heap s), hT⟩
def tmS (i : Nat) : Jvm.Term := match i with | 0 => .string "ModringsModel" 98 | 1 => .string "ModringsModel" 156 | _ => .string "ModringsModel" 158
theorem st_str {args : Array Value} (hs : ∀ w ∈ fl0, w.before args s = true) : ∃ adK adV : Nat → Nat, vk_S 3 kSl kSb adK adV (fun q : Nat => s.heap.size ≤ q) s s.heap ∧ ∀ i : Nat, i < 3 → (tmS i).eval args s none [] s = some (.ref (adK i)) := by
  have m1 : ∀ i, i < 3 → Jvm.Cond.exactly (tmS i) "java/lang/String" ∈ fl0 := by decide +kernel
  have m2 : ∀ i, i < 3 → Jvm.Cond.eq (.field (tmS i) "java/lang/String" "code\x72" "B") (.int 0) ∈ fl0 := by decide +kernel
  have m3 : ∀ i, i < 3 → Jvm.Cond.arrayOf (.field (tmS i) "java/lang/String" "value" "[B") .byte ∈ fl0 := by decide +kernel
  have m4 : ∀ i, i < 3 → Jvm.Cond.eq (.length (.field (tmS i) "java/lang/String" "value" "[B")) (.int (Int32.ofNat (kSl.getD i 0))) ∈ fl0 := by decide +kernel
  have m5 : ∀ i, i < 3 → ∀ j, j < kSl.getD i 0 → Jvm.Cond.eq (.elem (.field (tmS i) "java/lang/String" "value" "[B") (.int (Int32.ofNat j))) (.int ((kSb.getD i []).getD j 0)) ∈ fl0 := by decide +kernel
  have m6 : ∀ i, i < 3 → ∀ j, j < 3 → i ≠ j → Jvm.Cond.not (Jvm.Cond.eq (tmS i) (tmS j)) ∈ fl0 ∨ Jvm.Cond.not (Jvm.Cond.eq (tmS j) (tmS i)) ∈ fl0 := by decide +kernel
  have m7 : ∀ i, i < 3 → kSl.getD i 0 < 2 ^ 31 := by decide
  exact vk_Sof (tm := tmS) m7 (fun i hi => hs _ (m1 i hi)) (fun i hi => hs _ (m2 i hi)) (fun i hi => hs _ (m3 i hi)) (fun i hi => hs _ (m4 i hi)) (fun i hi j hj => hs _ (m5 i hi j hj)) (fun i j hi hj e => (m6 i hi j hj e).imp (fun h => hs _ h) (fun h => hs _ h)) (ne_heap s)
theorem st_LR {args : Array Value} (hs : ∀ w ∈ fl0, w.before args s = true) (hts : ∀ w ∈ lw_tbl, w.before args s = true) : ∀ q ∈ LR, ∃ sa : Nat, vk_R q.1 q.2.1 q.2.2 sa s := by
  have key : ∀ q ∈ LR, Jvm.Cond.stringRef q.1 q.2.1 q.2.2 ∈ lw_tbl ∧ Jvm.Cond.exactly (.string q.1 q.2.1) "java/lang/String" ∈ fl0 := by decide +kernel
  intro q hq
  obtain ⟨h1, h2⟩ := key q hq
  obtain ⟨a, c, cA, kA, q1, -⟩ := Jvm.Cond.exactly_spec (hs _ h2)
  exact ⟨a, vk_R.of (hts _ h1) q1⟩
def gAf (b : Nat) (adK adV : Nat → Nat) (t1 t2 : Nat) : Nat → Nat := fun c => match c with
  | 0 => b
  | 10 => adK 0
  | 11 => adK 1
  | 12 => adK 2
  | 30 => adV 0
  | 31 => adV 1
  | 32 => adV 2
  | 50 => t1
  | _ => t2
theorem st_env {args : Array Value} {L : Nat} {xs : Nat → Int32} {l : Launch} (hs : ∀ w ∈ fl0, w.before args s = true) (hts : ∀ w ∈ lw_tbl, w.before args s = true) (hX : va_X b L xs s s.heap) (hbl : b < s.heap.size) (hst : l.stackTraces = false) :
    ∃ P : GP, gl P = l ∧ gN P = s.heap.size ∧ gA P 0 = b ∧ gL P = L ∧ Env P s ∧ ∀ w ∈ TB, w.before args s = true := by
  have hlT : ∀ w ∈ lT, w.before args s = true := fun w hw => (List.mem_append.mp hw).elim (hts w) (lx_ok hts w)
  have hTB : ∀ w ∈ TB, w.before args s = true := fun w hw => hlT w (List.mem_filter.mp hw).1
  obtain ⟨c0, i0, k0⟩ := u_known (C := mCn 0) (T := mTt 0) (N := mNn 0) (n := 4) hTB (inW 0 (by decide)) (hts (.instantiable rc_STR 4) (by decide +kernel))
  obtain ⟨c1, i1, k1⟩ := u_known (C := mCn 1) (T := mTt 1) (N := mNn 1) (n := 4) hTB (inW 1 (by decide)) (hts (.instantiable rc_SB 4) (by decide +kernel))
  obtain ⟨c2, i2, k2⟩ := u_known (C := mCn 2) (T := mTt 2) (N := mNn 2) (n := 6) hTB (inW 2 (by decide)) (hts (.instantiable rc_X 6) (by decide +kernel))
  obtain ⟨c3, i3, k3⟩ := u_known (C := mCn 3) (T := mTt 3) (N := mNn 3) (n := 2) hTB (inW 3 (by decide)) (hts (.instantiable rc_O 2) (by decide +kernel))
  obtain ⟨c4, i4, k4⟩ := u_known (C := mCn 4) (T := mTt 4) (N := mNn 4) (n := 7) hTB (inW 4 (by decide)) (hts (.instantiable rc_M 7) (by decide +kernel))
  obtain ⟨aB, hB1, hB2⟩ := st_arr (hts (.arrayClass .byte) (by decide +kernel))
  obtain ⟨aI, hI1, hI2⟩ := st_arr (hts (.arrayClass .int) (by decide +kernel))
  obtain ⟨aL, hL1, hL2⟩ := st_arr (hts (.arrayClass .long) (by decide +kernel))
  have hAO : (Jvm.Cond.arrayOver (.array .int)).before args s = true := hts _ (by decide +kernel)
  obtain ⟨aA, hA1, hA2⟩ := st_arrA hAO
  obtain ⟨t1, hz1, ht1⟩ := st_dig (nm := "DigitTens") (f := dTen) hs hts (by decide +kernel) (by decide +kernel) m_ten (by decide +kernel) (by decide +kernel)
  obtain ⟨t2, hz2, ht2⟩ := st_dig (nm := "DigitOnes") (f := dOne) hs hts (by decide +kernel) (by decide +kernel) m_one (by decide +kernel) (by decide +kernel)
  obtain ⟨adK, adV, hS, hev⟩ := st_str hs
  refine ⟨(l, ((fun k => match k with | 0 => c0 | 1 => c1 | 2 => c2 | 3 => c3 | _ => c4), (fun k => match k with | 0 => i0 | 1 => i1 | 2 => i2 | 3 => i3 | _ => i4)), (fun k => match k with | 0 => aB | 1 => aI | 2 => aL | _ => aA), gAf b adK adV t1 t2, s.heap.size, xs, L), rfl, rfl, rfl, rfl, ?_, hTB⟩
  refine ⟨⟨fun k q hq => ?_, fun k q hk => ?_⟩, Nat.le_refl _, hX, hbl, fun w hw => ?_, fun w hw => ?_, ?_, ?_, st_LR hs hts, fun i q hq => ?_, ⟨fun i hi => ?_, fun i j hi hj => ?_⟩, ?_, ⟨hz1, ht1⟩, ⟨hz2, ht2⟩, ⟨?_, ?_⟩, hst, over_moved (Vm.Alike.refl _) hAO⟩
  · match k, hq with
    | 0, hq => cases hq; exact k0
    | 1, hq => cases hq; exact k1
    | 2, hq => cases hq; exact k2
    | 3, hq => cases hq; exact k3
    | 4, hq => cases hq; exact k4
    | _ + 5, hq => cases hq
  · match k, hk with
    | 0, hk => cases hk; exact ⟨hB1, hB2⟩
    | 1, hk => cases hk; exact ⟨hI1, hI2⟩
    | 2, hk => cases hk; exact ⟨hL1, hL2⟩
    | 3, hk => cases hk; exact ⟨hA1, hA2⟩
    | _ + 4, hk => cases hk
  · have h2 := (List.mem_filter.mp hw).2
    rw [Bool.and_eq_true] at h2
    exact va_any h2.1 (hlT w (List.mem_filter.mp hw).1)
  · have h2 := (List.mem_filter.mp hw).2
    have h3 := hlT w (List.mem_filter.mp hw).1
    refine va_any ?_ h3
    cases w <;> first | rfl | (simp [isNest] at h2; done)
  · exact vx_Zqof (hts (.laysStatic "java/lang/Throwable" "UNASSIGNED_STACK" "[Ljava/lang/StackTraceElement;") (by decide +kernel)) (hts (.initialized "java/lang/Throwable") (by decide +kernel)) (hs (.isRef (.static "java/lang/Throwable" "UNASSIGNED_STACK" "[Ljava/lang/StackTraceElement;")) (by decide +kernel)) (ne_heap s)
  · exact vx_Zqof (hts (.laysStatic "java/lang/Throwable" "SUPPRESSED_SENTINEL" "Ljava/util/List;") (by decide +kernel)) (hts (.initialized "java/lang/Throwable") (by decide +kernel)) (hs (.isRef (.static "java/lang/Throwable" "SUPPRESSED_SENTINEL" "Ljava/util/List;")) (by decide +kernel)) (ne_heap s)
  · match i, hq with
    | 0, hq => cases hq; exact vk_R.of (hts (.stringRef "ModringsModel" 98 "") (by decide +kernel)) (hev 0 (by decide))
    | 1, hq => cases hq; exact vk_R.of (hts (.stringRef "ModringsModel" 156 ": ") (by decide +kernel)) (hev 1 (by decide))
    | 2, hq => cases hq; exact vk_R.of (hts (.stringRef "ModringsModel" 158 " ") (by decide +kernel)) (hev 2 (by decide))
    | _ + 3, hq => cases hq
  · match i, hi with
    | 0, hi => exact hS.1 0 hi
    | 1, hi => exact hS.1 1 hi
    | 2, hi => exact hS.1 2 hi
    | _ + 3, hi => exact absurd hi (by omega)
  · match i, j, hi, hj with
    | 0, 0, hi, hj => exact hS.2 0 0 hi hj
    | 0, 1, hi, hj => exact hS.2 0 1 hi hj
    | 0, 2, hi, hj => exact hS.2 0 2 hi hj
    | 1, 0, hi, hj => exact hS.2 1 0 hi hj
    | 1, 1, hi, hj => exact hS.2 1 1 hi hj
    | 1, 2, hi, hj => exact hS.2 1 2 hi hj
    | 2, 0, hi, hj => exact hS.2 2 0 hi hj
    | 2, 1, hi, hj => exact hS.2 2 1 hi hj
    | 2, 2, hi, hj => exact hS.2 2 2 hi hj
    | _ + 3, _, hi, _ => exact absurd hi (by omega)
    | _, _ + 3, _, hj => exact absurd hj (by omega)
  · exact va_Zof (hts (.laysStatic "java/lang/String" "COMPACT_STRINGS" "Z") (by decide +kernel)) (hts (.initialized "java/lang/String") (by decide +kernel)) (va_eqt (hs (.eq (.static "java/lang/String" "COMPACT_STRINGS" "Z") (.int 1)) (by decide +kernel))) (ne_heap s)
  · exact va_Nc.of (hs (.not (.castable (exN 1) (exN 0))) (by decide +kernel))
  · exact va_Nc.of (hs (.not (.castable (exN 0) (exN 1))) (by decide +kernel))
end ST
