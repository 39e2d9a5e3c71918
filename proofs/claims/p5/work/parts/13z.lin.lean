/-! a stretch of instructions is checked in one pass -/
def tI (es : List Ent) : List (Instr × Nat) := es.map (fun e => (e.2.1, e.2.2.1))
def contig : List Ent → Nat → Bool
  | [], _ => true
  | e :: es, pc => Nat.beq e.1 pc && contig es (pc + e.2.2.1)
def lnkE (a : Nat) (e : Ent) : Bool := lnk a e.1 e.2.1 e.2.2.1 e.2.2.2.1 e.2.2.2.2.1 e.2.2.2.2.2.1
theorem lin_of {cc : ByteArray} : ∀ (es : List Ent) (pc : Nat), Jvm.Free.DS.Facts cc pc (tI es) → contig es pc = true → ∀ e ∈ es, decode cc e.1 = .ok (e.2.1, e.2.2.1)
  | [], _, _, _ => fun _ h => absurd h List.not_mem_nil
  | e :: es, pc, hF, hc => by
    unfold contig at hc
    simp only [Bool.and_eq_true] at hc
    have h1 : decode cc pc = .ok (e.2.1, e.2.2.1) ∧ Jvm.Free.DS.Facts cc (pc + e.2.2.1) (tI es) := hF
    intro e2 h2
    rcases List.mem_cons.mp h2 with rfl | h3
    · rw [Nat.eq_of_beq_eq_true hc.1]
      exact h1.1
    · exact lin_of es _ h1.2 hc.2 e2 h3
def chL (a pc0 : Nat) (es : List Ent) : Bool := ckL ((mCode a).data.toList.drop pc0) pc0 (tI es) && (Nat.ble (pc0 + ((tI es).map (fun q => q.2)).sum) (mCode a).data.size && (contig es pc0 && es.all (lnkE a)))
theorem chL_of {a pc0 : Nat} {es : List Ent} (h : chL a pc0 es = true) : ∀ e ∈ es, chkE a e = true := by
  unfold chL at h
  simp only [Bool.and_eq_true] at h
  obtain ⟨h1, h2, h3, h4⟩ := h
  intro e he
  have hF := ckL_facts pc0 (tI es) h1 (Nat.le_of_ble_eq_true h2)
  unfold chkE
  rw [Bool.and_eq_true, decide_eq_true_eq]
  exact ⟨lin_of es pc0 hF h3 e he, List.all_eq_true.mp h4 e he⟩
theorem okChM {a : Nat} {es : List Ent} (pc0 : Nat) (ps : List (Nat × Nat)) (h : (chL a pc0 es && wd a es ps) = true) : ∀ e ∈ es, OkE a e := by
  rw [Bool.and_eq_true] at h
  exact fun e he => ⟨chL_of h.1 e he, wd_ok h.2 e he⟩
def esA (a : Nat) : List Ent := (mChk a).flatMap (fun ch => ch.2.2)
def allBM (a : Nat) (ps : List (Nat × Nat)) : Bool := exOkB a && ((mChk a).all (fun ch => chL a ch.1 ch.2.2) && wd a (esA a) ps)
theorem allOkM {a : Nat} (ps : List (Nat × Nat)) (h : allBM a ps = true) : AllOk a := by
  unfold allBM at h
  rw [Bool.and_eq_true, Bool.and_eq_true] at h
  refine ⟨fun ch hc e he => ⟨chL_of (List.all_eq_true.mp h.2.1 ch hc) e he, wd_ok h.2.2 e (List.mem_flatMap.mpr ⟨ch, hc, he⟩)⟩, h.1⟩
