/-! steps over cells: fields, arrays, new ones -/
section SIM3
variable {P : GP} {a : Nat} {K : Kt} {d : Nat}
variable {k : Ct} {es : List Ent} {pc n x y z : Nat} {fl : Bool} {L : mLs} {st : List Value} {h : mH} {cb sb : Nat}
theorem gtf_of {P : GP} {h : mH} {st : List Value} {ci j : Nat} {f : Value → List Value → Prop} (q : gtf h st ci j f) : (∃ i r fs v, st = .ref i :: r ∧ nth h i = some (.inr (ci, fs)) ∧ nth fs j = some v ∧ f v r) ∨ (∃ c r v, st = .retAddr c :: r ∧ 10 ≤ c ∧ c < 13 ∧ ci = 0 ∧ ((j = 0 ∧ v = .retAddr (c + 20)) ∨ (j = 1 ∧ v = .int 0)) ∧ f v r) := by
  unfold gtf at q
  split at q
  · split at q
    · split at q
      · rename_i hb
        have := Nat.eq_of_beq_eq_true hb
        subst this
        split at q
        · exact Or.inl ⟨_, _, _, _, rfl, by assumption, by assumption, q⟩
        · exact q.elim
      · exact q.elim
    · exact q.elim
  · split at q
    · rename_i hb
      simp only [Bool.and_eq_true] at hb
      obtain ⟨⟨h1, h2⟩, h3⟩ := hb
      split at q
      · exact Or.inr ⟨_, _, _, rfl, Nat.le_of_ble_eq_true h1, Nat.le_of_ble_eq_true h2, Nat.eq_of_beq_eq_true h3, Or.inl ⟨rfl, rfl⟩, q⟩
      · exact Or.inr ⟨_, _, _, rfl, Nat.le_of_ble_eq_true h1, Nat.le_of_ble_eq_true h2, Nat.eq_of_beq_eq_true h3, Or.inr ⟨rfl, rfl⟩, q⟩
      · exact q.elim
    · exact q.elim
  · exact q.elim
theorem noNest (a ix y : Nat) : fWn a ix 0 y ∉ lT := by
  have h : ∀ w ∈ lT, (match w with | .fieldLinkNest _ _ c _ _ _ => decide (c ≠ rc_STR) | _ => true) = true := by decide +kernel
  intro hm
  have := h _ hm
  have e : (mTt 0 y).1 = rc_STR := by
    show (tT0 y).1 = rc_STR
    unfold tT0
    split <;> rfl
  simp only [fWn, e] at this
  exact absurd this (by decide)
theorem s_getfield {ix : Nat} (hk : Goes1 P a K d k) (hA : AllOk a) (o : OkE a (pc, .getfield ix, n, x, y, z, fl)) (ho : IsE a es) (q : stepI P a K d k (pc, .getfield ix, n, x, y, z, fl) es L st h cb sb) : G P a K d pc L st h cb sb := by
  have q : gtf h st x y fun v r => nxt P a K d k (pc + n) es L (v :: r) h cb sb := q
  obtain ⟨hd, hl, hw⟩ := dec_of o
  unfold lnk at hl
  simp only [Bool.and_eq_true] at hl
  obtain ⟨⟨⟨hl1, hl2⟩, hl3⟩, hl4⟩ := hl
  have hn : n = 3 := Nat.eq_of_beq_eq_true hl1
  subst hn
  have hx5 : x < 5 := Nat.le_of_ble_eq_true hl2
  have hyN : y < mNn x := Nat.le_of_ble_eq_true hl3
  have hz2 : z < 2 := Nat.le_of_ble_eq_true hl4
  rcases gtf_of (P := P) q with ⟨i, r, fs, v, rfl, hi, hv, qq⟩ | ⟨w9, r, v, rfl, hc1, hc2, rfl, hv, qq⟩
  · refine G_of fun p e R s m args below meth c H locs cells slots ls F Y V hx hb => ?_
    obtain ⟨-, -, -, -, hown, hts, hE, -⟩ := id F
    have hP := one_P (wd_at Y.2.2.2 hi hx5)
    have hfs : (fs.map (mV P))[y]? = some (mV P v) := by rw [nth_map, hv]; rfl
    have K1 := nxt_go hk ho qq p e R s m args below meth c H locs cells slots _ F Y V
    match z, hz2 with
    | 0, _ =>
      have hw := TB_in (hw (0, fWd a ix x y) (by simp [lnW]))
      exact va_get (ws := [(gN P + i, .inr (x, fs.map (mV P)))]) hx hb hts (inW x hx5) hown (Env_K hE) hP 0 rfl (mCl_at x hx5) y hyN (hts _ hw) (fun _ h9 => h9) hfs hd K1
    | 1, _ =>
      have hw := WN_in (hw (1, fWn a ix x y) (by simp [lnW]))
      exact va_getN (ws := [(gN P + i, .inr (x, fs.map (mV P)))]) (host := mOwn a) hx hb hts (inW x hx5) hown (Env_K hE) hP 0 rfl (mCl_at x hx5) y hyN (va_Nw.use rfl (hE.2.2.2.2.2.1 _ hw)) (fun _ h9 => h9) hfs hd K1
  · refine G_of fun p e R s m args below meth c H locs cells slots ls F Y V hx hb => ?_
    obtain ⟨-, -, -, -, hown, hts, hE, -⟩ := id F
    have K1 := nxt_go hk ho qq p e R s m args below meth c H locs cells slots _ F Y V
    have hS := Y.2.2.1
    obtain ⟨hk1, hk2, hk3, -⟩ := hE.2.2.2.2.2.2.2.2.2.2.1.1 (w9 - 10) (by omega)
    have hw : fWd a ix 0 y ∈ TB := by
      match z, hz2 with
      | 0, _ => exact TB_in (hw (0, fWd a ix 0 y) (by simp [lnW]))
      | 1, _ =>
        have := (hw (1, fWn a ix 0 y) (by simp [lnW])).1
        exact absurd this (noNest a ix y)
    dsimp only at hk2 hk3
    rw [show 10 + (w9 - 10) = w9 by omega] at hk2 hk3
    rw [show 30 + (w9 - 10) = w9 + 20 by omega] at hk3
    rcases hv with ⟨rfl, rfl⟩ | ⟨rfl, rfl⟩
    · exact vk_getf hx hb hk3 hS hown (hts _ hw) (fun _ h9 => h9) hd K1
    · exact vk_getf hx hb hk2 hS hown (hts _ hw) (fun _ h9 => h9) hd K1
theorem fitK_of {ty : FieldType} {v : Value} {q : Prop} (h : fitK ty v q) : q ∧ narrow ty (mV P v) = mV P v ∧ fits ty (mV P v) = true := by
  unfold fitK at h
  split at h
  · split at h
    · exact ⟨h, rfl, rfl⟩
    · exact h.elim
  · split at h
    · exact ⟨h, rfl, rfl⟩
    · exact h.elim
  · split at h
    · exact ⟨h, rfl, rfl⟩
    · exact ⟨h, rfl, rfl⟩
    · exact ⟨h, rfl, rfl⟩
    · exact h.elim
  · split at h
    · exact ⟨h, rfl, rfl⟩
    · exact ⟨h, rfl, rfl⟩
    · exact ⟨h, rfl, rfl⟩
    · exact h.elim
  · split at h
    · exact ⟨h.2, h.1.1, h.1.2⟩
    · exact h.elim
  · split at h
    · exact ⟨h.2, h.1.1, h.1.2⟩
    · exact h.elim
  · exact h.elim
theorem ptf_of {st : List Value} {ci j : Nat} {f : mH → List Value → Prop} (q : ptf h st ci j f) : ∃ v i r fs, st = v :: .ref i :: r ∧ nth h i = some (.inr (ci, fs)) ∧ j < fs.length ∧ fitK (mTy ci j) v (f (h.set i (.inr (ci, fs.set j v))) r) := by
  unfold ptf at q
  split at q
  · split at q
    · split at q
      · rename_i hb
        have := Nat.eq_of_beq_eq_true hb
        subst this
        split at q
        · exact ⟨_, _, _, _, rfl, by assumption, nth_lt (by assumption), q⟩
        · exact q.elim
      · exact q.elim
    · exact q.elim
  · exact q.elim
theorem s_putfield {ix : Nat} (hk : Goes1 P a K d k) (hA : AllOk a) (o : OkE a (pc, .putfield ix, n, x, y, z, fl)) (ho : IsE a es) (q : stepI P a K d k (pc, .putfield ix, n, x, y, z, fl) es L st h cb sb) : G P a K d pc L st h cb sb := by
  have q : ptf h st x y fun h r => nxt P a K d k (pc + n) es L r h cb sb := q
  obtain ⟨hd, hl, hw⟩ := dec_of o
  unfold lnk at hl
  simp only [Bool.and_eq_true] at hl
  obtain ⟨⟨⟨hl1, hl2⟩, hl3⟩, hl4⟩ := hl
  have hn : n = 3 := Nat.eq_of_beq_eq_true hl1
  subst hn
  have hx5 : x < 5 := Nat.le_of_ble_eq_true hl2
  have hyN : y < mNn x := Nat.le_of_ble_eq_true hl3
  obtain ⟨v, i, r, fs, rfl, hi, hyl, qf⟩ := ptf_of q
  obtain ⟨qq, hnar, hfit⟩ := fitK_of (P := P) qf
  refine G_of fun p e R s m args below meth c H locs cells slots ls F Y V hx hb => ?_
  obtain ⟨-, -, -, -, hown, hts, hE, -, hname, -⟩ := id F
  obtain ⟨hY1, hY2, hS0, hWd⟩ := id Y
  have hK := Env_K hE
  have hin := inW x hx5
  have hc := mCl_at x hx5
  have hap := va_apart (own := mOwn a) hts hin (mTy x) (mTy_ok x hx5) (mNm_ok x hx5) hK hc
  obtain ⟨r9, h1, cell, q1, q2, q3, q4⟩ := wd_at hWd hi hx5
  have hr : r9 = (mCn x, mTt x, mNn x) := Option.some.inj (h1.symm.trans hc)
  subst hr
  obtain ⟨hSl, hfc, kC, hkC, hkind⟩ := hK.1 x _ hc
  obtain ⟨cf, kf, fi, f, hif, hsl⟩ := hSl y hyN
  have hlay := hts _ (hin _ (u_in_lay hyN))
  unfold u_lay at hlay
  have hst := (u_facts hfc hkC (u_lays hts hin hyN) hif).1
  have hl9 : y < (fs.map (mV P)).length := by rw [List.length_map]; exact hyl
  have fin : ∀ H' : Heap, H'[gN P + i]? = some (cell.setSlot f.slot (mV P v)) → H'.size = H.size → (∀ q, q ≠ gN P + i → H'[q]? = H[q]?) →
      W p (gl P) e R s m args below meth c H' (locs ++ [⟨gN P + i, f.slot⟩]) cells slots (vx_MQ below (QcK P K) (XcK P K) args s R.cells R.slots (gF P)) (F0 m (pc + 3) ls (r.map (mV P))) := by
    intro H' e1 e2 e3
    rw [hsl] at e1
    refine nxt_go hk ho qq p e R s m args below meth c H' _ cells slots _ F ⟨hY1, hY2, hS0.put e2 e3 ?_, wd_set hWd hi e2 ?_ e3⟩ V
    · show gN P ≤ gN P + i
      omega
    · show x < 5 → _
      intro _
      refine ⟨_, hc, ?_⟩
      rw [List.map_set]
      exact t_OB.to (V := updV (vp_V (fs.map (mV P))) y (mV P v)) ⟨_, e1, q2, q3, t_set q4 hap hyN (mV P v)⟩ (fun j _ => vp_updV_set hl9 (mV P v) j)
  match z, hl4 with
  | 0, hl4 =>
    have hfin : (mTt x y).2.2.2 = false := by simpa using hl4
    rw [if_neg (by rw [hfin]; decide)] at hlay
    have h6 := u_store hfc hkC hkind hlay hif (mTy_ok x hx5 y hyN) hnar hfit
    have hw := TB_in (hw (0, fWd a ix x y) (by simp [lnW]))
    exact W.putK hx hb (f := f) ⟨hown, hts _ hw, ⟨_, _, _, hif⟩, hst⟩ (by rw [q2]; exact h6) q1 q3 (by rw [hsl]; exact k2_hasslot (q4 y hyN)) rfl rfl hd fin
  | 1, hl4 =>
    have hfin : (mTt x y).2.2.2 = false := by simpa using hl4
    rw [if_neg (by rw [hfin]; decide)] at hlay
    have h6 := u_store hfc hkC hkind hlay hif (mTy_ok x hx5 y hyN) hnar hfit
    have hw := WN_in (hw (1, fWn a ix x y) (by simp [lnW]))
    exact va_WputK hx hb (f := f) (host := mOwn a) hown (va_Nw.use rfl (hE.2.2.2.2.2.1 _ hw)) hif hst (by rw [q2]; exact h6) q1 q3 (by rw [hsl]; exact k2_hasslot (q4 y hyN)) rfl rfl hd fin
  | 2, hl4 =>
    simp only [Bool.and_eq_true, decide_eq_true_eq] at hl4
    obtain ⟨⟨hfin, hnm⟩, hdecl⟩ := hl4
    rw [if_pos hfin] at hlay
    have hcf : m.cls = cf := by
      obtain ⟨_, _, c', _, _, _, -, -, hf', -, -, -, hown2, -⟩ := Cond.laysFinal_spec hlay
      have e1 : c' = cf := by have := hif.symm.trans hf'; simp at this; exact this.1.symm
      rw [hdecl] at hown2
      rw [← e1]; exact Option.some.inj (hown.symm.trans hown2)
    have h6 := u_fits hfc hkC hkind (Or.inr hlay) hif (mTy_ok x hx5 y hyN) hnar hfit
    have hw := TB_in (hw (0, fWd a ix x y) (by simp [lnW]))
    exact W.putFinK hx hb hown (hts _ hw) hif hst hcf (by rw [hname]; exact hnm) (by rw [q2]; exact h6) q1 q3 (by rw [hsl]; exact k2_hasslot (q4 y hyN)) rfl rfl hd fin
theorem s_getstatic {ix : Nat} (hk : Goes1 P a K d k) (hA : AllOk a) (o : OkE a (pc, .getstatic ix, n, x, y, z, fl)) (ho : IsE a es) (q : stepI P a K d k (pc, .getstatic ix, n, x, y, z, fl) es L st h cb sb) : G P a K d pc L st h cb sb := by
  obtain ⟨hd, hl, hw⟩ := dec_of o
  have hn : n = 3 := Nat.eq_of_beq_eq_true hl
  subst hn
  match x, q, hw, o with
  | 0, q, hw, o =>
    have hw := TB_in (hw _ (List.mem_singleton.mpr rfl))
    exact G_of fun p e R s m args below meth c H locs cells slots ls F Y V hx hb => va_gets hx hb F.2.2.2.2.2.2.1.2.2.2.2.2.2.2.2.2.2.2.1 Y.2.2.1 F.2.2.2.2.1 (F.2.2.2.2.2.1 _ hw) (fun _ h9 => h9) hd (nxt_go hk ho q p e R s m args below meth c H locs cells slots _ F Y V)
  | 1, q, hw, o =>
    have hw := TB_in (hw _ (List.mem_singleton.mpr rfl))
    exact G_of fun p e R s m args below meth c H locs cells slots ls F Y V hx hb => va_gets hx hb F.2.2.2.2.2.2.1.2.2.2.2.2.2.2.2.2.2.2.2.1.1 Y.2.2.1 F.2.2.2.2.1 (F.2.2.2.2.2.1 _ hw) (fun _ h9 => h9) hd (nxt_go hk ho q p e R s m args below meth c H locs cells slots _ F Y V)
  | 2, q, hw, o =>
    have hw := TB_in (hw _ (List.mem_singleton.mpr rfl))
    exact G_of fun p e R s m args below meth c H locs cells slots ls F Y V hx hb => va_gets hx hb F.2.2.2.2.2.2.1.2.2.2.2.2.2.2.2.2.2.2.2.2.1.1 Y.2.2.1 F.2.2.2.2.1 (F.2.2.2.2.2.1 _ hw) (fun _ h9 => h9) hd (nxt_go hk ho q p e R s m args below meth c H locs cells slots _ F Y V)
  | _ + 3, q, hw, o => exact q.elim
end SIM3
