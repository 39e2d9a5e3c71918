/-! steps over cells: fields, arrays, new ones -/
section SIM3
variable {P : GP} {a : Nat} {K : Kt} {d : Nat}
variable {k : Ct} {es : List Ent} {pc n x y z : Nat} {fl : Bool} {L : mLs} {st : List Value} {h : mH} {cb sb : Nat}
theorem gtf_of {P : GP} {h : mH} {st : List Value} {ci j : Nat} {f : Value → List Value → Prop} (q : gtf h st ci j f) : (∃ i r fs v, st = .ref i :: r ∧ nth h i = some (.inr (ci, fs)) ∧ nth fs j = some v ∧ f v r) ∨ (∃ c r v, st = .retAddr c :: r ∧ 10 ≤ c ∧ c < 13 ∧ ci = 0 ∧ ((j = 0 ∧ v = .retAddr (c + 20)) ∨ (j = 1 ∧ v = .int 0)) ∧ f v r) := by
  unfold gtf at q
  split at q
  · split at q
    · split at q
      · rename_i hb
        have := Nat.eq_of_beq_eq_true hb
        subst this
        split at q
        · exact Or.inl ⟨_, _, _, _, rfl, by assumption, by assumption, q⟩
        · exact q.elim
      · exact q.elim
    · exact q.elim
  · split at q
    · rename_i hb
      simp only [Bool.and_eq_true] at hb
      obtain ⟨⟨h1, h2⟩, h3⟩ := hb
      split at q
      · exact Or.inr ⟨_, _, _, rfl, Nat.le_of_ble_eq_true h1, Nat.le_of_ble_eq_true h2, Nat.eq_of_beq_eq_true h3, Or.inl ⟨rfl, rfl⟩, q⟩
      · exact Or.inr ⟨_, _, _, rfl, Nat.le_of_ble_eq_true h1, Nat.le_of_ble_eq_true h2, Nat.eq_of_beq_eq_true h3, Or.inr ⟨rfl, rfl⟩, q⟩
      · exact q.elim
    · exact q.elim
  · exact q.elim
theorem s_getfield {ix : Nat} (hk : Goes1 P a K d k) (hA : AllOk a) (o : OkE a (pc, .getfield ix, n, x, y, z, fl)) (ho : IsE a es) (q : stepI P a K d k (pc, .getfield ix, n, x, y, z, fl) es L st h cb sb) : G P a K d pc L st h cb sb := by
  have q : gtf h st x y fun v r => nxt P a K d k (pc + n) es L (v :: r) h cb sb := q
  obtain ⟨hd, hl, hw⟩ := dec_of o
  unfold lnk at hl
  simp only [Bool.and_eq_true] at hl
  obtain ⟨⟨⟨hl1, hl2⟩, hl3⟩, hl4⟩ := hl
  have hn : n = 3 := Nat.eq_of_beq_eq_true hl1
  subst hn
  have hx5 : x < 5 := Nat.le_of_ble_eq_true hl2
  have hyN : y < mNn x := Nat.le_of_ble_eq_true hl3
  have hz2 : z < 2 := Nat.le_of_ble_eq_true hl4
  rcases gtf_of (P := P) q with ⟨i, r, fs, v, rfl, hi, hv, qq⟩ | ⟨c, r, v, rfl, hc1, hc2, rfl, hv, qq⟩
  · refine G_of fun p e R s m args below meth c H locs cells slots ls F Y V hx hb => ?_
    obtain ⟨-, -, -, -, hown, hts, hE, -⟩ := id F
    have hP := one_P (wd_at Y.2.2.2 hi hx5)
    have hfs : (fs.map (mV P))[y]? = some (mV P v) := by rw [nth_map, hv]; rfl
    have K1 := nxt_go hk ho qq p e R s m args below meth c H locs cells slots _ F Y V
    match z, hz2 with
    | 0, _ =>
      have hw := TB_in (hw (0, fWd a ix x y) (by simp [lnW]))
      exact va_get (ws := [(gN P + i, .inr (x, fs.map (mV P)))]) hx hb hts (inW x hx5) hown (Env_K hE) hP 0 rfl (mCl_at x hx5) y hyN (hts _ hw) (fun _ h9 => h9) hfs hd K1
    | 1, _ =>
      have hw := WN_in (hw (1, fWn a ix x y) (by simp [lnW]))
      exact va_getN (ws := [(gN P + i, .inr (x, fs.map (mV P)))]) (host := mOwn a) hx hb hts (inW x hx5) hown (Env_K hE) hP 0 rfl (mCl_at x hx5) y hyN (va_Nw.use rfl (hE.2.2.2.2.2.1 _ hw)) (fun _ h9 => h9) hfs hd K1
  · refine G_of fun p e R s m args below meth c H locs cells slots ls F Y V hx hb => ?_
    obtain ⟨-, -, -, -, hown, hts, hE, -⟩ := id F
    have K1 := nxt_go hk ho qq p e R s m args below meth c H locs cells slots _ F Y V
    have hS := Y.2.2.1
    obtain ⟨hk1, hk2, hk3, -⟩ := hE.2.2.2.2.2.2.2.2.2.2.1.1 (c✝ - 10) (by omega)
    sorry
end SIM3
