/-! THE CLASS: its cells, what its methods answer and leave -/
abbrev XS : Type := (Nat → Int64) × (Nat → Int64) × (Nat → Int32) × (Nat → Int32) × Int32 × Int32
abbrev xI (s : XS) : Nat → Int64 := s.1
abbrev xL (s : XS) : Nat → Int64 := s.2.1
abbrev xM (s : XS) : Nat → Int32 := s.2.2.1
abbrev xR (s : XS) : Nat → Int32 := s.2.2.2.1
abbrev xF (s : XS) : Int32 := s.2.2.2.2.1
abbrev xK (s : XS) : Int32 := s.2.2.2.2.2
def hx (s : XS) (t : mH) : mH := .inr (2, [.ref 1, .ref 2, .ref 3, .ref 4, .int (xF s), .int (xK s)]) :: .inl (2, 4, .inr (.inl (xI s))) :: .inl (2, 4, .inr (.inl (xL s))) :: .inl (1, 3, .inl (xM s)) :: .inl (1, 12, .inl (xR s)) :: t
abbrev ok4 (k : Int32) : Prop := ¬ k < 0 ∧ k < 4
abbrev ok3 (k : Int32) : Prop := ¬ k < 0 ∧ k < 3
abbrev okC (k c : Int32) : Prop := ¬ k < 0 ∧ ¬ c < k
abbrev okV (a b c : Int32) : Prop := ¬ a < 1 ∧ ¬ b < 1 ∧ ¬ c < 1
abbrev Out : Type := (Int32 ⊕ Nat) × XS
def ans (K : Kt) (t : mH) (o : Out) : Prop := match o.1 with
  | .inl v => K (.inl (some (.int v))) (hx o.2 t)
  | .inr E => ∀ j, K (.inr E) (hx o.2 (t ++ jk j))
def nd (c : Prop) [Decidable c] (E : Nat) (s : XS) (r : Out) : Out := if c then r else (.inr E, s)
theorem ans_nd {K : Kt} {t : mH} {c : Prop} [Decidable c] {E : Nat} {s : XS} {r : Out} (hK : ans K t (nd c E s r)) : (c → ans K t r) ∧ (¬ c → ∀ j, K (.inr E) (hx s (t ++ jk j))) := by
  unfold nd at hK
  by_cases q : c
  · rw [if_pos q] at hK
    exact ⟨fun _ => hK, fun e => absurd q e⟩
  · rw [if_neg q] at hK
    exact ⟨fun e => absurd e q, fun _ => hK⟩
theorem am {K K' : Kt} {t : mH} {o : Out} (hK : ans K t o) (h1 : ∀ v h, K (.inl (some (.int v))) h → K' (.inl (some (.int v))) h) (h2 : ∀ E h, K (.inr E) h → K' (.inr E) h) : ans K' t o := by
  obtain ⟨o, s⟩ := o
  cases o with
  | inl v => exact h1 _ _ hK
  | inr E => exact fun j => h2 _ _ (hK j)
theorem vp4 {k : Int32} (h : ok4 k) : vp_in k 4 := by
  rw [vp_in_iff]
  have h1 := h.1
  have h2 := h.2
  rw [Int32.lt_iff_toInt_lt] at h1 h2
  have e : (4 : Int32).toInt = 4 := by decide
  have e0 : (0 : Int32).toInt = 0 := by decide
  omega
theorem vp3 {k : Int32} (h : ok3 k) : vp_in k 3 := by
  rw [vp_in_iff]
  have h1 := h.1
  have h2 := h.2
  rw [Int32.lt_iff_toInt_lt] at h1 h2
  have e : (3 : Int32).toInt = 3 := by decide
  have e0 : (0 : Int32).toInt = 0 := by decide
  omega
theorem c4 {k : Int32} (h : ok4 k) : k = 0 ∨ k = 1 ∨ k = 2 ∨ k = 3 := by
  have h1 := h.1
  have h2 := h.2
  rw [Int32.lt_iff_toInt_lt] at h1 h2
  have e : (4 : Int32).toInt = 4 := by decide
  have e0 : (0 : Int32).toInt = 0 := by decide
  have c : k.toInt = 0 ∨ k.toInt = 1 ∨ k.toInt = 2 ∨ k.toInt = 3 := by omega
  rcases c with c | c | c | c
  · exact Or.inl (Int32.toInt_inj.mp (c.trans (by decide)))
  · exact Or.inr (Or.inl (Int32.toInt_inj.mp (c.trans (by decide))))
  · exact Or.inr (Or.inr (Or.inl (Int32.toInt_inj.mp (c.trans (by decide)))))
  · exact Or.inr (Or.inr (Or.inr (Int32.toInt_inj.mp (c.trans (by decide)))))
theorem c3 {k : Int32} (h : ok3 k) : k = 0 ∨ k = 1 ∨ k = 2 := by
  have h1 := h.1
  have h2 := h.2
  rw [Int32.lt_iff_toInt_lt] at h1 h2
  have e : (3 : Int32).toInt = 3 := by decide
  have e0 : (0 : Int32).toInt = 0 := by decide
  have c : k.toInt = 0 ∨ k.toInt = 1 ∨ k.toInt = 2 := by omega
  rcases c with c | c | c
  · exact Or.inl (Int32.toInt_inj.mp (c.trans (by decide)))
  · exact Or.inr (Or.inl (Int32.toInt_inj.mp (c.trans (by decide))))
  · exact Or.inr (Or.inr (Int32.toInt_inj.mp (c.trans (by decide))))
theorem vp12 {r k : Int32} (hr : ok3 r) (hk : ok4 k) : vp_in (r * 4 + k) 12 := by
  rw [vp_in_iff]
  rcases c3 hr with rfl | rfl | rfl <;> rcases c4 hk with rfl | rfl | rfl | rfl <;> decide
def xNum (l k : Int32) (s : XS) : Int64 := if l = 0 then xI s k.toNatClampNeg else xL s k.toNatClampNeg
def xSet (l k : Int32) (v : Int64) (s : XS) : XS := if l = 0 then (vp_updL (xI s) k.toNatClampNeg v, s.2) else (s.1, vp_updL (xL s) k.toNatClampNeg v, s.2.2)
def xMod (r : Int32) (s : XS) : Int32 := xM s r.toNatClampNeg
def xRes (r k : Int32) (s : XS) : Int32 := xR s (r * 4 + k).toNatClampNeg
def xSetR (r k : Int32) (v : Int32) (s : XS) : XS := (s.1, s.2.1, s.2.2.1, upd (xR s) (r * 4 + k).toNatClampNeg v, s.2.2.2.2)
def xRefuse (s : XS) : Out := (.inl (-9), (s.1, s.2.1, s.2.2.1, s.2.2.2.1, xF s + 1, xK s))
def xKeep (l k : Int32) (v : Int64) (s : XS) : Out := nd (ok4 k) 0 s (.inl (wOrder v 0), xSet l k v s)
def xKeepR (l k : Int32) (v : Int64) (s : XS) : Out := xKeep l k (wGone l v) s
def xKeepE (l k : Int32) (a b : Int64) (w : Int32) (s : XS) : Out := if wExact l a b w = 0 then xRefuse s else xKeep l k (wJoin a b w) s
def xKeepF (l k : Int32) (d : Int64) (r : Int32) (s : XS) : Out := nd (ok4 k) 0 s (if d = 0 then xRefuse s else xKeepR l k (if r = 0 then wFloor (xNum l k s) d else wRest (xNum l k s) d) s)
def xKeepM (r k : Int32) (v : Int64) (s : XS) : Out := nd (ok3 r) 0 s (nd (ok4 k) 0 s (.inl (rRes v (xMod r s)), xSetR r k (rRes v (xMod r s)) s))
section CLS
variable {P : GP} {K : Kt}
theorem L_needIndex (i c : Int32) {h : mH} (h1 : ¬ i < 0) (h2 : i < c) (hK : K (.inl none) h) : M P n_X_needIndex [.int i, .int c] h 0 0 6 K := by
  refine Mgo ok_X_needIndex 60 rfl ?_
  refine ⟨fun q => absurd q h1, fun _ => ?_⟩
  exact ⟨fun _ => hK, fun q => absurd h2 q⟩
theorem L_needIx (i c : Int32) {h : mH} (hK : ¬ i < 0 ∧ i < c → K (.inl none) h) (h0 : ¬ (¬ i < 0 ∧ i < c) → ∀ j, K (.inr 0) (h ++ jk j)) : M P n_X_needIndex [.int i, .int c] h 1 6 6 K := by
  refine Mgo ok_X_needIndex 60 rfl ?_
  refine ⟨fun q => ?_, fun q => ?_⟩
  · exact ⟨by decide, h0 (fun e => e.1 q)⟩
  · refine ⟨fun q2 => ?_, fun q2 => ?_⟩
    · exact hK ⟨q, q2⟩
    · exact ⟨by decide, h0 (fun e => q2 e.2)⟩
theorem L_needChoice (i c : Int32) {h : mH} (hK : okC i c → K (.inl none) h) (h0 : ¬ okC i c → ∀ j, K (.inr 1) (h ++ jk j)) : M P n_X_needChoice [.int i, .int c] h 1 6 6 K := by
  refine Mgo ok_X_needChoice 60 rfl ?_
  refine ⟨fun q => ?_, fun q => ?_⟩
  · exact ⟨by decide, h0 (fun e => e.1 q)⟩
  · refine ⟨fun q2 => ?_, fun q2 => ?_⟩
    · exact ⟨by decide, h0 (fun e => e.2 q2)⟩
    · exact hK ⟨q, q2⟩
theorem L_needNotZero (m : Int32) {h : mH} (hK : ¬ m = 0 → K (.inl none) h) (h0 : ¬ ¬ m = 0 → ∀ j, K (.inr 1) (h ++ jk j)) : M P n_X_needNotZero [.int m] h 1 6 6 K := by
  refine Mgo ok_X_needNotZero 60 rfl ?_
  refine ⟨fun q => ?_, fun q => ?_⟩
  · exact ⟨by decide, h0 (fun e => e q)⟩
  · exact hK q
theorem L_needDivisors (a b c : Int32) {h : mH} (hK : okV a b c → K (.inl none) h) (h0 : ¬ okV a b c → ∀ j, K (.inr 1) (h ++ jk j)) : M P n_X_needDivisors [.int a, .int b, .int c] h 1 6 6 K := by
  refine Mgo ok_X_needDivisors 60 rfl ?_
  refine ⟨fun q => ?_, fun q => ?_⟩
  · exact ⟨by decide, h0 (fun e => e.1 q)⟩
  · refine ⟨fun q2 => ?_, fun q2 => ?_⟩
    · exact ⟨by decide, h0 (fun e => e.2.1 q2)⟩
    · refine ⟨fun q3 => ?_, fun q3 => ?_⟩
      · exact ⟨by decide, h0 (fun e => e.2.2 q3)⟩
      · exact hK ⟨q, q2, q3⟩
theorem L_numberAt {s : XS} {t : mH} (l k : Int32) (hk : ok4 k) (hK : K (.inl (some (.long (xNum l k s)))) (hx s t)) : M P n_X_numberAt [.ref 0, .int l, .int k] (hx s t) 0 0 7 K := by
  refine Mgo ok_X_numberAt 60 rfl ?_
  unfold xNum at hK
  refine ⟨_, _, _, L_needIndex _ _ hk.1 hk.2 ?_, by decide, by decide, by decide⟩
  refine ⟨fun q => ?_, fun q => ?_⟩
  · rw [if_pos q] at hK
    exact ⟨vp4 hk, hK⟩
  · rw [if_neg q] at hK
    exact ⟨vp4 hk, hK⟩
theorem L_num {s : XS} {t : mH} (l k : Int32) (hK : ok4 k → K (.inl (some (.long (xNum l k s)))) (hx s t)) (h0 : ¬ ok4 k → ∀ j, K (.inr 0) (hx s (t ++ jk j))) : M P n_X_numberAt [.ref 0, .int l, .int k] (hx s t) 1 6 7 K := by
  refine Mgo ok_X_numberAt 60 rfl ?_
  unfold xNum at hK
  refine ⟨_, _, _, L_needIx _ _ (fun hk => ?_) h0, by decide, by decide, by decide⟩
  have hK := hK hk
  refine ⟨fun q => ?_, fun q => ?_⟩
  · rw [if_pos q] at hK
    exact ⟨vp4 hk, hK⟩
  · rw [if_neg q] at hK
    exact ⟨vp4 hk, hK⟩
theorem L_modulusAt {s : XS} {t : mH} (r : Int32) (hr : ok3 r) (hK : K (.inl (some (.int (xMod r s)))) (hx s t)) : M P n_X_modulusAt [.ref 0, .int r] (hx s t) 0 0 7 K := by
  refine Mgo ok_X_modulusAt 60 rfl ?_
  refine ⟨_, _, _, L_needIndex _ _ hr.1 hr.2 ?_, by decide, by decide, by decide⟩
  exact ⟨vp3 hr, hK⟩
theorem L_modAt {s : XS} {t : mH} (r : Int32) (hK : ok3 r → K (.inl (some (.int (xMod r s)))) (hx s t)) (h0 : ¬ ok3 r → ∀ j, K (.inr 0) (hx s (t ++ jk j))) : M P n_X_modulusAt [.ref 0, .int r] (hx s t) 1 6 7 K := by
  refine Mgo ok_X_modulusAt 60 rfl ?_
  refine ⟨_, _, _, L_needIx _ _ (fun hr => ?_) h0, by decide, by decide, by decide⟩
  exact ⟨vp3 hr, hK hr⟩
theorem L_residueAt {s : XS} {t : mH} (r k : Int32) (hr : ok3 r) (hk : ok4 k) (hK : K (.inl (some (.int (xRes r k s)))) (hx s t)) : M P n_X_residueAt [.ref 0, .int r, .int k] (hx s t) 0 0 7 K := by
  refine Mgo ok_X_residueAt 60 rfl ?_
  refine ⟨_, _, _, L_needIndex _ _ hr.1 hr.2 ?_, by decide, by decide, by decide⟩
  refine ⟨_, _, _, L_needIndex _ _ hk.1 hk.2 ?_, by decide, by decide, by decide⟩
  exact ⟨vp12 hr hk, hK⟩
theorem L_resAt {s : XS} {t : mH} (r k : Int32) (hK : ok3 r ∧ ok4 k → K (.inl (some (.int (xRes r k s)))) (hx s t)) (h0 : ¬ (ok3 r ∧ ok4 k) → ∀ j, K (.inr 0) (hx s (t ++ jk j))) : M P n_X_residueAt [.ref 0, .int r, .int k] (hx s t) 2 12 7 K := by
  refine Mgo ok_X_residueAt 60 rfl ?_
  refine ⟨_, _, _, L_needIx _ _ (fun hr => ?_) (fun q => h0 (fun e => q e.1)), by decide, by decide, by decide⟩
  refine ⟨_, _, _, L_needIx _ _ (fun hk => ?_) (fun q => h0 (fun e => q e.2)), by decide, by decide, by decide⟩
  exact ⟨vp12 hr hk, hK ⟨hr, hk⟩⟩
theorem L_refuse {s : XS} {t : mH} (hK : ans K t (xRefuse s)) : M P n_X_refuse [.ref 0] (hx s t) 0 0 6 K := by
  refine Mgo ok_X_refuse 60 rfl ?_
  exact hK
theorem L_keep {s : XS} {t : mH} (l k : Int32) (v : Int64) (hK : ans K t (xKeep l k v s)) : M P n_X_keep [.ref 0, .int l, .int k, .long v] (hx s t) 1 6 7 K := by
  refine Mgo ok_X_keep 60 rfl ?_
  have hK := ans_nd hK
  refine ⟨_, _, _, L_needIx _ _ (fun hk => ?_) hK.2, by decide, by decide, by decide⟩
  have hK := hK.1 hk
  unfold xSet at hK
  refine ⟨fun q => ?_, fun q => ?_⟩
  · rw [if_pos q] at hK
    refine ⟨vp4 hk, _, _, _, L_order _ _ _ ?_, by decide, by decide, by decide⟩
    exact hK
  · rw [if_neg q] at hK
    refine ⟨vp4 hk, _, _, _, L_order _ _ _ ?_, by decide, by decide, by decide⟩
    exact hK
theorem L_keepRound {s : XS} {t : mH} (l k : Int32) (v : Int64) (hK : ans K t (xKeepR l k v s)) : M P n_X_keepRound [.ref 0, .int l, .int k, .long v] (hx s t) 1 6 8 K := by
  refine Mgo ok_X_keepRound 60 rfl ?_
  refine ⟨_, _, _, L_gone _ _ _ ?_, by decide, by decide, by decide⟩
  exact ⟨_, _, _, L_keep _ _ _ (am hK (fun _ _ e => e) (fun _ _ e => e)), by decide, by decide, by decide⟩
theorem L_keepExact {s : XS} {t : mH} (l k : Int32) (a b : Int64) (w : Int32) (hK : ans K t (xKeepE l k a b w s)) : M P n_X_keepExact [.ref 0, .int l, .int k, .long a, .long b, .int w] (hx s t) 1 6 8 K := by
  refine Mgo ok_X_keepExact 60 rfl ?_
  unfold xKeepE at hK
  refine ⟨_, _, _, L_isExact _ _ _ _ _ ?_, by decide, by decide, by decide⟩
  refine ⟨fun q => ?_, fun q => ?_⟩
  · rw [if_pos q] at hK
    exact ⟨_, _, _, L_refuse (am hK (fun _ _ e => e) (fun _ _ e => e)), by decide, by decide, by decide⟩
  · rw [if_neg q] at hK
    refine ⟨_, _, _, L_joined _ _ _ _ ?_, by decide, by decide, by decide⟩
    exact ⟨_, _, _, L_keep _ _ _ (am hK (fun _ _ e => e) (fun _ _ e => e)), by decide, by decide, by decide⟩
theorem L_keepFloor {s : XS} {t : mH} (l k : Int32) (d : Int64) (r : Int32) (hK : ans K t (xKeepF l k d r s)) : M P n_X_keepFloor [.ref 0, .int l, .int k, .long d, .int r] (hx s t) 2 12 9 K := by
  refine Mgo ok_X_keepFloor 60 rfl ?_
  have hK := ans_nd hK
  refine ⟨_, _, _, L_num _ _ (fun hk => ?_) hK.2, by decide, by decide, by decide⟩
  have hK := hK.1 hk
  refine ⟨fun q => ?_, fun q => ?_⟩
  · rw [if_pos q] at hK
    exact ⟨_, _, _, L_refuse (am hK (fun _ _ e => e) (fun _ _ e => e)), by decide, by decide, by decide⟩
  · rw [if_neg q] at hK
    refine ⟨fun q2 => ?_, fun q2 => ?_⟩
    · rw [if_pos q2] at hK
      refine ⟨_, _, _, L_floorOf _ _ _ ?_, by decide, by decide, by decide⟩
      exact ⟨_, _, _, L_keepRound _ _ _ (am hK (fun _ _ e => e) (fun _ _ e => e)), by decide, by decide, by decide⟩
    · rw [if_neg q2] at hK
      refine ⟨_, _, _, L_restOf _ _ _ ?_, by decide, by decide, by decide⟩
      exact ⟨_, _, _, L_keepRound _ _ _ (am hK (fun _ _ e => e) (fun _ _ e => e)), by decide, by decide, by decide⟩
theorem L_keepResidue {s : XS} {t : mH} (r k : Int32) (v : Int64) (hK : ans K t (xKeepM r k v s)) : M P n_X_keepResidue [.ref 0, .int r, .int k, .long v] (hx s t) 2 12 8 K := by
  refine Mgo ok_X_keepResidue 60 rfl ?_
  have hK := ans_nd hK
  refine ⟨_, _, _, L_modAt _ (fun hr => ?_) hK.2, by decide, by decide, by decide⟩
  have hK := hK.1 hr
  refine ⟨_, _, _, L_residueOf _ _ _ ?_, by decide, by decide, by decide⟩
  have hK := ans_nd hK
  refine ⟨_, _, _, L_needIx _ _ (fun hk => ?_) hK.2, by decide, by decide, by decide⟩
  have hK := hK.1 hk
  exact ⟨vp12 hr hk, hK⟩
theorem L_keepResidue0 {s : XS} {t : mH} (r k : Int32) (v : Int64) (hr : ok3 r) (hk : ok4 k) (hK : K (.inl (some (.int (rRes v (xMod r s))))) (hx (xSetR r k (rRes v (xMod r s)) s) t)) : M P n_X_keepResidue [.ref 0, .int r, .int k, .long v] (hx s t) 0 0 8 K := by
  refine Mgo ok_X_keepResidue 60 rfl ?_
  refine ⟨_, _, _, L_modulusAt _ hr ?_, by decide, by decide, by decide⟩
  refine ⟨_, _, _, L_residueOf _ _ _ ?_, by decide, by decide, by decide⟩
  refine ⟨_, _, _, L_needIndex _ _ hk.1 hk.2 ?_, by decide, by decide, by decide⟩
  exact ⟨vp12 hr hk, hK⟩
theorem L_keep0 {s : XS} {t : mH} (l k : Int32) (v : Int64) (hk : ok4 k) (hK : K (.inl (some (.int (wOrder v 0)))) (hx (xSet l k v s) t)) : M P n_X_keep [.ref 0, .int l, .int k, .long v] (hx s t) 0 0 7 K := by
  refine Mgo ok_X_keep 60 rfl ?_
  refine ⟨_, _, _, L_needIndex _ _ hk.1 hk.2 ?_, by decide, by decide, by decide⟩
  unfold xSet at hK
  refine ⟨fun q => ?_, fun q => ?_⟩
  · rw [if_pos q] at hK
    refine ⟨vp4 hk, _, _, _, L_order _ _ _ ?_, by decide, by decide, by decide⟩
    exact hK
  · rw [if_neg q] at hK
    refine ⟨vp4 hk, _, _, _, L_order _ _ _ ?_, by decide, by decide, by decide⟩
    exact hK
end CLS
