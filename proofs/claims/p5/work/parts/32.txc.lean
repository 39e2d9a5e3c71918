/-! TEXTS: a fixed text is added -/
section TXC
variable {P : GP} {K : Kt} {h : mH}
theorem oA (a b : Nat) : Int32.ofNat a + Int32.ofNat b = Int32.ofNat (a + b) := (Int32.ofNat_add a b).symm
theorem BFc0 : BF (fun j => (([] : List Int32)).getD j 0) := fun j => by
  match j with
  | 0 => rfl
  | 1 => rfl
  | _ + 2 => rfl
theorem L_coder0 (hK : K (.inl (some (.int 0))) h) : M P n_STR_coder [.retAddr 10] h 0 0 6 K := by
  refine Mgo ok_STR_coder 60 rfl ?_
  refine ⟨fun e => absurd e (by decide), fun _ => ?_⟩
  exact ⟨rfl, hK⟩
theorem L_slen0 (hK : K (.inl (some (.int (Int32.ofNat 0 >>> ((0 : Int32) &&& 31))))) h) : M P n_STR_length [.retAddr 10] h 0 0 7 K := by
  refine Mgo ok_STR_length 60 rfl ?_
  refine ⟨_, _, _, L_coder0 ?_, by decide, by decide, by decide⟩
  exact hK
theorem L_getBytes0 {v n c : Nat} {g : Nat → Int32} (ha : isA h v n g) (hg : BF g) (hc : c + 0 ≤ n) (hn : n ≤ 200) (hK : ∀ g', BF g' → K (.inl none) (h.set v (.inl (0, n, .inl g')))) : M P n_STR_getBytes [.retAddr 10, .ref v, .int (Int32.ofNat c), .int 0] h 0 0 7 K := by
  refine Mgo ok_STR_getBytes 14 rfl ?_
  refine ⟨_, _, _, L_coder0 ?_, by decide, by decide, by decide⟩
  refine ⟨fun _ => ?_, fun e => absurd rfl e⟩
  have hN : (Int32.ofNat c <<< ((0 : Int32) &&& 31)).toNatClampNeg = c := by rw [sb_shl0]; exact oNn (by omega)
  refine s_acp d_gB22 wT_ac (src_c (c := 30) (n0 := 0) (f := fun j => (([] : List Int32)).getD j 0) rfl) ha (by decide) (by rw [sb_shl0]; exact oN0 (by omega)) (by decide) (by decide) (by rw [hN]; exact hc) BFc0 (by decide) (by decide) ?_
  refine go ok_STR_getBytes 20 ?_
  exact hK _ (BF_cpy BFc0 hg _ _ _)
theorem L_inflate0 {b v c : Nat} {q : Value} (hb : isB h b v q c) (hK : K (.inl none) h) : M P n_ASB_inflateIfNeededFor [.ref b, .retAddr 10] h 0 0 7 K := by
  refine Mgo ok_ASB_inflateIfNeededFor 60 rfl ?_
  refine ⟨fun e => absurd e (by decide), fun _ => ?_⟩
  conv => whnf
  rw [hb]
  refine ⟨_, _, _, L_coder0 ?_, by decide, by decide, by decide⟩
  exact ⟨fun _ => hK, fun e => absurd rfl e⟩
theorem L_putS0 {b v n c : Nat} {g : Nat → Int32} {q : Value} (hb : isB h b v q c) (ha : isA h v n g) (hg : BF g) (hc : c + 0 ≤ n) (hn : n ≤ 200) (hK : ∀ g', BF g' → K (.inl none) (h.set v (.inl (0, n, .inl g')))) : M P n_ASB_putStringAt [.ref b, .int (Int32.ofNat c), .retAddr 10] h 0 0 8 K := by
  refine Mgo ok_ASB_putStringAt 60 rfl ?_
  conv => whnf
  rw [hb]
  refine ⟨_, _, _, L_inflate0 hb ?_, by decide, by decide, by decide⟩
  conv => whnf
  rw [hb]
  conv => whnf
  rw [hb]
  refine ⟨_, _, _, L_getBytes0 ha hg hc hn (fun g' hg' => ?_), by decide, by decide, by decide⟩
  exact hK g' hg'
theorem L_ASBappT0 {p b c m0 : Nat} (hS : SB p b c m0 h) (hc : c < 90) (hK : ∀ h', Kp p h h' → SB p b (c + 0) (c + 0) h' → K (.inl (some (.ref b))) h') : M P n_ASB_append_T [.ref b, .retAddr 10] h 1 200 10 K := by
  have hS0 := hS
  obtain ⟨hp, v0, n0, g0, q0, -, -, hb0, -, -, -, -⟩ := hS0
  refine Mgo ok_ASB_append_T 60 rfl ?_
  refine ⟨_, _, _, L_slen0 ?_, by decide, by decide, by decide⟩
  conv => whnf
  rw [hb0]
  conv => whnf
  rw [hb0]
  refine ⟨_, _, _, L_ensure (m := c + 0) _ (by rw [sb_shr0]; exact oA c 0) hS (by omega) (fun h' hk' hS' => ?_), by decide, by decide, by decide⟩
  obtain ⟨-, v, n, g, q, hv, hne, hb, ha, hg, hm, hn⟩ := hS'
  conv => whnf
  rw [hb]
  conv => whnf
  rw [hb]
  refine ⟨_, _, _, L_putS0 hb ha hg hm hn (fun g' hg' => ?_), by decide, by decide, by decide⟩
  have hb2 : ∀ cc, isB (h'.set v cc) b v q c := fun cc => by
    rw [isB, nth_sn hne]
    exact hb
  conv => whnf
  rw [(hb2 _)]
  conv => whnf
  rw [(hb2 _)]
  refine hK _ ((hk'.st hv).st hp) ⟨hp, v, n, g', q, hv, hne, ?_, ?_, hg', hm, hn⟩
  · rw [isB, nth_se (hb2 _), sb_shr0, oA]
    rfl
  · rw [isA, nth_sn (Ne.symm hne)]
    exact nth_se ha
theorem L_appT0 {p b c m0 : Nat} (hS : SB p b c m0 h) (hc : c < 90) (hK : ∀ h', Kp p h h' → SB p b (c + 0) (c + 0) h' → K (.inl (some (.ref b))) h') : M P n_SB_append_T [.ref b, .retAddr 10] h 1 200 11 K := by
  have hS0 := hS
  obtain ⟨hp, v0, n0, g0, q0, -, -, hb0, -, -, -, -⟩ := hS0
  refine Mgo ok_SB_append_T 60 rfl ?_
  conv => whnf
  rw [hb0]
  refine ⟨_, _, _, L_ASBappT0 hS hc (fun h' hk' hS' => ?_), by decide, by decide, by decide⟩
  exact hK h' hk' hS'
theorem BFc1 : BF (fun j => (([58, 32] : List Int32)).getD j 0) := fun j => by
  match j with
  | 0 => rfl
  | 1 => rfl
  | _ + 2 => rfl
theorem L_coder1 (hK : K (.inl (some (.int 0))) h) : M P n_STR_coder [.retAddr 11] h 0 0 6 K := by
  refine Mgo ok_STR_coder 60 rfl ?_
  refine ⟨fun e => absurd e (by decide), fun _ => ?_⟩
  exact ⟨rfl, hK⟩
theorem L_slen1 (hK : K (.inl (some (.int (Int32.ofNat 2 >>> ((0 : Int32) &&& 31))))) h) : M P n_STR_length [.retAddr 11] h 0 0 7 K := by
  refine Mgo ok_STR_length 60 rfl ?_
  refine ⟨_, _, _, L_coder1 ?_, by decide, by decide, by decide⟩
  exact hK
theorem L_getBytes1 {v n c : Nat} {g : Nat → Int32} (ha : isA h v n g) (hg : BF g) (hc : c + 2 ≤ n) (hn : n ≤ 200) (hK : ∀ g', BF g' → K (.inl none) (h.set v (.inl (0, n, .inl g')))) : M P n_STR_getBytes [.retAddr 11, .ref v, .int (Int32.ofNat c), .int 0] h 0 0 7 K := by
  refine Mgo ok_STR_getBytes 14 rfl ?_
  refine ⟨_, _, _, L_coder1 ?_, by decide, by decide, by decide⟩
  refine ⟨fun _ => ?_, fun e => absurd rfl e⟩
  have hN : (Int32.ofNat c <<< ((0 : Int32) &&& 31)).toNatClampNeg = c := by rw [sb_shl0]; exact oNn (by omega)
  refine s_acp d_gB22 wT_ac (src_c (c := 31) (n0 := 2) (f := fun j => (([58, 32] : List Int32)).getD j 0) rfl) ha (by decide) (by rw [sb_shl0]; exact oN0 (by omega)) (by decide) (by decide) (by rw [hN]; exact hc) BFc1 (by decide) (by decide) ?_
  refine go ok_STR_getBytes 20 ?_
  exact hK _ (BF_cpy BFc1 hg _ _ _)
theorem L_inflate1 {b v c : Nat} {q : Value} (hb : isB h b v q c) (hK : K (.inl none) h) : M P n_ASB_inflateIfNeededFor [.ref b, .retAddr 11] h 0 0 7 K := by
  refine Mgo ok_ASB_inflateIfNeededFor 60 rfl ?_
  refine ⟨fun e => absurd e (by decide), fun _ => ?_⟩
  conv => whnf
  rw [hb]
  refine ⟨_, _, _, L_coder1 ?_, by decide, by decide, by decide⟩
  exact ⟨fun _ => hK, fun e => absurd rfl e⟩
theorem L_putS1 {b v n c : Nat} {g : Nat → Int32} {q : Value} (hb : isB h b v q c) (ha : isA h v n g) (hg : BF g) (hc : c + 2 ≤ n) (hn : n ≤ 200) (hK : ∀ g', BF g' → K (.inl none) (h.set v (.inl (0, n, .inl g')))) : M P n_ASB_putStringAt [.ref b, .int (Int32.ofNat c), .retAddr 11] h 0 0 8 K := by
  refine Mgo ok_ASB_putStringAt 60 rfl ?_
  conv => whnf
  rw [hb]
  refine ⟨_, _, _, L_inflate1 hb ?_, by decide, by decide, by decide⟩
  conv => whnf
  rw [hb]
  conv => whnf
  rw [hb]
  refine ⟨_, _, _, L_getBytes1 ha hg hc hn (fun g' hg' => ?_), by decide, by decide, by decide⟩
  exact hK g' hg'
theorem L_ASBappT1 {p b c m0 : Nat} (hS : SB p b c m0 h) (hc : c < 90) (hK : ∀ h', Kp p h h' → SB p b (c + 2) (c + 2) h' → K (.inl (some (.ref b))) h') : M P n_ASB_append_T [.ref b, .retAddr 11] h 1 200 10 K := by
  have hS0 := hS
  obtain ⟨hp, v0, n0, g0, q0, -, -, hb0, -, -, -, -⟩ := hS0
  refine Mgo ok_ASB_append_T 60 rfl ?_
  refine ⟨_, _, _, L_slen1 ?_, by decide, by decide, by decide⟩
  conv => whnf
  rw [hb0]
  conv => whnf
  rw [hb0]
  refine ⟨_, _, _, L_ensure (m := c + 2) _ (by rw [sb_shr0]; exact oA c 2) hS (by omega) (fun h' hk' hS' => ?_), by decide, by decide, by decide⟩
  obtain ⟨-, v, n, g, q, hv, hne, hb, ha, hg, hm, hn⟩ := hS'
  conv => whnf
  rw [hb]
  conv => whnf
  rw [hb]
  refine ⟨_, _, _, L_putS1 hb ha hg hm hn (fun g' hg' => ?_), by decide, by decide, by decide⟩
  have hb2 : ∀ cc, isB (h'.set v cc) b v q c := fun cc => by
    rw [isB, nth_sn hne]
    exact hb
  conv => whnf
  rw [(hb2 _)]
  conv => whnf
  rw [(hb2 _)]
  refine hK _ ((hk'.st hv).st hp) ⟨hp, v, n, g', q, hv, hne, ?_, ?_, hg', hm, hn⟩
  · rw [isB, nth_se (hb2 _), sb_shr0, oA]
    rfl
  · rw [isA, nth_sn (Ne.symm hne)]
    exact nth_se ha
theorem L_appT1 {p b c m0 : Nat} (hS : SB p b c m0 h) (hc : c < 90) (hK : ∀ h', Kp p h h' → SB p b (c + 2) (c + 2) h' → K (.inl (some (.ref b))) h') : M P n_SB_append_T [.ref b, .retAddr 11] h 1 200 11 K := by
  have hS0 := hS
  obtain ⟨hp, v0, n0, g0, q0, -, -, hb0, -, -, -, -⟩ := hS0
  refine Mgo ok_SB_append_T 60 rfl ?_
  conv => whnf
  rw [hb0]
  refine ⟨_, _, _, L_ASBappT1 hS hc (fun h' hk' hS' => ?_), by decide, by decide, by decide⟩
  exact hK h' hk' hS'
theorem BFc2 : BF (fun j => (([32] : List Int32)).getD j 0) := fun j => by
  match j with
  | 0 => rfl
  | 1 => rfl
  | _ + 2 => rfl
theorem L_coder2 (hK : K (.inl (some (.int 0))) h) : M P n_STR_coder [.retAddr 12] h 0 0 6 K := by
  refine Mgo ok_STR_coder 60 rfl ?_
  refine ⟨fun e => absurd e (by decide), fun _ => ?_⟩
  exact ⟨rfl, hK⟩
theorem L_slen2 (hK : K (.inl (some (.int (Int32.ofNat 1 >>> ((0 : Int32) &&& 31))))) h) : M P n_STR_length [.retAddr 12] h 0 0 7 K := by
  refine Mgo ok_STR_length 60 rfl ?_
  refine ⟨_, _, _, L_coder2 ?_, by decide, by decide, by decide⟩
  exact hK
theorem L_getBytes2 {v n c : Nat} {g : Nat → Int32} (ha : isA h v n g) (hg : BF g) (hc : c + 1 ≤ n) (hn : n ≤ 200) (hK : ∀ g', BF g' → K (.inl none) (h.set v (.inl (0, n, .inl g')))) : M P n_STR_getBytes [.retAddr 12, .ref v, .int (Int32.ofNat c), .int 0] h 0 0 7 K := by
  refine Mgo ok_STR_getBytes 14 rfl ?_
  refine ⟨_, _, _, L_coder2 ?_, by decide, by decide, by decide⟩
  refine ⟨fun _ => ?_, fun e => absurd rfl e⟩
  have hN : (Int32.ofNat c <<< ((0 : Int32) &&& 31)).toNatClampNeg = c := by rw [sb_shl0]; exact oNn (by omega)
  refine s_acp d_gB22 wT_ac (src_c (c := 32) (n0 := 1) (f := fun j => (([32] : List Int32)).getD j 0) rfl) ha (by decide) (by rw [sb_shl0]; exact oN0 (by omega)) (by decide) (by decide) (by rw [hN]; exact hc) BFc2 (by decide) (by decide) ?_
  refine go ok_STR_getBytes 20 ?_
  exact hK _ (BF_cpy BFc2 hg _ _ _)
theorem L_inflate2 {b v c : Nat} {q : Value} (hb : isB h b v q c) (hK : K (.inl none) h) : M P n_ASB_inflateIfNeededFor [.ref b, .retAddr 12] h 0 0 7 K := by
  refine Mgo ok_ASB_inflateIfNeededFor 60 rfl ?_
  refine ⟨fun e => absurd e (by decide), fun _ => ?_⟩
  conv => whnf
  rw [hb]
  refine ⟨_, _, _, L_coder2 ?_, by decide, by decide, by decide⟩
  exact ⟨fun _ => hK, fun e => absurd rfl e⟩
theorem L_putS2 {b v n c : Nat} {g : Nat → Int32} {q : Value} (hb : isB h b v q c) (ha : isA h v n g) (hg : BF g) (hc : c + 1 ≤ n) (hn : n ≤ 200) (hK : ∀ g', BF g' → K (.inl none) (h.set v (.inl (0, n, .inl g')))) : M P n_ASB_putStringAt [.ref b, .int (Int32.ofNat c), .retAddr 12] h 0 0 8 K := by
  refine Mgo ok_ASB_putStringAt 60 rfl ?_
  conv => whnf
  rw [hb]
  refine ⟨_, _, _, L_inflate2 hb ?_, by decide, by decide, by decide⟩
  conv => whnf
  rw [hb]
  conv => whnf
  rw [hb]
  refine ⟨_, _, _, L_getBytes2 ha hg hc hn (fun g' hg' => ?_), by decide, by decide, by decide⟩
  exact hK g' hg'
theorem L_ASBappT2 {p b c m0 : Nat} (hS : SB p b c m0 h) (hc : c < 90) (hK : ∀ h', Kp p h h' → SB p b (c + 1) (c + 1) h' → K (.inl (some (.ref b))) h') : M P n_ASB_append_T [.ref b, .retAddr 12] h 1 200 10 K := by
  have hS0 := hS
  obtain ⟨hp, v0, n0, g0, q0, -, -, hb0, -, -, -, -⟩ := hS0
  refine Mgo ok_ASB_append_T 60 rfl ?_
  refine ⟨_, _, _, L_slen2 ?_, by decide, by decide, by decide⟩
  conv => whnf
  rw [hb0]
  conv => whnf
  rw [hb0]
  refine ⟨_, _, _, L_ensure (m := c + 1) _ (by rw [sb_shr0]; exact oA c 1) hS (by omega) (fun h' hk' hS' => ?_), by decide, by decide, by decide⟩
  obtain ⟨-, v, n, g, q, hv, hne, hb, ha, hg, hm, hn⟩ := hS'
  conv => whnf
  rw [hb]
  conv => whnf
  rw [hb]
  refine ⟨_, _, _, L_putS2 hb ha hg hm hn (fun g' hg' => ?_), by decide, by decide, by decide⟩
  have hb2 : ∀ cc, isB (h'.set v cc) b v q c := fun cc => by
    rw [isB, nth_sn hne]
    exact hb
  conv => whnf
  rw [(hb2 _)]
  conv => whnf
  rw [(hb2 _)]
  refine hK _ ((hk'.st hv).st hp) ⟨hp, v, n, g', q, hv, hne, ?_, ?_, hg', hm, hn⟩
  · rw [isB, nth_se (hb2 _), sb_shr0, oA]
    rfl
  · rw [isA, nth_sn (Ne.symm hne)]
    exact nth_se ha
theorem L_appT2 {p b c m0 : Nat} (hS : SB p b c m0 h) (hc : c < 90) (hK : ∀ h', Kp p h h' → SB p b (c + 1) (c + 1) h' → K (.inl (some (.ref b))) h') : M P n_SB_append_T [.ref b, .retAddr 12] h 1 200 11 K := by
  have hS0 := hS
  obtain ⟨hp, v0, n0, g0, q0, -, -, hb0, -, -, -, -⟩ := hS0
  refine Mgo ok_SB_append_T 60 rfl ?_
  conv => whnf
  rw [hb0]
  refine ⟨_, _, _, L_ASBappT2 hS hc (fun h' hk' hS' => ?_), by decide, by decide, by decide⟩
  exact hK h' hk' hS'
end TXC
