/-! THE LAW: its loop -/
section LAWL
variable {P : GP} {K : Kt}
theorem l_law (hL : gL P ≤ 3072) (hK : ∀ h, K (.inl (some (.int 1))) h) : ∀ (m : Nat) (i : Int32) (x : XS) (s : MS) (n : Int64) (w : Value) (t : mH) (cb sb : Nat), 0 ≤ i.toInt → (gL P : Int) ≤ i.toInt + 6 * (m : Int) + 5 → NZ s → 1000 * m ≤ cb → 14000 * m ≤ sb →
    G P n_K_law K 30 27 [some (.retAddr 0), some (.ref 0), some (.ref 5), some (.ref 13), some (.int i), none, none] [] (hm s x (oc n w :: t)) cb sb
  | 0, i, x, s, n, w, t, cb, sb, h0, hm, hN, hcb, hsb => by
    refine go ok_K_law 12 ?_
    refine ⟨fun _ => ⟨rfl, hK _⟩, fun q => absurd (lp_end hL (by simpa using hm)) q⟩
  | m + 1, i, x, s, n, w, t, cb, sb, h0, hm, hN, hcb, hsb => by
    refine go ok_K_law 12 ?_
    refine ⟨fun _ => ⟨rfl, hK _⟩, fun q => ?_⟩
    obtain ⟨hv, hvi, h6⟩ := lp_hv h0 (lp_in hL q) hL
    have hn := lp_next h0 h6 hm
    have hcb := lp_b hcb
    have hsb := lp_b hsb
    have hz : ∀ r, ¬ mMod r s = 0 := fun r => hN _
    have nx : nxtG P K (fun _ s => NZ s) i (1000 * m) (14000 * m) := fun x' s' n' w' t' hI => l_law hL hK m (i + 6) x' s' n' w' t' _ _ hn.1 hn.2 hI (Nat.le_refl _) (Nat.le_refl _)
    refine ⟨hvi, ?_⟩
    refine ⟨fun _ => c_put hv (fun l k hi lo => nz_put hN l k hi lo) (fun l k hi lo => ag_put l k hi lo x s) hcb hsb nx, fun _ => ?_⟩
    refine ⟨fun _ => c_copy hv (fun l k f => nz_copy hN l k f) hcb hsb nx, fun _ => ?_⟩
    refine ⟨fun _ => c_widen hv (fun k f => nz_widen hN k f) hcb hsb nx, fun _ => ?_⟩
    refine ⟨fun _ => c_narrow hv (fun k f => nz_narrow hN k f) hcb hsb nx, fun _ => ?_⟩
    refine ⟨fun _ => c_exact hv (fun l k f q => nz_exact hN l k f q) hcb hsb nx, fun _ => ?_⟩
    refine ⟨fun _ => c_fits hv (fun l k f q => nz_fits hN l k f q) hcb hsb nx, fun _ => ?_⟩
    refine ⟨fun _ => c_alone hv (fun l k q => nz_alone hN l k q) hcb hsb nx, fun _ => ?_⟩
    refine ⟨fun _ => c_timesInt hv (fun k f => nz_timesInt hN k f) hcb hsb nx, fun _ => ?_⟩
    refine ⟨fun _ => c_full hv (fun k a b => nz_full hN k a b) hcb hsb nx, fun _ => ?_⟩
    refine ⟨fun _ => c_high hv (fun k a b => nz_high hN k a b) hcb hsb nx, fun _ => ?_⟩
    refine ⟨fun _ => c_round hv (fun l k f q => nz_round hN l k f q) hcb hsb nx, fun _ => ?_⟩
    refine ⟨fun _ => c_abs hv (fun l k => nz_abs hN l k) hcb hsb nx, fun _ => ?_⟩
    refine ⟨fun _ => c_extreme hv (fun l k f g => nz_extreme hN l k f g) hcb hsb nx, fun _ => ?_⟩
    refine ⟨fun _ => c_floor hv (fun l k f r => nz_floor hN l k f r) hcb hsb nx, fun _ => ?_⟩
    refine ⟨fun _ => c_floorInt hv (fun k f r => nz_floorInt hN k f r) hcb hsb nx, fun _ => ?_⟩
    refine ⟨fun _ => c_towards hv (fun l k f r => nz_towards hN l k f r) hcb hsb nx, fun _ => ?_⟩
    refine ⟨fun _ => c_average hv (fun l k f u => nz_average hN l k f u) hcb hsb nx, fun _ => ?_⟩
    refine ⟨fun _ => c_chain hv (fun k a b c => nz_chain hN k a b c) hcb hsb nx, fun _ => ?_⟩
    refine ⟨fun _ => c_atOnce hv (fun k a b c => nz_atOnce hN k a b c) hcb hsb nx, fun _ => ?_⟩
    refine ⟨fun _ => c_distance hv (fun l a b => nz_distance hN a b) hcb hsb nx, fun _ => ?_⟩
    refine ⟨fun _ => c_compare hv (fun l k f => nz_compare hN l k f) hcb hsb nx, fun _ => ?_⟩
    refine ⟨fun _ => c_text hv (fun l k => nz_text hN k) hcb hsb nx, fun _ => ?_⟩
    refine ⟨fun _ => c_ofNumber hv (fun l k q => nz_ofNumber hN l k q) hcb hsb nx, fun _ => ?_⟩
    refine ⟨fun _ => c_rest hv (fun l k m => nz_rest hN l k m) hcb hsb nx, fun _ => ?_⟩
    refine ⟨fun _ => c_quotient hv (fun l k m => nz_quotient hN k m) hcb hsb nx, fun _ => ?_⟩
    refine ⟨fun _ => c_modulus hv (fun r m => nz_modulus hN r m) hcb hsb nx, fun _ => ?_⟩
    refine ⟨fun _ => c_bring hv hz (fun r k l f => nz_bring hN r k l f) hcb hsb nx, fun _ => ?_⟩
    refine ⟨fun _ => c_lift hv (fun r i l k => nz_lift hN r i l k) hcb hsb nx, fun _ => ?_⟩
    refine ⟨fun _ => c_plus hv hz (fun r k f m => nz_plus hN r k f m) hcb hsb nx, fun _ => ?_⟩
    refine ⟨fun _ => c_times hv hz (fun r k f => nz_times hN r k f) hcb hsb nx, fun _ => ?_⟩
    refine ⟨fun _ => c_power hv hz (fun r k e => nz_power hN r k e) hcb hsb nx, fun _ => ?_⟩
    refine ⟨fun _ => c_inverse hv hz (fun r k => nz_inverse hN r k) hcb hsb nx, fun _ => ?_⟩
    refine ⟨fun _ => c_isUnit hv (fun r k => nz_isUnit hN r k) hcb hsb nx, fun _ => ?_⟩
    refine ⟨fun _ => c_residue hv (fun r k => nz_residue hN r k) hcb hsb nx, fun _ => ?_⟩
    refine ⟨fun _ => c_ringText hv (fun r => nz_ringText hN r) hcb hsb nx, fun _ => ?_⟩
    refine ⟨fun _ => c_areAlike hv hz (fun r l a b => nz_areAlike hN r l a b) hcb hsb nx, fun _ => ?_⟩
    refine ⟨fun _ => c_together hv hz (fun k r a q b => nz_together hN k r a q b) hcb hsb nx, fun _ => ?_⟩
    refine ⟨fun _ => c_common hv hz (fun r q => nz_common hN r q) hcb hsb nx, fun _ => ?_⟩
    refine ⟨fun _ => c_house hv (fun q => nz_house hN q) hcb hsb nx, fun _ => ?_⟩
    refine ⟨fun _ => c_knock hN hcb hsb nx, fun _ => ?_⟩
    refine ⟨fun _ => c_isSound hN hcb hsb nx, fun _ => ?_⟩
    refine ⟨fun _ => c_digest hN hcb hsb nx, fun _ => ?_⟩
    exact c_none hN hcb hsb nx
end LAWL
