/-! THE LAW: its loop -/
section LAWL
variable {P : GP} {K : Kt}
theorem l_law (hL : gL P ≤ 3072) (hK : ∀ h, K (.inl (some (.int 1))) h) : ∀ (m : Nat) (i : Int32) (x : XS) (s : MS) (n : Int64) (w : Value) (t : mH) (cb sb : Nat), 0 ≤ i.toInt → (gL P : Int) ≤ i.toInt + 6 * (m : Int) + 5 → Rel x s → 1000 * m ≤ cb → 14000 * m ≤ sb →
    G P n_K_law K 30 27 [some (.retAddr 0), some (.ref 0), some (.ref 5), some (.ref 13), some (.int i), none, none] [] (hm s x (oc n w :: t)) cb sb
  | 0, i, x, s, n, w, t, cb, sb, h0, hm, hR, hcb, hsb => by
    refine go ok_K_law 12 ?_
    refine ⟨fun _ => ⟨rfl, hK _⟩, fun q => absurd (lp_end hL (by simpa using hm)) q⟩
  | m + 1, i, x, s, n, w, t, cb, sb, h0, hm, hR, hcb, hsb => by
    refine go ok_K_law 12 ?_
    refine ⟨fun _ => ⟨rfl, hK _⟩, fun q => ?_⟩
    obtain ⟨hv, hvi, h6⟩ := lp_hv h0 (lp_in hL q) hL
    have hn := lp_next h0 h6 hm
    have hcb := lp_b hcb
    have hsb := lp_b hsb
    have hz : ∀ r, ¬ mMod r s = 0 := fun r => mod_nz hR r
    have nx : nxtG P K Rel i (1000 * m) (14000 * m) := fun x' s' n' w' t' hI => l_law hL hK m (i + 6) x' s' n' w' t' _ _ hn.1 hn.2 hI (Nat.le_refl _) (Nat.le_refl _)
    refine ⟨hvi, ?_⟩
    refine ⟨fun _ => c_put hv (fun l k hi lo => (ra_put hR l k hi lo).1) hcb hsb nx, fun _ => ?_⟩
    refine ⟨fun _ => c_copy hv (fun l k f => (ra_copy hR l k f).1) hcb hsb nx, fun _ => ?_⟩
    refine ⟨fun _ => c_widen hv (fun k f => (ra_widen hR k f).1) hcb hsb nx, fun _ => ?_⟩
    refine ⟨fun _ => c_narrow hv (fun k f => (ra_narrow hR k f).1) (fun k f => (ra_narrow hR k f).2) hcb hsb nx, fun _ => ?_⟩
    refine ⟨fun _ => c_exact hv (fun l k f q => (ra_exact hR l k f q).1) hcb hsb nx, fun _ => ?_⟩
    refine ⟨fun _ => c_fits hv (fun l k f q => (ra_fits hR l k f q).1) hcb hsb nx, fun _ => ?_⟩
    refine ⟨fun _ => c_alone hv (fun l k q => (ra_alone hR l k q).1) hcb hsb nx, fun _ => ?_⟩
    refine ⟨fun _ => c_timesInt hv (fun k f => (ra_timesInt hR k f).1) hcb hsb nx, fun _ => ?_⟩
    refine ⟨fun _ => c_full hv (fun k a b => (ra_full hR k a b).1) hcb hsb nx, fun _ => ?_⟩
    refine ⟨fun _ => c_high hv (fun k a b => (ra_high hR k a b).1) hcb hsb nx, fun _ => ?_⟩
    refine ⟨fun _ => c_round hv (fun l k f q => (ra_round hR l k f q).1) hcb hsb nx, fun _ => ?_⟩
    refine ⟨fun _ => c_abs hv (fun l k => (ra_abs hR l k).1) hcb hsb nx, fun _ => ?_⟩
    refine ⟨fun _ => c_extreme hv (fun l k f g => (ra_extreme hR l k f g).1) hcb hsb nx, fun _ => ?_⟩
    refine ⟨fun _ => c_floor hv (fun l k f r => (ra_floor hR l k f r).1) hcb hsb nx, fun _ => ?_⟩
    refine ⟨fun _ => c_floorInt hv (fun k f r => (ra_floorInt hR k f r).1) hcb hsb nx, fun _ => ?_⟩
    refine ⟨fun _ => c_towards hv (fun l k f r => (ra_towards hR l k f r).1) hcb hsb nx, fun _ => ?_⟩
    refine ⟨fun _ => c_average hv (fun l k f u => (ra_average hR l k f u).1) hcb hsb nx, fun _ => ?_⟩
    refine ⟨fun _ => c_chain hv (fun k a b c => (ra_chain hR k a b c).1) hcb hsb nx, fun _ => ?_⟩
    refine ⟨fun _ => c_atOnce hv (fun k a b c => (ra_atOnce hR k a b c).1) hcb hsb nx, fun _ => ?_⟩
    refine ⟨fun _ => c_distance hv (fun l a b => (ra_distance hR l a b)) hcb hsb nx, fun _ => ?_⟩
    refine ⟨fun _ => c_compare hv (fun l k f => (ra_compare hR l k f).1) hcb hsb nx, fun _ => ?_⟩
    refine ⟨fun _ => c_text hv (fun l k => (ra_text hR l k)) hcb hsb nx, fun _ => ?_⟩
    refine ⟨fun _ => c_ofNumber hv (fun l k q => (ra_ofNumber hR l k q).1) hcb hsb nx, fun _ => ?_⟩
    refine ⟨fun _ => c_rest hv (fun l k m => (ra_rest hR l k m).1) hcb hsb nx, fun _ => ?_⟩
    refine ⟨fun _ => c_quotient hv (fun l k m => (ra_quotient hR l k m)) hcb hsb nx, fun _ => ?_⟩
    refine ⟨fun _ => c_modulus hv (fun r m => (ra_modulus hR r m).1) hcb hsb nx, fun _ => ?_⟩
    refine ⟨fun _ => c_bring hv hz (fun r k l f => (ra_bring hR r k l f).1) hcb hsb nx, fun _ => ?_⟩
    refine ⟨fun _ => c_lift hv (fun r i l k => (ra_lift hR r i l k).1) hcb hsb nx, fun _ => ?_⟩
    refine ⟨fun _ => c_plus hv hz (fun r k f m => (ra_plus hR r k f m).1) hcb hsb nx, fun _ => ?_⟩
    refine ⟨fun _ => c_times hv hz (fun r k f => (ra_times hR r k f).1) hcb hsb nx, fun _ => ?_⟩
    refine ⟨fun _ => c_power hv hz (fun r k e => (ra_power hR r k e).1) hcb hsb nx, fun _ => ?_⟩
    refine ⟨fun _ => c_inverse hv hz (fun r k => (ra_inverse hR r k).1) hcb hsb nx, fun _ => ?_⟩
    refine ⟨fun _ => c_isUnit hv (fun r k => (ra_isUnit hR r k).1) hcb hsb nx, fun _ => ?_⟩
    refine ⟨fun _ => c_residue hv (fun r k => (ra_residue hR r k).1) hcb hsb nx, fun _ => ?_⟩
    refine ⟨fun _ => c_ringText hv (fun r => (ra_ringText hR r)) hcb hsb nx, fun _ => ?_⟩
    refine ⟨fun _ => c_areAlike hv hz (fun r l a b => (ra_areAlike hR r l a b).1) hcb hsb nx, fun _ => ?_⟩
    refine ⟨fun _ => c_together hv hz (fun k r a q b => (ra_together hR k r a q b).1) hcb hsb nx, fun _ => ?_⟩
    refine ⟨fun _ => c_common hv hz (fun r q => (ra_common hR r q)) hcb hsb nx, fun _ => ?_⟩
    refine ⟨fun _ => c_house hv (fun q => (ra_house hR q).1) hcb hsb nx, fun _ => ?_⟩
    refine ⟨fun _ => c_knock (ra_knock hR).1 hcb hsb nx, fun _ => ?_⟩
    refine ⟨fun _ => c_isSound (rel_T hR 0) hcb hsb nx, fun _ => ?_⟩
    refine ⟨fun _ => c_digest (rel_T hR 0) hcb hsb nx, fun _ => ?_⟩
    exact c_none hR hcb hsb nx
end LAWL
