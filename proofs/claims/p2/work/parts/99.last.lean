set_option maxRecDepth 10000 in
theorem zz_order (P : GP) (K : Kt) (d : Nat) (h : mH) (cb sb : Nat) (a b : Int64) (h1 : a < b → K (.inl (some (.int (-1)))) h) (h2 : b < a → K (.inl (some (.int 1))) h) (h3 : ¬ a < b → ¬ b < a → K (.inl (some (.int 0))) h) :
    run P n_W_order K d 50 (seekC (mChk n_W_order) 0) [some (.long a), none, some (.long b), none] [] h cb sb := by
  refine ⟨fun q => ?_, fun q => ?_⟩
  · exact h1 q
  · refine ⟨fun q2 => ?_, fun q2 => ?_⟩
    · exact h2 q2
    · exact h3 q q2
set_option maxRecDepth 10000 in
theorem zz_order2 (P : GP) (K : Kt) (d : Nat) (h : mH) (cb sb : Nat) (a b : Int64) (h1 : a < b → K (.inl (some (.int (-1)))) h) (h2 : b < a → K (.inl (some (.int 1))) h) (h3 : ¬ a < b → ¬ b < a → K (.inl (some (.int 0))) h) :
    run P n_W_order K d 50 (seekC (mChk n_W_order) 0) [some (.long a), none, some (.long b), none] [] h cb sb := by
  refine ⟨fun q => ?_, fun q => ?_⟩
  · trace_state
    exact h1 q
  · refine ⟨fun q2 => ?_, fun q2 => ?_⟩
    · exact h2 q2
    · exact h3 q q2
