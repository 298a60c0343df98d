theorem cN_has {g : mc_G} {d : Nat} {x : Int32} {n : Nat} {M : mc_M} {L : mc_L} {Q : Option Value → mc_M → mc_L → Prop} (h : Q (some (.int (if 0 ≤ x ∧ x < M 1 5 then 1 else 0))) M L) : ctN_has g (d + 1) [.ref 1, .int x] n M L Q := by
  refine inN_has (Nat.le_of_ble_eq_true rfl) ?_
  intro K hK
  refine hK.1 [] 20 0 _ _ _ _ _ ?_
  refine And.intro (fun h1 => ?_) (fun h1 => ?_)
  · refine And.intro (Or.inl rfl) (And.intro (Nat.le_refl _) ?_)
    trace_state
    sorry
  · refine And.intro (fun h2 => ?_) (fun h2 => ?_)
    · refine And.intro (Or.inl rfl) (And.intro (Nat.le_refl _) ?_)
      sorry
    · refine And.intro (Or.inr rfl) (And.intro (Nat.le_refl _) ?_)
      trace_state
      sorry
