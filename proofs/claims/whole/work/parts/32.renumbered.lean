/-! The blocks after numberAnew -/
def sp_iv (gone : Nat → Bool) : Nat → Nat → Nat
  | 0, _ => 0
  | b + 1, i => if gone b = false ∧ nu gone b = i then b else sp_iv gone b i
theorem sp_iv_ok {gone : Nat → Bool} : ∀ {nb i : Nat}, i < nu gone nb → sp_iv gone nb i < nb ∧ gone (sp_iv gone nb i) = false ∧ nu gone (sp_iv gone nb i) = i
  | 0, i, h => absurd h (Nat.not_lt_zero _)
  | b + 1, i, h => by
    unfold sp_iv
    by_cases c : gone b = false ∧ nu gone b = i
    · rw [if_pos c]
      exact ⟨by omega, c.1, c.2⟩
    · rw [if_neg c]
      have h' : i < nu gone b := by
        unfold nu at h
        cases hg : gone b with
        | true =>
          rw [hg, if_pos rfl] at h
          exact h
        | false =>
          rw [hg, if_neg (by decide)] at h
          have : ¬ nu gone b = i := fun z => c ⟨hg, z⟩
          omega
      obtain ⟨h1, h2, h3⟩ := sp_iv_ok h'
      exact ⟨by omega, h2, h3⟩
theorem sp_iv_nu {gone : Nat → Bool} {nb b : Nat} (hb : b < nb) (gb : gone b = false) : sp_iv gone nb (nu gone b) = b := by
  obtain ⟨h1, h2, h3⟩ := sp_iv_ok (gone := gone) (nb := nb) (i := nu gone b) (nu_lt hb gb)
  rcases Nat.lt_trichotomy (sp_iv gone nb (nu gone b)) b with h | h | h
  · have := nu_lt h h2
    omega
  · exact h
  · have := nu_lt h gb
    omega
theorem anew_crs {T : Nat → Nat → Int32} {m : Nat} {S : Int32} {M0 M1 M2 : mc_M} {f nb : Nat} {x : Int32} {R : Nat → Blk} {gone : Nat → Bool} {SS : Nat → List Nat} {J : Nat → Nat} (h : crs T m S M0 f nb R gone SS J) (hf : 34 < f) (h1 : ∀ c, c ≠ 34 → M1 c = M0 c) (h2 : anew M1 M2 f nb nb R gone J) :
    crs T m S (mc_put M2 f 0 x) f (nu gone nb) (fun i => sp_rn gone (R (sp_iv gone nb i))) (fun _ => false) (fun i => SS (sp_iv gone nb i)) (fun i => J (sp_iv gone nb i)) := by
  obtain ⟨a1, a2, a3, a4⟩ := h2
  have w : ∀ c, c ≠ f → mc_put M2 f 0 x c = M2 c := fun c hc => by
    funext y
    rw [mc_put_at, if_neg (fun v => hc v.1)]
  have row : ∀ i, i = 6 ∨ 9 ≤ i → mc_put M2 f 0 x (f + i) = M0 (f + i) := fun i hi => by
    rw [w _ (by omega), a1 _ (by omega) (by omega) (by omega), h1 _ (by omega)]
  have lo : ∀ r, r < 5 → ∀ c, c < nb → gone c = false → mc_put M2 f 0 x (f + (r + 1)) (nu gone c) = M0 (f + (r + 1)) c := fun r hr c hc gc => by
    rw [w _ (by omega), a3 r hr c hc hc gc, h1 _ (by omega)]
  refine ⟨fun i hi _ => ?_, fun i i' hi hi' _ _ hii => ?_⟩
  · obtain ⟨i1, i2, i3⟩ := sp_iv_ok hi
    dsimp only
    generalize sp_iv gone nb i = c at i1 i2 i3 ⊢
    subst i3
    obtain ⟨⟨b1, b2, b3, b4, b5, b6, b7, b8, b9, b10, b11, b12⟩, b13, b14⟩ := h.1 c i1 i2
    have l1 : mc_put M2 f 0 x (f + 1) (nu gone c) = M0 (f + 1) c := lo 0 (by decide) c i1 i2
    have l2 : mc_put M2 f 0 x (f + 2) (nu gone c) = M0 (f + 2) c := lo 1 (by decide) c i1 i2
    have l3 : mc_put M2 f 0 x (f + 3) (nu gone c) = M0 (f + 3) c := lo 2 (by decide) c i1 i2
    have l4 : mc_put M2 f 0 x (f + 4) (nu gone c) = M0 (f + 4) c := lo 3 (by decide) c i1 i2
    have l5 : mc_put M2 f 0 x (f + 5) (nu gone c) = M0 (f + 5) c := lo 4 (by decide) c i1 i2
    obtain ⟨q7, q8⟩ := a4 c i1 i2
    rw [if_pos i1] at q7 q8
    refine ⟨⟨by rw [l1]; exact b1, by rw [l2]; exact b2, b3, ?_, fun s hs => ?_, ?_, by rw [l5]; exact b7, b8, ?_, ?_, ?_, ?_⟩, fun l hl => by rw [l4]; exact b13 l hl, b14⟩
    · rw [l3, row 11 (by decide)]
      exact b4
    · unfold fl_sv
      rw [row 9 (by decide), row 10 (by decide)]
      exact b5 s hs
    · show (R c).2.1 = _
      rw [b6]
      unfold fl_as
      rw [row 9 (by decide), row 10 (by decide), row 12 (by decide)]
    · rw [row 6 (by decide)]
      exact b9
    · rw [row 10 (by decide), row 12 (by decide)]
      exact b10
    · rw [w _ (by omega)]
      exact q7
    · rw [w _ (by omega)]
      exact q8
  · obtain ⟨i1, i2, i3⟩ := sp_iv_ok hi
    obtain ⟨j1, j2, j3⟩ := sp_iv_ok hi'
    exact h.2 _ _ i1 j1 i2 j2 (fun z => hii (by rw [← i3, ← j3, z]))
/-- the residual program after compress -/
def sp_comp (nb : Nat) (R : Nat → Blk) : Nat × (Nat → Blk) := (nu (sp_cw nb nb (R, fun _ => false)).2 nb, fun i => sp_rn (sp_cw nb nb (R, fun _ => false)).2 ((sp_cw nb nb (R, fun _ => false)).1 (sp_iv (sp_cw nb nb (R, fun _ => false)).2 nb i)))
theorem tgs_rn {R : Nat → Blk} {gone : Nat → Bool} {nb : Nat} (hnb : nb ≤ 100) (h : tgs R gone nb) : tgs (fun i => sp_rn gone (R (sp_iv gone nb i))) (fun _ => false) (nu gone nb) := by
  have tn : ∀ t : Int32, (∃ u, u < nb ∧ gone u = false ∧ t = nI u) → ∃ u, u < nu gone nb ∧ (fun _ : Nat => false) u = false ∧ sp_tn gone t = nI u := fun t ht => by
    obtain ⟨u, hu, gu, rfl⟩ := ht
    refine ⟨nu gone u, nu_lt hu gu, rfl, ?_⟩
    unfold sp_tn
    rw [if_neg (nI_ne_m1 (by omega)), nI_clamp (by omega)]
  have m1 : sp_tn gone (-1) = -1 := by
    unfold sp_tn
    rw [if_pos rfl]
  intro i hi _
  obtain ⟨i1, i2, -⟩ := sp_iv_ok hi
  rcases h _ i1 i2 with ⟨y, y1, y2⟩ | ⟨y, y1, y2⟩ | ⟨y, y1, y2⟩
  · exact Or.inl ⟨y, (congrArg (sp_tn gone) y1).trans m1, (congrArg (sp_tn gone) y2).trans m1⟩
  · exact Or.inr (Or.inl ⟨y, tn _ y1, (congrArg (sp_tn gone) y2).trans m1⟩)
  · exact Or.inr (Or.inr ⟨y, tn _ y1, tn _ y2⟩)
