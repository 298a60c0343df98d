/-! Pairs of calls: clear, assign, jump, node -/
section PR3
variable {g : mc_G} {T : Nat → Nat → Int32} {m : Nat} {G : Int32} {P : Nat → Blk} {I : Nat → Int32} {A1 A2 A3 D : Int32} {nb : Nat} {R : Nat → Blk} {M M' : mc_M} {L : mc_L}
/-- the class's program has changed -/
theorem CS_prog {P' : Nat → Blk} (h : CS T m G P I A1 A2 A3 D nb R M) (hP : prC M' m P') (o : ∀ c, c < 7 ∨ 19 < c → M' c = M c) : CS T m G P' I A1 A2 A3 D nb R M' := by
  obtain ⟨a1, a2, a3, a4, a5, a6, a7, a8⟩ := h
  exact ⟨nt_C_to a1 (fun c _ q => o c (by omega)), by rw [o 1 (by decide)]; exact a2, hP, fun v hv => by rw [o 20 (by decide)]; exact a4 v hv, by rw [o 23 (by decide)]; exact a5, by rw [o 23 (by decide)]; exact a6, by rw [o 23 (by decide)]; exact a7, CR_to a8 (o 0 (by decide)) (o 35 (by decide)) (o 36 (by decide)) (fun c q _ => o c (by omega))⟩
theorem MS_prog {P' : Nat → Blk} (h : MS T m G P I A1 A2 A3 D nb R M) (hP : pgR M' m P') (hJ : pjR M' m P') (o64 : ∀ i, i ≠ 0 → M' 64 i = M 64 i) (o : ∀ c, c ≠ 64 → c < 70 ∨ 76 < c → M' c = M c) : MS T m G P' I A1 A2 A3 D nb R M' := by
  obtain ⟨a1, a2, a3, a4, a5, a6, a7, a8, a9⟩ := h
  exact ⟨nt_R_to a1 (o64 1 (by decide)) (fun c q1 q2 => o c (by omega) (by omega)), by rw [o64 7 (by decide)]; exact a2, hP, hJ, fun v hv => by rw [o 77 (by decide) (by decide)]; exact a5 v hv, by rw [o64 39 (by decide)]; exact a6, by rw [o64 40 (by decide)]; exact a7, by rw [o64 41 (by decide)]; exact a8, MR_to a9 (o64 23 (by decide)) (o64 24 (by decide)) (o64 42 (by decide)) (fun c q1 q2 => o c (by omega) (by omega))⟩
theorem fl_empty_o {b c : Nat} {x : Int32} (h : c < 7 ∨ 19 < c) : fl_empty M 7 b x c = M c := by
  unfold fl_empty
  rw [pt_o (by omega), pt_o (by omega), pt_o (by omega), pt_o (by omega), pt_o (by omega), pt_o (by omega), pt_o (by omega)]
theorem fl_app_o {b c l e : Nat} {v k : Int32} (h : e < 7 ∨ 19 < e) : fl_app M 7 b c l v k e = M e := by
  unfold fl_app
  rw [pt_o (by omega), pt_o (by omega)]
  split
  · rw [pt_o (by omega), pt_o (by omega), pt_o (by omega)]
  · rw [pt_o (by omega), pt_o (by omega), pt_o (by omega)]
theorem pr_clear (hg : mc_S2 g) (a0 : Int32) : pI INV (ctL_clear g 2047) (ctR_clear g 2047) [.ref 0, .int a0, .ref 98] [.ref 64, .int a0] := by
  intro n M L hI
  obtain ⟨T, m, G, P, I, A1, A2, A3, D, nb, R, hT, hnb, hj, hC, hM⟩ := hI
  refine cL_clear hg (cA_clear hg.1.1 (by decide) (fun z => ⟨rfl, 1, rfl, ?_⟩) (fun b hb hx r M1 hr e1 => ⟨r, rfl, 0, rfl, ?_⟩))
  · exact cR_clear (by decide) (fun _ M' e => pI_t (by decide) hT hnb hj hC hM e) (fun b hb hx => absurd ⟨b, hb, hx⟩ z)
  · have o1 : ∀ c, c < 7 ∨ 19 < c → M1 c = M c := fun c hc => by rw [e1]; exact fl_empty_o hc
    have hM1 := MS_cl hM (M' := M1) (fun c hc => o1 c (by omega))
    have hC1 := CS_prog hC (prC_clr hC.2.2.1 hb e1) o1
    refine cR_clear (by decide) (fun w => absurd ⟨b, hb, hx⟩ w) (fun b2 hb2 hx2 r2 M2 hr2 e2 => ?_)
    have : b2 = b := (nI_eq (by omega) (by omega)).mp (hx2.symm.trans hx)
    subst this
    have o64 : ∀ i, i ≠ 0 → M2 64 i = M1 64 i := fun i hi => by rw [e2, pt_o (by decide), pt_o (by decide), pt_o (by decide), mc_put_at, if_neg (fun z => hi z.2)]
    have o2 : ∀ c, c ≠ 64 → c ≠ 70 → c ≠ 73 → c ≠ 74 → M2 c = M1 c := fun c h1 h2 h3 h4 => by rw [e2, pt_o h4, pt_o h3, pt_o h2, pt_o h1]
    have e70 : ∀ c, M2 70 c = if c = b2 then 0 else M1 70 c := fun c => by
      rw [e2, pt_o (by decide), pt_o (by decide), mc_put_at, pt_o (by decide)]
      simp
    have e73 : ∀ c, M2 73 c = if c = b2 then 2 else M1 73 c := fun c => by
      rw [e2, pt_o (by decide), mc_put_at, pt_o (by decide), pt_o (by decide)]
      simp
    have e74 : ∀ c, M2 74 c = if c = b2 then -1 else M1 74 c := fun c => by
      rw [e2, mc_put_at, pt_o (by decide), pt_o (by decide), pt_o (by decide)]
      simp
    refine pI_0 ?_ (by rw [e2, pt_o (by decide), pt_o (by decide), pt_o (by decide)]; exact mc_put_64 0) (INV_of hT hnb hj (CS_to hC1 (fun c hc => o2 c (by omega) (by omega) (by omega) (by omega))) (MS_prog hM1 ?_ ?_ o64 (fun c q1 q2 => o2 c q1 (by omega) (by omega) (by omega))))
    · obtain ⟨p1, p2, p3⟩ := hC.2.2.1
      rw [hr2, hr, (hM1.2.2.1 b2 hb).1, (p3 b2 hb).2.1]
    · intro c hc
      by_cases h : c = b2
      · subst h
        refine ⟨by rw [e70, if_pos rfl]; unfold pClr; rw [if_pos rfl]; rfl, by unfold pClr; rw [if_pos rfl]; exact Nat.zero_le _, fun i hi => ?_⟩
        unfold pClr at hi
        rw [if_pos rfl] at hi
        exact absurd hi (Nat.not_lt_zero _)
      · have ep : pClr P b2 c = P c := by unfold pClr; rw [if_neg h]
        obtain ⟨q1, q2, q3⟩ := hM1.2.2.1 c hc
        rw [ep]
        refine ⟨by rw [e70, if_neg h]; exact q1, q2, fun i hi => ?_⟩
        rw [o2 71 (by decide) (by decide) (by decide) (by decide), o2 72 (by decide) (by decide) (by decide) (by decide)]
        exact q3 i hi
    · intro c hc
      by_cases h : c = b2
      · subst h
        have ep : pClr P c c = (nI c, [], 2, (150, fun _ => 0), -1, -1) := by unfold pClr; rw [if_pos rfl]
        rw [ep, e73, e74, if_pos rfl, if_pos rfl]
        exact ⟨rfl, Or.inl ⟨rfl, rfl⟩, rfl, Or.inr (Or.inr ⟨rfl, rfl, rfl⟩)⟩
      · have ep : pClr P b2 c = P c := by unfold pClr; rw [if_neg h]
        rw [ep, e73, e74, if_neg h, if_neg h, o2 75 (by decide) (by decide) (by decide) (by decide), o2 76 (by decide) (by decide) (by decide) (by decide)]
        exact hM1.2.2.2.1 c hc
theorem pr_assign (hg : mc_S2 g) (a0 a1 a2 : Int32) : pI INV (ctL_assign g 2047) (ctR_assign g 2047) [.ref 0, .int a0, .int a1, .int a2, .ref 98] [.ref 64, .int a0, .int a1, .int a2] := by
  intro n M L hI
  obtain ⟨T, m, G, P, I, A1, A2, A3, D, nb, R, hT, hnb, hj, hC, hM⟩ := hI
  have hpc : ∀ M' : mc_M, pgR M' m P → ∀ b, b < 16 → M' 70 b = nI (P b).2.1.length ∧ (P b).2.1.length ≤ 10 := fun M' h b hb => ⟨(h b hb).1, (h b hb).2.1⟩
  refine cL_assign hg (cA_assign hg.1.1 hC.1.1 hT.1 hC.2.2.1 (by decide) (fun z => Or.inl ⟨rfl, 1, rfl, ?_⟩) (fun b hb hx hy hz z => Or.inr ⟨rfl, 2, rfl, ?_⟩) (fun b hb hx hy hz z r M1 hr e1 => ⟨r, rfl, 0, rfl, ?_⟩))
  · exact cR_assign hM.1.1 hT.1 (hpc M hM.2.2.1) (by decide) (fun _ M' e => pI_t (by decide) hT hnb hj hC hM e) (fun b hb hx hy hz _ => absurd ⟨⟨b, hb, hx⟩, hy, hz⟩ z) (fun b hb hx hy hz _ => absurd ⟨⟨b, hb, hx⟩, hy, hz⟩ z)
  · refine cR_assign hM.1.1 hT.1 (hpc M hM.2.2.1) (by decide) (fun w => absurd ⟨⟨b, hb, hx⟩, hy, hz⟩ w) (fun _ _ _ _ _ _ M' e => pI_t (by decide) hT hnb hj hC hM e) (fun b2 hb2 hx2 _ _ w => ?_)
    have : b2 = b := (nI_eq (by omega) (by omega)).mp (hx2.symm.trans hx)
    subst this
    exact absurd w z
  · obtain ⟨v, hv, ev⟩ := hy
    obtain ⟨k, hk, ek⟩ := hz
    subst ev
    subst ek
    have o1 : ∀ c, c < 7 ∨ 19 < c → M1 c = M c := fun c hc => by rw [e1]; exact fl_app_o hc
    have hM1 := MS_cl hM (M' := M1) (fun c hc => o1 c (by omega))
    have hC1 := CS_prog hC (prC_asg hC.2.2.1 hb z hv hk e1) o1
    refine cR_assign hM1.1.1 hT.1 (hpc M1 hM1.2.2.1) (by decide) (fun w => absurd ⟨⟨b, hb, hx⟩, ⟨v, hv, rfl⟩, ⟨k, hk, rfl⟩⟩ w) (fun b2 hb2 hx2 _ _ w => ?_) (fun b2 hb2 hx2 _ _ w r2 M2 hr2 e2 => ?_)
    · have : b2 = b := (nI_eq (by omega) (by omega)).mp (hx2.symm.trans hx)
      subst this
      exact absurd z w
    · have : b2 = b := (nI_eq (by omega) (by omega)).mp (hx2.symm.trans hx)
      subst this
      unfold mc_asgR at e2
      have o64 : ∀ i, i ≠ 0 → M2 64 i = M1 64 i := fun i hi => by rw [e2, pt_o (by decide), pt_o (by decide), pt_o (by decide), mc_put_at, if_neg (fun z => hi z.2)]
      have o2 : ∀ c, c ≠ 64 → c ≠ 70 → c ≠ 71 → c ≠ 72 → M2 c = M1 c := fun c h1 h2 h3 h4 => by rw [e2, pt_o h2, pt_o h4, pt_o h3, pt_o h1]
      have e70 : ∀ c, M2 70 c = if c = b2 then nI ((P b2).2.1.length + 1) else M1 70 c := fun c => by
        rw [e2, mc_put_at, pt_o (by decide), pt_o (by decide), pt_o (by decide)]
        simp
      have e71 : ∀ c, M2 71 c = if c = b2 * 10 + (P b2).2.1.length then nI v else M1 71 c := fun c => by
        rw [e2, pt_o (by decide), pt_o (by decide), mc_put_at, pt_o (by decide)]
        simp
      have e72 : ∀ c, M2 72 c = if c = b2 * 10 + (P b2).2.1.length then nI k else M1 72 c := fun c => by
        rw [e2, pt_o (by decide), mc_put_at, pt_o (by decide), pt_o (by decide)]
        simp
      refine pI_0 (hr2.trans hr.symm) (by rw [e2, pt_o (by decide), pt_o (by decide), pt_o (by decide)]; exact mc_put_64 0) (INV_of hT hnb hj (CS_to hC1 (fun c hc => o2 c (by omega) (by omega) (by omega) (by omega))) (MS_prog hM1 ?_ ?_ o64 (fun c q1 q2 => o2 c q1 (by omega) (by omega) (by omega))))
      · intro c hc
        obtain ⟨q1, q2, q3⟩ := hM1.2.2.1 c hc
        by_cases h : c = b2
        · subst h
          have ep : (pAsg P c v k c).2.1 = (P c).2.1 ++ [(v, k, fun _ => 0)] := by unfold pAsg; rw [if_pos rfl]
          rw [ep]
          refine ⟨by rw [e70, if_pos rfl]; simp, by simp; omega, fun i hi => ?_⟩
          by_cases hil : i = (P c).2.1.length
          · subst hil
            exact ⟨v, k, hv, hk, by simp, by rw [e71, if_pos rfl], by rw [e72, if_pos rfl]⟩
          · have hi2 : i < (P c).2.1.length := by simp at hi; omega
            obtain ⟨v', k', r1, r2, r3, r4, r5⟩ := q3 i hi2
            exact ⟨v', k', r1, r2, by rw [List.getElem?_append_left hi2]; exact r3, by rw [e71, if_neg (by omega)]; exact r4, by rw [e72, if_neg (by omega)]; exact r5⟩
        · have ep : pAsg P b2 v k c = P c := by unfold pAsg; rw [if_neg h]
          rw [ep]
          refine ⟨by rw [e70, if_neg h]; exact q1, q2, fun i hi => ?_⟩
          obtain ⟨v', k', r1, r2, r3, r4, r5⟩ := q3 i hi
          exact ⟨v', k', r1, r2, r3, by rw [e71, if_neg (by omega)]; exact r4, by rw [e72, if_neg (by omega)]; exact r5⟩
      · intro c hc
        have ep : (pAsg P b2 v k c).2.2 = (P c).2.2 := by
          unfold pAsg
          by_cases h : c = b2
          · rw [if_pos h, h]
          · rw [if_neg h]
        rw [ep, o2 73 (by decide) (by decide) (by decide) (by decide), o2 74 (by decide) (by decide) (by decide) (by decide), o2 75 (by decide) (by decide) (by decide) (by decide), o2 76 (by decide) (by decide) (by decide) (by decide)]
        exact hM1.2.2.2.1 c hc
end PR3
