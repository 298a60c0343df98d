/-! Pairs of calls: the simple ones -/
theorem pt_o {M : mc_M} {a k c : Nat} {x : Int32} (h : c ≠ a) : mc_put M a k x c = M c := by
  funext j
  rw [mc_put_at, if_neg (fun z => h z.1)]
section PR
variable {g : mc_G} {T : Nat → Nat → Int32} {m : Nat} {G : Int32} {P : Nat → Blk} {I : Nat → Int32} {A1 A2 A3 D : Int32} {nb : Nat} {R : Nat → Blk} {M M' : mc_M} {L : mc_L}
theorem pI_t {k : Int32} (hk : k ≠ 0) (hT : nt_ok T m) (hnb : nb ≤ 100) (hj : ∀ b, b < nb → jm_ok (R b).2.2 nb) (hC : CS T m G P I A1 A2 A3 D nb R M) (hM : MS T m G P I A1 A2 A3 D nb R M) (e : M' = mc_put M 64 0 k) : ∃ r, some (Value.int 0) = some (.int r) ∧ M' 64 0 = k ∧ (k = 0 → L 98 0 = r.toInt64) ∧ INV M' := by
  subst e
  exact ⟨0, rfl, mc_put_64 k, fun w => absurd w hk, INV_put hT hnb hj hC hM k⟩
theorem pB_t {k : Int32} (hk : k ≠ 0) (hT : nt_ok T m) (hnb : nb ≤ 100) (hj : ∀ b, b < nb → jm_ok (R b).2.2 nb) (hC : CS T m G P I A1 A2 A3 D nb R M) (hM : MS T m G P I A1 A2 A3 D nb R M) (e : M' = mc_put M 64 0 k) : ∃ r, some (Value.int 0) = some (.int r) ∧ (r = 0 ∨ r = 1) ∧ M' 64 0 = k ∧ (k = 0 → L 98 0 = r.toInt64) ∧ INV M' := by
  subst e
  exact ⟨0, rfl, Or.inl rfl, mc_put_64 k, fun w => absurd w hk, INV_put hT hnb hj hC hM k⟩
theorem pI_0 {r r2 : Int32} (hr : r2 = r) (h0 : M' 64 0 = 0) (hI : INV M') : ∃ r', some (Value.int r2) = some (.int r') ∧ M' 64 0 = 0 ∧ ((0 : Int32) = 0 → mc_putL L 98 0 r.toInt64 98 0 = r'.toInt64) ∧ INV M' := by
  subst hr
  exact ⟨r2, rfl, h0, fun _ => putL_at L _, hI⟩
theorem pr_result (hg : mc_S2 g) (a0 : Int32) : pI INV (ctL_result g 2047) (ctR_result g 2047) [.ref 0, .int a0, .ref 98] [.ref 64, .int a0] := by
  intro n M L hI
  obtain ⟨T, m, G, P, I, A1, A2, A3, D, nb, R, hT, hnb, hj, hC, hM⟩ := hI
  obtain ⟨c1, c2, c3, c4, c5, c6, c7, c8⟩ := id hC
  obtain ⟨m1, m2, m3, m4, m5, m6, m7, m8, m9⟩ := id hM
  refine cL_result hg (cA_result hg.1.1 (by decide) (fun z => ⟨rfl, 1, rfl, ?_⟩) (fun z1 z2 r hr => ⟨r, rfl, 0, rfl, ?_⟩))
  · exact cR_result (by decide) (fun _ M' e => pI_t (by decide) hT hnb hj hC hM e) (fun w1 w2 => absurd ⟨w1, w2⟩ z)
  · refine cR_result (by decide) (fun w => absurd ⟨z1, z2⟩ w) (fun _ _ r2 M' hr2 e => pI_0 ?_ (by rw [e]; exact mc_put_64 0) (by rw [e]; exact INV_put hT hnb hj hC hM 0))
    rw [hr2, hr, c5, c6, c7, m6, m7, m8]
theorem pr_divide (hg : mc_S2 g) (a0 : Int32) : pI INV (ctL_divide g 2047) (ctR_divide g 2047) [.ref 0, .int a0, .ref 98] [.ref 64, .int a0] := by
  intro n M L hI
  obtain ⟨T, m, G, P, I, A1, A2, A3, D, nb, R, hT, hnb, hj, hC, hM⟩ := hI
  obtain ⟨c1, c2, c3, c4, c5, c6, c7, c8⟩ := id hC
  obtain ⟨m1, m2, m3, m4, m5, m6, m7, m8, m9⟩ := id hM
  refine cL_divide hg (cA_divide hg.1.1 hT c1 (prC_prg hT.1 c3) (by decide) (fun z => ⟨rfl, 1, rfl, ?_⟩) (fun z1 z2 r hr => ⟨r, rfl, 0, rfl, ?_⟩))
  · exact cR_divide hT.1 m1 m3 (by decide) (fun _ M' e => pI_t (by decide) hT hnb hj hC hM e) (fun w1 w2 => absurd ⟨w1, w2⟩ z)
  · exact cR_divide hT.1 m1 m3 (by decide) (fun w => absurd ⟨z1, z2⟩ w) (fun _ _ r2 M' hr2 e => pI_0 (hr2.trans hr.symm) (by rw [e]; exact mc_put_64 0) (by rw [e]; exact INV_put hT hnb hj hC hM 0))
theorem pr_input (hg : mc_S2 g) (a0 a1 : Int32) : pI INV (ctL_input g 2047) (ctR_input g 2047) [.ref 0, .int a0, .int a1, .ref 98] [.ref 64, .int a0, .int a1] := by
  intro n M L hI
  obtain ⟨T, m, G, P, I, A1, A2, A3, D, nb, R, hT, hnb, hj, hC, hM⟩ := hI
  obtain ⟨c1, c2, c3, c4, c5, c6, c7, c8⟩ := id hC
  refine cL_input hg (cA_input hg.1.1 (by decide) (fun z => ⟨rfl, 1, rfl, ?_⟩) (fun b hb hx r M1 hr e1 => ⟨r, rfl, 0, rfl, ?_⟩))
  · exact cR_input (by decide) (fun _ M' e => pI_t (by decide) hT hnb hj hC hM e) (fun b hb hx => absurd ⟨b, hb, hx⟩ z)
  · have o1 : ∀ c, c ≠ 20 → M1 c = M c := fun c hc => by rw [e1]; exact pt_o hc
    have hM1 := MS_cl hM (M' := M1) (fun c hc => o1 c (by omega))
    obtain ⟨m1, m2, m3, m4, m5, m6, m7, m8, m9⟩ := id hM1
    refine cR_input (by decide) (fun w => absurd ⟨b, hb, hx⟩ w) (fun b2 hb2 hx2 r2 M2 hr2 e => pI_0 ?_ ?_ ?_)
    · have : b2 = b := (nI_eq (by omega) (by omega)).mp (hx2.symm.trans hx)
      subst this
      rw [hr2, hr, m5 b2 hb, c4 b2 hb]
    · rw [e, pt_o (by decide)]
      exact mc_put_64 0
    · have hbb : b2 = b := (nI_eq (by omega) (by omega)).mp (hx2.symm.trans hx)
      subst hbb
      have o2 : ∀ c, c ≠ 64 → c ≠ 77 → M2 c = M1 c := fun c h1 h2 => by rw [e, pt_o h2, pt_o h1]
      have o64 : ∀ i, i ≠ 0 → M2 64 i = M1 64 i := fun i hi => by rw [e, pt_o (by decide), mc_put_at, if_neg (fun z => hi z.2)]
      refine INV_of (G := G) (P := P) (I := fun v => if v = b2 then a1 else I v) (A1 := A1) (A2 := A2) (A3 := A3) (D := D) hT hnb hj (CS_to (M := M1) ?_ (fun c hc => o2 c (by omega) (by omega))) ?_
      · refine ⟨nt_C_to c1 (fun c _ q => o1 c (by omega)), by rw [o1 1 (by decide)]; exact c2, prC_to c3 (fun c _ q => o1 c (by omega)), fun v hv => ?_, by rw [o1 23 (by decide)]; exact c5, by rw [o1 23 (by decide)]; exact c6, by rw [o1 23 (by decide)]; exact c7, CR_to c8 (o1 0 (by decide)) (o1 35 (by decide)) (o1 36 (by decide)) (fun c q _ => o1 c (by omega))⟩
        show M1 20 v = if v = b2 then a1 else I v
        rw [e1, mc_put_at]
        by_cases hv2 : v = b2
        · rw [if_pos ⟨rfl, hv2⟩, if_pos hv2]
        · rw [if_neg (fun z => hv2 z.2), if_neg hv2]
          exact c4 v hv
      · refine ⟨nt_R_to m1 (o64 1 (by decide)) (fun c q1 q2 => o2 c (by omega) (by omega)), by rw [o64 7 (by decide)]; exact m2, pgR_to m3 (fun c q1 q2 => o2 c (by omega) (by omega)), pjR_to m4 (fun c q1 q2 => o2 c (by omega) (by omega)), fun v hv => ?_, by rw [o64 39 (by decide)]; exact m6, by rw [o64 40 (by decide)]; exact m7, by rw [o64 41 (by decide)]; exact m8, MR_to m9 (o64 23 (by decide)) (o64 24 (by decide)) (o64 42 (by decide)) (fun c q1 q2 => o2 c (by omega) (by omega))⟩
        show M2 77 v = if v = b2 then a1 else I v
        rw [e, mc_put_at]
        by_cases hv2 : v = b2
        · rw [if_pos ⟨rfl, hv2⟩, if_pos hv2]
        · rw [if_neg (fun z => hv2 z.2), if_neg hv2, pt_o (by decide)]
          exact m5 v hv
theorem pr_live (hg : mc_S2 g) (a0 : Int32) : pI INV (ctL_live g 2047) (ctR_live g 2047) [.ref 0, .int a0, .ref 98] [.ref 64, .int a0] := by
  intro n M L hI
  obtain ⟨T, m, G, P, I, A1, A2, A3, D, nb, R, hT, hnb, hj, hC, hM⟩ := hI
  obtain ⟨c1, c2, c3, c4, c5, c6, c7, c8⟩ := id hC
  refine cL_live hg (cA_live hg.1.1 hT c1 (prC_prg hT.1 c3) (pjR_pt hM.2.2.2.1) (by decide) (fun z => ⟨rfl, 1, rfl, ?_⟩) (fun b hb hx r M1 hr e1 => ⟨r, rfl, 0, rfl, ?_⟩))
  · obtain ⟨m1, m2, m3, m4, m5, m6, m7, m8, m9⟩ := id hM
    exact cR_live hT m1 m3 m4 (by decide) (fun _ M' e => pI_t (by decide) hT hnb hj hC hM e) (fun b hb hx => absurd ⟨b, hb, hx⟩ z)
  · have o1 : ∀ c, c ≠ 22 → M1 c = M c := e1.1
    have hM1 := MS_cl hM (M' := M1) (fun c hc => o1 c (by omega))
    obtain ⟨m1, m2, m3, m4, m5, m6, m7, m8, m9⟩ := id hM1
    refine cR_live hT m1 m3 m4 (by decide) (fun w => absurd ⟨b, hb, hx⟩ w) (fun b2 hb2 hx2 r2 M2 hr2 e => pI_0 ?_ ?_ ?_)
    · have : b2 = b := (nI_eq (by omega) (by omega)).mp (hx2.symm.trans hx)
      subst this
      rw [hr2, hr]
    · rw [e.1 64 (by decide)]
      exact mc_put_64 0
    · have hC1 : CS T m G P I A1 A2 A3 D nb R M1 := ⟨nt_C_to c1 (fun c _ q => o1 c (by omega)), by rw [o1 1 (by decide)]; exact c2, prC_to c3 (fun c _ q => o1 c (by omega)), fun v hv => by rw [o1 20 (by decide)]; exact c4 v hv, by rw [o1 23 (by decide)]; exact c5, by rw [o1 23 (by decide)]; exact c6, by rw [o1 23 (by decide)]; exact c7, CR_to c8 (o1 0 (by decide)) (o1 35 (by decide)) (o1 36 (by decide)) (fun c q _ => o1 c (by omega))⟩
      refine INV_of hT hnb hj (CS_to (CS_put hC1 0) (fun c hc => e.1 c (by omega))) ?_
      obtain ⟨q1, q2, q3, q4, q5, q6, q7, q8, q9⟩ := MS_put hM1 0
      have o2 : ∀ c, c ≠ 82 → M2 c = mc_put M1 64 0 0 c := e.1
      exact ⟨nt_R_to q1 (by rw [o2 64 (by decide)]) (fun c _ q => o2 c (by omega)), by rw [o2 64 (by decide)]; exact q2, pgR_to q3 (fun c _ q => o2 c (by omega)), pjR_to q4 (fun c _ q => o2 c (by omega)), fun v hv => by rw [o2 77 (by decide)]; exact q5 v hv, by rw [o2 64 (by decide)]; exact q6, by rw [o2 64 (by decide)]; exact q7, by rw [o2 64 (by decide)]; exact q8, MR_to q9 (by rw [o2 64 (by decide)]) (by rw [o2 64 (by decide)]) (by rw [o2 64 (by decide)]) (fun c q _ => o2 c (by omega))⟩
theorem bI_01 (b : Bool) : bI b = 0 ∨ bI b = 1 := by cases b <;> simp [bI]
end PR
