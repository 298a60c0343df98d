/-! Pairs of calls: run, about, count, sign -/
section PR2
variable {g : mc_G} {T : Nat → Nat → Int32} {m : Nat} {G : Int32} {P : Nat → Blk} {I : Nat → Int32} {A1 A2 A3 D : Int32} {nb : Nat} {R : Nat → Blk} {M M' : mc_M} {L : mc_L}
theorem CS_to2 (h : CS T m G P I A1 A2 A3 D nb R M) (hM : ∀ c, c ≤ 20 ∨ c = 23 ∨ c = 35 ∨ c = 36 ∨ (38 ≤ c ∧ c ≤ 63) → M' c = M c) : CS T m G P I A1 A2 A3 D nb R M' := by
  obtain ⟨a1, a2, a3, a4, a5, a6, a7, a8⟩ := h
  exact ⟨nt_C_to a1 (fun c _ q => hM c (by omega)), by rw [hM 1 (by decide)]; exact a2, prC_to a3 (fun c _ q => hM c (by omega)), fun v hv => by rw [hM 20 (by decide)]; exact a4 v hv, by rw [hM 23 (by decide)]; exact a5, by rw [hM 23 (by decide)]; exact a6, by rw [hM 23 (by decide)]; exact a7, CR_to a8 (hM 0 (by decide)) (hM 35 (by decide)) (hM 36 (by decide)) (fun c _ q => hM c (by omega))⟩
/-- a run on both sides -/
theorem CS_tr {r : Bool × Int32 × Nat × Nat} (h : CS T m G P I A1 A2 A3 D nb R M) (e : tr_end M r M') : CS T m G P I r.2.1 (nI r.2.2.1) (nI r.2.2.2) D nb R M' := by
  obtain ⟨a1, a2, a3, a4, a5, a6, a7, a8⟩ := h
  obtain ⟨o, e1, e2, e3⟩ := e
  exact ⟨nt_C_to a1 (fun c _ q => o c (by omega) (by omega)), by rw [o 1 (by decide) (by decide)]; exact a2, prC_to a3 (fun c _ q => o c (by omega) (by omega)), fun v hv => by rw [o 20 (by decide) (by decide)]; exact a4 v hv, e1, e2, e3, CR_to a8 (o 0 (by decide) (by decide)) (o 35 (by decide) (by decide)) (o 36 (by decide) (by decide)) (fun c q _ => o c (by omega) (by omega))⟩
theorem MS_tr {r : Bool × Int32 × Nat × Nat} (h : MS T m G P I A1 A2 A3 D nb R M) (e : trR M r M') : MS T m G P I r.2.1 (nI r.2.2.1) (nI r.2.2.2) D nb R M' := by
  obtain ⟨a1, a2, a3, a4, a5, a6, a7, a8, a9⟩ := h
  obtain ⟨o, e1, e2, e3, -, o64⟩ := e
  exact ⟨nt_R_to a1 (o64 1 (by decide) (by decide) (by decide) (by decide)) (fun c _ q => o c (by omega) (by omega) (by omega)), by rw [o64 7 (by decide) (by decide) (by decide) (by decide)]; exact a2, pgR_to a3 (fun c _ q => o c (by omega) (by omega) (by omega)), pjR_to a4 (fun c _ q => o c (by omega) (by omega) (by omega)), fun v hv => by rw [o 77 (by decide) (by decide) (by decide)]; exact a5 v hv, e1, e2, e3, MR_to a9 (o64 23 (by decide) (by decide) (by decide) (by decide)) (o64 24 (by decide) (by decide) (by decide) (by decide)) (o64 42 (by decide) (by decide) (by decide) (by decide)) (fun c q _ => o c (by omega) (by omega) (by omega))⟩
theorem pB_0 {r r2 : Bool} (hr : r2 = r) (h0 : M' 64 0 = 0) (hI : INV M') : ∃ r', some (Value.int (bI r2)) = some (.int r') ∧ (r' = 0 ∨ r' = 1) ∧ M' 64 0 = 0 ∧ ((0 : Int32) = 0 → mc_putL L 98 0 (bI r).toInt64 98 0 = r'.toInt64) ∧ INV M' := by
  subst hr
  exact ⟨bI r2, rfl, bI_01 r2, h0, fun _ => putL_at L _, hI⟩
theorem pr_run (hg : mc_S2 g) (a0 : Int32) : pB INV (ctL_run g 2047) (ctR_run g 2047) [.ref 0, .int a0, .ref 98] [.ref 64, .int a0] := by
  intro n M L hI
  obtain ⟨T, m, G, P, I, A1, A2, A3, D, nb, R, hT, hnb, hj, hC, hM⟩ := hI
  obtain ⟨c1, c2, c3, c4, c5, c6, c7, c8⟩ := id hC
  refine cL_run hg (cA_run hg.1.1 hT c1 (prC_prg hT.1 c3) (pjR_tg hM.2.2.2.1) (by decide) (fun z => ⟨rfl, 1, rfl, ?_⟩) (fun l hl hx M1 e1 => ⟨_, rfl, bI_01 _, 0, rfl, ?_⟩))
  · obtain ⟨m1, m2, m3, m4, m5, m6, m7, m8, m9⟩ := id hM
    exact cR_run hT m1 m3 m4 (fun _ _ => rfl) (by decide) (fun _ M' e => pB_t (by decide) hT hnb hj hC hM e) (fun l hl hx => absurd ⟨by rw [hx]; exact nI_pos' (by omega), by rw [hx]; exact nI_le (b := 5000) hl (by decide)⟩ z)
  · have hM1 := MS_cl hM (M' := M1) (fun c hc => e1.1 c (by omega) (by omega))
    obtain ⟨m1, m2, m3, m4, m5, m6, m7, m8, m9⟩ := id hM1
    refine cR_run hT m1 m3 m4 (e := M 20) (fun v hv => by rw [m5 v hv, c4 v hv]) (by decide) (fun w => absurd ⟨by rw [hx]; exact nI_pos' (by omega), by rw [hx]; exact nI_le (b := 5000) hl (by decide)⟩ w) (fun l2 hl2 hx2 M2 e2 => ?_)
    have : l2 = l := (nI_eq (by omega) (by omega)).mp (hx2.symm.trans hx)
    subst this
    exact pB_0 rfl e2.2.2.2.2.1 (INV_of hT hnb hj (CS_to (CS_tr hC e1) (fun c hc => e2.1 c (by omega) (by omega) (by omega))) (MS_tr hM1 e2))
theorem pr_about (hg : mc_S2 g) (a0 a1 : Int32) : pI INV (ctL_about g 2047) (ctR_about g 2047) [.ref 0, .int a0, .int a1, .ref 98] [.ref 64, .int a0, .int a1] := by
  intro n M L hI
  obtain ⟨T, m, G, P, I, A1, A2, A3, D, nb, R, hT, hnb, hj, hC, hM⟩ := hI
  obtain ⟨f, fs, Sc, SS, J, a1', a2, a3, a4, a5, a6, a7, a8, a9, a10, a11⟩ := hC.2.2.2.2.2.2.2
  obtain ⟨b1, b2, ⟨pb, PS, b3, b4⟩, b5, b6⟩ := hM.2.2.2.2.2.2.2.2
  refine cL_about hg (cA_about hg.1.1 a1' a4 a6 hnb a9 (by decide) (fun z => Or.inl ⟨rfl, 1, rfl, ?_⟩) (fun b hb hx z => Or.inr ⟨rfl, 2, rfl, ?_⟩) (fun b hb hx z1 z2 r hr => ⟨r, rfl, 0, rfl, ?_⟩))
  · exact cR_about (D := D) b1 hnb b4.1 (by decide) (fun _ M' e => pI_t (by decide) hT hnb hj hC hM e) (fun b hb hx _ => absurd ⟨b, hb, hx⟩ z) (fun b hb hx => absurd ⟨b, hb, hx⟩ z)
  · exact cR_about (D := D) b1 hnb b4.1 (by decide) (fun w => absurd ⟨b, hb, hx⟩ w) (fun _ _ _ _ M' e => pI_t (by decide) hT hnb hj hC hM e) (fun _ _ _ w1 w2 => absurd ⟨w1, w2⟩ z)
  · refine cR_about (D := D) b1 hnb b4.1 (by decide) (fun w => absurd ⟨b, hb, hx⟩ w) (fun _ _ _ w => absurd ⟨z1, z2⟩ w) (fun b' hb' hx' _ _ r2 M2 hr2 e => pI_0 ?_ (by rw [e]; exact mc_put_64 0) (by rw [e]; exact INV_put hT hnb hj hC hM 0))
    have : b' = b := (nI_eq (by omega) (by omega)).mp (hx'.symm.trans hx)
    subst this
    rw [hr2, hr]
theorem tx_S {Sc : Int32} (h : 0 < nb → Sc = SD D) : sp_tx T Sc nb R = sp_tx T (SD D) nb R := by
  rcases Nat.eq_zero_or_pos nb with rfl | q
  · rfl
  · rw [h q]
theorem CS_text (h : CS T m G P I A1 A2 A3 D nb R M) (o : ∀ c, c ≠ 35 → c ≠ 36 → c ≠ 37 → M' c = M c) (h3 : M' 35 3 = 0) (ht : txt M' (sp_tx T (SD D) nb R)) : CS T m G P I A1 A2 A3 D nb R M' := by
  obtain ⟨a1, a2, a3, a4, a5, a6, a7, ⟨f, fs, Sc, SS, J, q1, q2, q3, q4, q5, q6, q7, q8, q9, q10, q11⟩⟩ := h
  have hfr : ∀ i, i ≤ 12 → M' (f + i) = M (f + i) := fun i hi => o _ (by rcases q1 with rfl | rfl <;> omega) (by rcases q1 with rfl | rfl <;> omega) (by rcases q1 with rfl | rfl <;> omega)
  have e0 : M' f = M f := hfr 0 (by omega)
  have ez : M' 0 = M 0 := o 0 (by decide) (by decide) (by decide)
  refine ⟨nt_C_to a1 (fun c _ q => o c (by omega) (by omega) (by omega)), by rw [o 1 (by decide) (by decide) (by decide)]; exact a2, prC_to a3 (fun c _ q => o c (by omega) (by omega) (by omega)), fun v hv => by rw [o 20 (by decide) (by decide) (by decide)]; exact a4 v hv, by rw [o 23 (by decide) (by decide) (by decide)]; exact a5, by rw [o 23 (by decide) (by decide) (by decide)]; exact a6, by rw [o 23 (by decide) (by decide) (by decide)]; exact a7, f, fs, Sc, SS, J, q1, q2, q3, by rw [ez]; exact q4, by rw [ez]; exact q5, by rw [e0]; exact q6, by rw [e0]; exact q7, q8, crs_to q9 (fun i _ h2 => hfr i h2), Or.inl h3, fun _ => by rw [tx_S q8]; exact ht⟩
theorem pr_sign (hg : mc_S2 g) (a0 : Int32) : pI INV (ctL_sign g 2047) (ctR_sign g 2047) [.ref 0, .int a0, .ref 98] [.ref 64, .int a0] := by
  intro n M L hI
  obtain ⟨T, m, G, P, I, A1, A2, A3, D, nb, R, hT, hnb, hj, hC, hM⟩ := hI
  obtain ⟨f, fs, Sc, SS, J, a1', a2, a3, a4, a5, a6, a7, a8, a9, a10, a11⟩ := hC.2.2.2.2.2.2.2
  obtain ⟨b1, b2, ⟨pb, PS, b3, b4⟩, b5, b6, b7⟩ := hM.2.2.2.2.2.2.2.2
  have e := tx_S (T := T) (R := R) a8
  have hlen := sp_tx_len (S := SD D) hT hnb (mrs_len b4)
  refine cL_sign hg (cA_sign hg.1.1 (pp_ok hg.1) a1' a4 hT hC.1 a7 a6 hnb a9 (jm_tgs hj) a10 a11 (by decide) (fun z M1 o h3 ht => ⟨rfl, 1, rfl, ?_⟩) (fun i hi hi3 hx r hr M1 o h3 ht => ⟨r, rfl, 0, rfl, ?_⟩))
  · rw [e] at z ht
    have hC1 := CS_text hC o h3 ht
    have hM1 := MS_cl hM (M' := M1) (fun c hc => o c (by omega) (by omega) (by omega))
    exact cR_sign hM1.2.2.2.2.2.2.2.2.2.2.2.2.1 (by omega) (by decide) (fun _ M' e => pI_t (by decide) hT hnb hj hC1 hM1 e) (fun i hi hi3 hx => absurd ⟨i, hi, hi3, hx⟩ z)
  · rw [e] at hi hr ht
    have hC1 := CS_text hC o h3 ht
    have hM1 := MS_cl hM (M' := M1) (fun c hc => o c (by omega) (by omega) (by omega))
    refine cR_sign hM1.2.2.2.2.2.2.2.2.2.2.2.2.1 (by omega) (by decide) (fun w => absurd ⟨i, hi, hi3, hx⟩ w) (fun i2 hi2 hi32 hx2 r2 M2 hr2 e2 => pI_0 ?_ (by rw [e2]; exact mc_put_64 0) (by rw [e2]; exact INV_put hT hnb hj hC1 hM1 0))
    have : i2 = i := (nI_eq (by omega) (by omega)).mp (hx2.symm.trans hx)
    subst this
    rw [hr2]
    exact hM1.2.2.2.2.2.2.2.2.2.2.2.2.2 i2 hi3 r hr
theorem pr_count (hg : mc_S2 g) (a0 : Int32) : pI INV (ctL_count g 2047) (ctR_count g 2047) [.ref 0, .int a0, .ref 98] [.ref 64, .int a0] := by
  intro n M L hI
  obtain ⟨T, m, G, P, I, A1, A2, A3, D, nb, R, hT, hnb, hj, hC, hM⟩ := hI
  obtain ⟨f, fs, Sc, SS, J, a1', a2, a3, a4, a5, a6, a7, a8, a9, a10, a11⟩ := hC.2.2.2.2.2.2.2
  have e := tx_S (T := T) (R := R) a8
  refine cL_count hg (cA_count hg.1.1 (pp_ok hg.1) a1' a4 hT hC.1 a7 a6 hnb a9 (jm_tgs hj) a10 a11 (by decide) (fun z => ⟨rfl, 1, rfl, ?_⟩) (fun z1 z2 z3 r hr => ⟨r, rfl, 0, rfl, ?_⟩) (fun z r M1 hr o h3 ht => ⟨r, rfl, 0, rfl, ?_⟩))
  · exact cR_count (by decide) (fun _ M' e => pI_t (by decide) hT hnb hj hC hM e) (fun w1 w2 => absurd ⟨w1, w2⟩ z)
  · refine cR_count (by decide) (fun w => absurd ⟨z1, z2⟩ w) (fun _ _ r2 M2 hr2 e2 => pI_0 ?_ (by rw [e2]; exact mc_put_64 0) (by rw [e2]; exact INV_put hT hnb hj hC hM 0))
    rw [hr2, hr, if_neg z3, hM.1.1, hM.2.2.2.2.2.2.2.2.1, hM.2.1, hC.2.1]
  · rw [e] at hr ht
    have hC1 := CS_text hC o h3 ht
    have hM1 := MS_cl hM (M' := M1) (fun c hc => o c (by omega) (by omega) (by omega))
    refine cR_count (by decide) (fun w => absurd ⟨by rw [z]; decide, by rw [z]; decide⟩ w) (fun _ _ r2 M2 hr2 e2 => pI_0 ?_ (by rw [e2]; exact mc_put_64 0) (by rw [e2]; exact INV_put hT hnb hj hC1 hM1 0))
    rw [hr2, hr, z, if_neg (by decide), if_neg (by decide), if_pos rfl]
    exact hM1.2.2.2.2.2.2.2.2.2.2.2.2.1
end PR2
