/-! Pairs of calls: follow, compress, mix; the start -/
section PR5
variable {g : mc_G} {T : Nat → Nat → Int32} {m : Nat} {G : Int32} {P : Nat → Blk} {I : Nat → Int32} {A1 A2 A3 D : Int32} {nb : Nat} {R : Nat → Blk} {M M' : mc_M} {L : mc_L}
theorem pr_follow (hg : mc_S2 g) (a0 : Int32) : pB INV (ctL_follow g 2047) (ctR_follow g 2047) [.ref 0, .int a0, .ref 98] [.ref 64, .int a0] := by
  intro n M L hI
  obtain ⟨T, m, G, P, I, A1, A2, A3, D, nb, R, hT, hnb, hj, hC, hM⟩ := hI
  obtain ⟨c1, c2, c3, c4, c5, c6, c7, c8⟩ := id hC
  obtain ⟨f, fs, Sc, SS, J, q1, q2, q3, q4, q5, q6, q7, q8, q9, q10, q11⟩ := c8
  refine cL_follow hg (cA_follow hg.1.1 hT c1 q1 q4 q7 q6 hnb q9 (jm_tgs hj) (by decide) (fun z => Or.inl ⟨rfl, 1, rfl, ?_⟩) (fun z1 z2 z3 => Or.inr ⟨rfl, 2, rfl, ?_⟩) (fun l hl hx hpos M1 e1 => ⟨_, rfl, bI_01 _, 0, rfl, ?_⟩))
  · obtain ⟨b1, b2, ⟨pb, PS, b3, b4⟩, b5, b6⟩ := hM.2.2.2.2.2.2.2.2
    exact cR_follow hT hM.1 b2 b1 hnb b3 b4.1 hj (e := I) hM.2.2.2.2.1 (by decide) (fun _ M' e => pB_t (by decide) hT hnb hj hC hM e) (fun w1 w2 => absurd ⟨w1, w2⟩ z) (fun l hl hx => absurd ⟨by rw [hx]; exact nI_pos' (by omega), by rw [hx]; exact nI_le (b := 5000) hl (by decide)⟩ z)
  · obtain ⟨b1, b2, ⟨pb, PS, b3, b4⟩, b5, b6⟩ := hM.2.2.2.2.2.2.2.2
    exact cR_follow hT hM.1 b2 b1 hnb b3 b4.1 hj (e := I) hM.2.2.2.2.1 (by decide) (fun w => absurd ⟨z1, z2⟩ w) (fun _ _ _ M' e => pB_t (by decide) hT hnb hj hC hM e) (fun l hl hx w => absurd z3 (by omega))
  · have hM1 := MS_cl hM (M' := M1) (fun c hc => e1.1 c (by omega) (by omega))
    obtain ⟨b1, b2, ⟨pb, PS, b3, b4⟩, b5, b6⟩ := hM1.2.2.2.2.2.2.2.2
    rw [q8 hpos] at e1 ⊢
    refine cR_follow hT hM1.1 b2 b1 hnb b3 b4.1 hj (e := M 20) (fun v hv => by rw [hM1.2.2.2.2.1 v hv, c4 v hv]) (by decide) (fun w => absurd ⟨by rw [hx]; exact nI_pos' (by omega), by rw [hx]; exact nI_le (b := 5000) hl (by decide)⟩ w) (fun _ _ w => absurd w (by omega)) (fun l2 hl2 hx2 _ M2 e2 => ?_)
    have : l2 = l := (nI_eq (by omega) (by omega)).mp (hx2.symm.trans hx)
    subst this
    exact pB_0 rfl e2.2.2.2.2.1 (INV_of hT hnb hj (CS_to (CS_tr hC e1) (fun c hc => e2.1 c (by omega) (by omega) (by omega))) (MS_tr hM1 e2))
/-- the model has a new residual program -/
theorem MS_mxf {D' : Int32} {nb' : Nat} {R' : Nat → Blk} (h : MS T m G P I A1 A2 A3 D nb R M) (e : mxf M M') (hR : MR T m D' nb' R' M') : MS T m G P I A1 A2 A3 D' nb' R' M' := by
  obtain ⟨a1, a2, a3, a4, a5, a6, a7, a8, a9⟩ := h
  obtain ⟨o, -, o64⟩ := e
  exact ⟨nt_R_to a1 (o64 1 (by decide)) (fun c q1 q2 => o c (by omega) (by omega)), by rw [o64 7 (by decide)]; exact a2, pgR_to a3 (fun c q1 q2 => o c (by omega) (by omega)), pjR_to a4 (fun c q1 q2 => o c (by omega) (by omega)), fun v hv => by rw [o 77 (by decide) (by decide)]; exact a5 v hv, by rw [o64 39 (by decide)]; exact a6, by rw [o64 40 (by decide)]; exact a7, by rw [o64 41 (by decide)]; exact a8, hR⟩
theorem pr_compress (hg : mc_S2 g) : pI INV (ctL_compress g 2047) (ctR_compress g 2047) [.ref 0, .ref 98] [.ref 64] := by
  intro n M L hI
  obtain ⟨T, m, G, P, I, A1, A2, A3, D, nb, R, hT, hnb, hj, hC, hM⟩ := hI
  obtain ⟨c1, c2, c3, c4, c5, c6, c7, c8⟩ := id hC
  obtain ⟨f, fs, Sc, SS, J, q1, q2, q3, q4, q5, q6, q7, q8, q9, q10, q11⟩ := c8
  refine cL_compress hg (cA_compress hg.1.1 q1 q4 q6 hnb q9 (jm_tgs hj) (by decide) (fun z => ⟨rfl, 1, rfl, ?_⟩) (fun hpos M1 SS' J' o h35 o35 e0 e1 hle hcr htg r hr => ⟨r, rfl, 0, rfl, ?_⟩))
  · obtain ⟨b1, b2, ⟨pb, PS, b3, b4⟩, b5, b6⟩ := hM.2.2.2.2.2.2.2.2
    exact cR_compress hT hM.1 b2 b1 hnb b4 b5 hj (by decide) (fun _ M' e => pI_t (by decide) hT hnb hj hC hM e) (fun w => absurd z (by omega))
  · have hf38 : 38 ≤ f ∧ f + 12 ≤ 63 := by rcases q1 with rfl | rfl <;> decide
    have o1 : ∀ c, c < 32 ∨ 63 < c ∨ c = 36 → M1 c = M c := fun c hc => o c (by omega) (by omega) (by omega) (by omega) (by omega)
    have hM1 := MS_cl hM (M' := M1) (fun c hc => o1 c (by omega))
    have hC1 : CS T m G P I A1 A2 A3 D (sp_comp nb R).1 (sp_comp nb R).2 M1 := ⟨nt_C_to c1 (fun c _ q => o1 c (by omega)), by rw [o1 1 (by decide)]; exact c2, prC_to c3 (fun c _ q => o1 c (by omega)), fun v hv => by rw [o1 20 (by decide)]; exact c4 v hv, by rw [o1 23 (by decide)]; exact c5, by rw [o1 23 (by decide)]; exact c6, by rw [o1 23 (by decide)]; exact c7, f, fs, Sc, SS', J', q1, q2, q3, by rw [o1 0 (by decide)]; exact q4, by rw [o1 0 (by decide)]; exact q5, e0, by rw [e1]; exact q7, fun _ => q8 hpos, hcr, Or.inr h35, fun z => absurd (h35.symm.trans z) (by decide)⟩
    obtain ⟨b1, b2, ⟨pb, PS, b3, b4⟩, b5, b6⟩ := hM1.2.2.2.2.2.2.2.2
    refine cR_compress hT hM1.1 b2 b1 hnb b4 b5 hj (by decide) (fun w => absurd w (by omega)) (fun _ M2 PS2 e2 d1 d2 d3 d4 d5 d6 d7 r2 hr2 => ?_)
    exact pI_0 (hr2.trans hr.symm) e2.2.1 (INV_of hT (Nat.le_trans hle hnb) d7 (CS_to hC1 (fun c hc => e2.1 c (by omega) (by omega))) (MS_mxf hM1 e2 ⟨d1, d2, ⟨pb, PS2, b3, d4⟩, d5, d6⟩))
theorem pr_mix (hg : mc_S2 g) (a0 : Int32) : pI INV (ctL_mix g 2047) (ctR_mix g 2047) [.ref 0, .int a0, .ref 98] [.ref 64, .int a0] := by
  intro n M L hI
  obtain ⟨T, m, G, P, I, A1, A2, A3, D, nb, R, hT, hnb, hj, hC, hM⟩ := hI
  obtain ⟨c1, c2, c3, c4, c5, c6, c7, c8⟩ := id hC
  obtain ⟨f, fs, Sc, SS, J, q1, q2, q3, q4, q5, q6, q7, q8, q9, q10, q11⟩ := id c8
  have hP10 : ∀ b, b < 16 → (P b).2.1.length ≤ 10 := fun b hb => (hM.2.2.1 b hb).2.1
  have hfr : ∀ c, f ≤ c → c ≤ f + 12 → (c < fs ∨ fs + 12 < c) := fun c h1 h2 => by
    rcases q1 with rfl | rfl <;> rcases q2 with rfl | rfl <;> omega
  have hf38 : 38 ≤ f ∧ f + 12 ≤ 63 := by rcases q1 with rfl | rfl <;> decide
  have hs38 : 38 ≤ fs ∧ fs + 12 ≤ 63 := by rcases q2 with rfl | rfl <;> decide
  refine cL_mix hg (cA_mix (R0 := R) hg.1.1 hT c1 (prC_prg hT.1 c3) hP10 (pjR_tg hM.2.2.2.1) (pjR_pt hM.2.2.2.1) q1 q2 q4 q5 (x := a0) rfl rfl rfl (by decide) (fun z => ⟨rfl, 1, rfl, ?_⟩) (fun z1 z2 hov M1 e1 => ⟨_, rfl, 0, rfl, ?_⟩) (fun z1 z2 hov hle M1 e1 d0 d1 d2 y hy => ⟨y, rfl, 0, rfl, ?_⟩))
  · exact cR_mix (R0 := R) hT hM.1 hM.2.2.1 hM.2.2.2.1 (e := I) hM.2.2.2.2.1 (x := a0) rfl rfl rfl (by decide) (fun _ M' e => pI_t (by decide) hT hnb hj hC hM e) (fun w1 w2 => absurd ⟨w1, w2⟩ z) (fun w1 w2 => absurd ⟨w1, w2⟩ z)
  · have hM1 := MS_cl hM (M' := M1) (fun c hc => e1 c (by omega) (by omega) (by omega))
    have o1 : ∀ c, c ≤ 20 ∨ c = 23 ∨ c = 35 ∨ c = 36 → M1 c = M c := fun c hc => e1 c (by omega) (by omega) (by omega)
    have of : ∀ i, i ≤ 12 → M1 (f + i) = M (f + i) := fun i hi => e1 _ (by omega) (by omega) (hfr _ (by omega) (by omega))
    have of0 : M1 f = M f := of 0 (by omega)
    have hC1 : CS T m G P I A1 A2 A3 D nb R M1 := ⟨nt_C_to c1 (fun c _ q => o1 c (by omega)), by rw [o1 1 (by decide)]; exact c2, prC_to c3 (fun c _ q => o1 c (by omega)), fun v hv => by rw [o1 20 (by decide)]; exact c4 v hv, by rw [o1 23 (by decide)]; exact c5, by rw [o1 23 (by decide)]; exact c6, by rw [o1 23 (by decide)]; exact c7, f, fs, Sc, SS, J, q1, q2, q3, by rw [o1 0 (by decide)]; exact q4, by rw [o1 0 (by decide)]; exact q5, by rw [of0]; exact q6, by rw [of0]; exact q7, q8, crs_to q9 (fun i _ h => of i h), by rw [o1 35 (by decide)]; exact q10, fun z => by
      rw [o1 35 (by decide)] at z
      obtain ⟨t1, t2⟩ := q11 z
      exact ⟨by rw [o1 35 (by decide)]; exact t1, fun i hi c hc => by rw [o1 36 (by decide)]; exact t2 i hi c hc⟩⟩
    refine cR_mix (R0 := R) hT hM1.1 hM1.2.2.1 hM1.2.2.2.1 (e := M 20) (fun v hv => by rw [hM1.2.2.2.2.1 v hv, c4 v hv]) (x := a0) rfl rfl rfl (by decide) (fun w => absurd ⟨z1, z2⟩ w) (fun _ _ _ M2 e2 => ?_) (fun _ _ w => absurd (hov.symm.trans w) (by decide))
    obtain ⟨m1, m2, m3, m4, m5, m6, m7, m8, m9⟩ := hM1
    obtain ⟨o2, e20, o64⟩ := e2
    exact pI_0 rfl e20 (INV_of hT hnb hj (CS_to hC1 (fun c hc => o2 c (by omega) (by omega))) ⟨nt_R_to m1 (o64 1 (by decide) (by decide) (by decide)) (fun c _ q => o2 c (by omega) (by omega)), by rw [o64 7 (by decide) (by decide) (by decide)]; exact m2, pgR_to m3 (fun c _ q => o2 c (by omega) (by omega)), pjR_to m4 (fun c _ q => o2 c (by omega) (by omega)), fun v hv => by rw [o2 77 (by decide) (by decide)]; exact m5 v hv, by rw [o64 39 (by decide) (by decide) (by decide)]; exact m6, by rw [o64 40 (by decide) (by decide) (by decide)]; exact m7, by rw [o64 41 (by decide) (by decide) (by decide)]; exact m8, MR_to m9 (o64 23 (by decide) (by decide) (by decide)) (o64 24 (by decide) (by decide) (by decide)) (o64 42 (by decide) (by decide) (by decide)) (fun c q _ => o2 c (by omega) (by omega))⟩)
  · obtain ⟨o, e8, e9, o0, h35, o35⟩ := e1
    have hM1 := MS_cl hM (M' := M1) (fun c hc => o c (by omega) (by omega) (by omega) (by omega) (by omega))
    have o1 : ∀ c, 1 ≤ c → c ≤ 20 ∨ c = 23 → M1 c = M c := fun c h hc => o c (by omega) (by omega) (by omega) (by omega) (by omega)
    refine cR_mix (R0 := R) hT hM1.1 hM1.2.2.1 hM1.2.2.2.1 (e := M 20) (fun v hv => by rw [hM1.2.2.2.2.1 v hv, c4 v hv]) (x := a0) rfl rfl rfl (by decide) (fun w => absurd ⟨z1, z2⟩ w) (fun _ _ w => absurd (hov.symm.trans w) (by decide)) (fun _ _ _ _ M2 PS2 pb2 e2 g1 g2 g3 g4 g5 g6 g7 y2 hy2 => ?_)
    have hC1 : CS T m G P I A1 A2 A3 _ _ _ M1 := ⟨nt_C_to c1 (fun c q q' => o1 c q (by omega)), by rw [o1 1 (by decide) (by decide)]; exact c2, prC_to c3 (fun c q q' => o1 c (by omega) (by omega)), fun v hv => by rw [o1 20 (by decide) (by decide)]; exact c4 v hv, by rw [o1 23 (by decide) (by decide)]; exact c5, by rw [o1 23 (by decide) (by decide)]; exact c6, by rw [o1 23 (by decide) (by decide)]; exact c7, fs, f, _, _, _, q2, q1, fun w => q3 w.symm, e8, e9, d0, d1, fun _ => rfl, rdone_crs hle d2, Or.inr h35, fun z => absurd (h35.symm.trans z) (by decide)⟩
    exact pI_0 (hy2.trans hy.symm) e2.2.1 (INV_of hT hle g7 (CS_to hC1 (fun c hc => e2.1 c (by omega) (by omega))) (MS_mxf hM1 e2 ⟨g1, g2, ⟨pb2, PS2, g3, g4⟩, g5, g6⟩))
end PR5
theorem inv_start (M : mc_M) (hA : mtA M) (hR : mtR M) (hin : ∀ k ∈ inR, M 64 k = 0) : INV M := by
  obtain ⟨-, h8, h9, ⟨z1, -, h15, h16⟩, ⟨-, h70, h71, hB⟩, ⟨z20, -, -, -, h231, h232, h233, -⟩, ⟨-, -, -, -, -, -, -, -, h352, h353, -⟩, ⟨-, -, hf0, hf1⟩, -⟩ := hA
  obtain ⟨r1, r2, -⟩ := hR
  have i64 : ∀ k, k ∈ inR → M 64 k = 0 := hin
  refine INV_of (T := fun _ _ => 0) (m := 0) (G := 0) (P := fun b => (nI b, [], 2, (150, fun _ => 0), -1, -1)) (I := fun _ => 0) (A1 := 0) (A2 := 0) (A3 := 0) (D := 0) (nb := 0) (R := fun b => (nI b, [], 2, (150, fun _ => 0), -1, -1)) ⟨by decide, fun k hk => absurd hk (Nat.not_lt_zero _), fun _ _ _ => rfl⟩ (by decide) (fun b hb => absurd hb (Nat.not_lt_zero _)) ⟨⟨h15, fun i hi k _ => by rw [z1 (2 + i) (by omega) (by omega)]⟩, h16, ⟨h70, h71, fun b hb => ?_⟩, fun v _ => by rw [z20 20 (by decide) (by decide)], h231, h232, h233, ⟨38, 51, 0, fun _ => [], fun b => b, Or.inl rfl, Or.inr rfl, by decide, h8, h9, hf0, hf1, fun z => absurd z (Nat.lt_irrefl _), ⟨fun b hb => absurd hb (Nat.not_lt_zero _), fun b c hb => absurd hb (Nat.not_lt_zero _)⟩, Or.inl h353, fun _ => ⟨h352, fun i _ c hc => by cases hc⟩⟩⟩ ⟨⟨i64 1 (by decide), fun i _ k hk => absurd hk (Nat.not_lt_zero _)⟩, i64 7 (by decide), fun b hb => ⟨by rw [r1 70 (by decide) (by decide) (by decide) (by decide)]; rfl, Nat.zero_le _, fun i hi => absurd hi (Nat.not_lt_zero _)⟩, fun b hb => ⟨(r2 b hb).1, Or.inl ⟨(r2 b hb).2, rfl⟩, rfl, Or.inr (Or.inr ⟨rfl, rfl, rfl⟩)⟩, fun v _ => by rw [r1 77 (by decide) (by decide) (by decide) (by decide)], i64 39 (by decide), i64 40 (by decide), i64 41 (by decide), i64 23 (by decide), i64 24 (by decide), ⟨0, fun _ => [], by decide, fun b hb => absurd hb (Nat.not_lt_zero _), fun b c hb => absurd hb (Nat.not_lt_zero _)⟩, fun b hb => absurd hb (Nat.not_lt_zero _), i64 42 (by decide), fun i _ c hc => by cases hc⟩
  obtain ⟨b1, b2, b3, b4, b5, b6, b7⟩ := hB b hb
  exact ⟨b1, b2, Nat.zero_le _, fun z => absurd z (Nat.lt_irrefl _), fun i hi => absurd hi (Nat.not_lt_zero _), fun i hi => absurd hi (Nat.not_lt_zero _), b3, b4, ⟨150, Or.inr rfl, b5, rfl⟩, b6, b7⟩
theorem lps_all (g : mc_G) (hg : mc_S2 g) : LPS g 2047 INV := ⟨pr_node hg, pr_assign hg, pr_jump hg, pr_clear hg, pr_input hg, pr_run hg, pr_follow hg, pr_result hg, pr_divide hg, pr_live hg, pr_mix hg, pr_compress hg, pr_about hg, pr_sign hg, pr_count hg⟩
