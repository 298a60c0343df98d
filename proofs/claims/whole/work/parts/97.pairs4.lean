/-! Pairs of calls: jump, node -/
section PR4
variable {g : mc_G} {T : Nat → Nat → Int32} {m : Nat} {G : Int32} {P : Nat → Blk} {I : Nat → Int32} {A1 A2 A3 D : Int32} {nb : Nat} {R : Nat → Blk} {M M' : mc_M} {L : mc_L}
theorem jp_nd {q nd one oth : Int32} (h : jp_ok m q nd one oth) : ∃ k, (k < m ∨ k = 150) ∧ (if q = 0 then (150 : Int32) else nd) = nI k ∧ jnR m (if q = 0 then -1 else nd) k ∧
    ((q = 0 ∧ k = 150 ∧ (∃ t, t < 16 ∧ one = nI t)) ∨ (q = 1 ∧ k < m ∧ (∃ t, t < 16 ∧ one = nI t) ∧ ∃ t, t < 16 ∧ oth = nI t) ∨ q = 2) := by
  rcases h with ⟨rfl, h1⟩ | ⟨rfl, ⟨k, hk, rfl⟩, h1, h2⟩ | ⟨rfl, ⟨k, hk, rfl⟩⟩
  · exact ⟨150, Or.inr rfl, rfl, Or.inl ⟨rfl, rfl⟩, Or.inl ⟨rfl, rfl, h1⟩⟩
  · exact ⟨k, Or.inl hk, rfl, Or.inr ⟨hk, rfl⟩, Or.inr (Or.inl ⟨rfl, hk, h1, h2⟩)⟩
  · exact ⟨k, Or.inl hk, rfl, Or.inr ⟨hk, rfl⟩, Or.inr (Or.inr rfl)⟩
theorem pr_jump (hg : mc_S2 g) (a0 a1 a2 a3 a4 : Int32) : pV INV (ctL_jump g 2047) (ctR_jump g 2047) [.ref 0, .int a0, .int a1, .int a2, .int a3, .int a4] [.ref 64, .int a0, .int a1, .int a2, .int a3, .int a4] := by
  intro n M L hI
  obtain ⟨T, m, G, P, I, A1, A2, A3, D, nb, R, hT, hnb, hj, hC, hM⟩ := hI
  refine cL_jump hg (cA_jump hg.1.1 hC.1.1 hT.1 hC.2.2.1 (by decide) (fun z => ⟨rfl, 1, rfl, ?_⟩) (fun b hb hx hk M1 e1 => ⟨rfl, 0, rfl, ?_⟩))
  · exact cR_jump hM.1.1 hT.1 (by decide) (fun _ M' e => ⟨rfl, by rw [e]; exact mc_put_64 1, by rw [e]; exact INV_put hT hnb hj hC hM 1⟩) (fun b hb hx hk => absurd ⟨⟨b, hb, hx⟩, hk⟩ z)
  · have o1 : ∀ c, c < 7 ∨ 19 < c → M1 c = M c := fun c hc => by rw [e1, pt_o (by omega), pt_o (by omega), pt_o (by omega), pt_o (by omega)]
    have hM1 := MS_cl hM (M' := M1) (fun c hc => o1 c (by omega))
    obtain ⟨k, k1, k2, k3, k4⟩ := jp_nd hk
    rw [k2] at e1
    have hC1 := CS_prog hC (prC_jmp hC.2.2.1 hb k1 e1) o1
    refine cR_jump hM1.1.1 hT.1 (by decide) (fun w => absurd ⟨⟨b, hb, hx⟩, hk⟩ w) (fun b2 hb2 hx2 _ M2 e2 => ?_)
    have : b2 = b := (nI_eq (by omega) (by omega)).mp (hx2.symm.trans hx)
    subst this
    unfold mc_jmpR at e2
    have o64 : ∀ i, i ≠ 0 → M2 64 i = M1 64 i := fun i hi => by rw [e2, pt_o (by decide), pt_o (by decide), pt_o (by decide), pt_o (by decide), mc_put_at, if_neg (fun z => hi z.2)]
    have o2 : ∀ c, c ≠ 64 → c ≠ 73 → c ≠ 74 → c ≠ 75 → c ≠ 76 → M2 c = M1 c := fun c h1 h2 h3 h4 h5 => by rw [e2, pt_o h5, pt_o h4, pt_o h3, pt_o h2, pt_o h1]
    have e73 : ∀ c, M2 73 c = if c = b2 then a1 else M1 73 c := fun c => by
      rw [e2, pt_o (by decide), pt_o (by decide), pt_o (by decide), mc_put_at, pt_o (by decide)]
      simp
    have e74 : ∀ c, M2 74 c = if c = b2 then (if a1 = 0 then -1 else a2) else M1 74 c := fun c => by
      rw [e2, pt_o (by decide), pt_o (by decide), mc_put_at, pt_o (by decide), pt_o (by decide)]
      simp
    have e75 : ∀ c, M2 75 c = if c = b2 then a3 else M1 75 c := fun c => by
      rw [e2, pt_o (by decide), mc_put_at, pt_o (by decide), pt_o (by decide), pt_o (by decide)]
      simp
    have e76 : ∀ c, M2 76 c = if c = b2 then a4 else M1 76 c := fun c => by
      rw [e2, mc_put_at, pt_o (by decide), pt_o (by decide), pt_o (by decide), pt_o (by decide)]
      simp
    refine ⟨rfl, by rw [e2, pt_o (by decide), pt_o (by decide), pt_o (by decide), pt_o (by decide)]; exact mc_put_64 0, INV_of hT hnb hj (CS_to hC1 (fun c hc => o2 c (by omega) (by omega) (by omega) (by omega) (by omega))) (MS_prog hM1 ?_ ?_ o64 (fun c q1 q2 => o2 c q1 (by omega) (by omega) (by omega) (by omega)))⟩
    · intro c hc
      have ep : (pJmp P b2 a1 k (if a1 = 2 then -1 else a3) (if a1 = 1 then a4 else -1) c).2.1 = (P c).2.1 := by
        unfold pJmp
        by_cases h : c = b2
        · rw [if_pos h, h]
        · rw [if_neg h]
      rw [ep, o2 70 (by decide) (by decide) (by decide) (by decide) (by decide), o2 71 (by decide) (by decide) (by decide) (by decide) (by decide), o2 72 (by decide) (by decide) (by decide) (by decide) (by decide)]
      exact hM1.2.2.1 c hc
    · intro c hc
      by_cases h : c = b2
      · subst h
        have ep : pJmp P c a1 k (if a1 = 2 then -1 else a3) (if a1 = 1 then a4 else -1) c = ((P c).1, (P c).2.1, a1, (k, fun _ => 0), (if a1 = 2 then -1 else a3), (if a1 = 1 then a4 else -1)) := by unfold pJmp; rw [if_pos rfl]
        rw [ep, e73, e74, e75, e76, if_pos rfl, if_pos rfl, if_pos rfl, if_pos rfl]
        refine ⟨rfl, k3, rfl, ?_⟩
        rcases k4 with ⟨rfl, h2, ⟨t, ht, et⟩⟩ | ⟨rfl, h2, ⟨t, ht, et⟩, ⟨u, hu, eu⟩⟩ | rfl
        · exact Or.inl ⟨rfl, h2, ⟨t, ht, et, et⟩, rfl⟩
        · exact Or.inr (Or.inl ⟨rfl, h2, ⟨t, ht, et, et⟩, ⟨u, hu, eu, eu⟩⟩)
        · exact Or.inr (Or.inr ⟨rfl, rfl, rfl⟩)
      · have ep : pJmp P b2 a1 k (if a1 = 2 then -1 else a3) (if a1 = 1 then a4 else -1) c = P c := by unfold pJmp; rw [if_neg h]
        rw [ep, e73, e74, e75, e76, if_neg h, if_neg h, if_neg h, if_neg h]
        exact hM1.2.2.2.1 c hc
theorem CR_bkn (hm : m ≤ 150) (h : CR T m D nb R M) : ∀ b, b < nb → bkn (R b) m := by
  obtain ⟨f, fs, Sc, SS, J, a1, a2, a3, a4, a5, a6, a7, a8, a9, a10, a11⟩ := h
  exact fun b hb => fl_blk_bkn hm (a9.1 b hb rfl).1
theorem CS_node {q a b : Int32} (hT : nt_ok T m) (hm : m < 150) (h : CS T m G P I A1 A2 A3 D nb R M) (e : M' = mc_nodeC M T m q a b) : CS (tT T m q a b) (m + 1) (nd_mx G (tz T q a b)) P I A1 A2 A3 D nb R M' := by
  obtain ⟨a1, a2, a3, a4, a5, a6, a7, a8⟩ := h
  have o : ∀ c, c = 0 ∨ 6 < c → M' c = M c := fun c hc => by
    rw [e]
    unfold mc_nodeC
    rw [pt_o (by omega), pt_o (by omega), pt_o (by omega), pt_o (by omega), pt_o (by omega), pt_o (by omega), pt_o (by omega)]
  have hbk := CR_bkn (by omega) a8
  refine ⟨by rw [e]; exact nt_C_ext a1 hm, ?_, prC_m (prC_to a3 (fun c q _ => o c (by omega))) (by omega), fun v hv => by rw [o 20 (by decide)]; exact a4 v hv, by rw [o 23 (by decide)]; exact a5, by rw [o 23 (by decide)]; exact a6, by rw [o 23 (by decide)]; exact a7, CR_to (M := M) ?_ (o 0 (by decide)) (o 35 (by decide)) (o 36 (by decide)) (fun c q _ => o c (by omega))⟩
  · rw [e]
    unfold mc_nodeC
    rw [mc_put_at, if_neg (by decide), mc_put_at, if_pos ⟨rfl, rfl⟩, a2]
  · obtain ⟨f, fs, Sc, SS, J, q1, q2, q3, q4, q5, q6, q7, q8, q9, q10, q11⟩ := a8
    exact ⟨f, fs, Sc, SS, J, q1, q2, q3, q4, q5, q6, q7, q8, crs_ext hm q9, q10, fun z => by rw [sp_tx_ext hT hm hbk]; exact q11 z⟩
theorem MS_node {q a b : Int32} (hT : nt_ok T m) (hm : m < 150) (hbk : ∀ b, b < nb → bkn (R b) m) (h : MS T m G P I A1 A2 A3 D nb R M) (e : M' = mc_nodeR M T m q a b) : MS (tT T m q a b) (m + 1) (nd_mx G (tz T q a b)) P I A1 A2 A3 D nb R M' := by
  obtain ⟨a1, a2, a3, a4, a5, a6, a7, a8, a9⟩ := h
  have o : ∀ c, c < 64 ∨ 69 < c → M' c = M c := fun c hc => by
    rw [e]
    unfold mc_nodeR
    rw [pt_o (by omega), pt_o (by omega), pt_o (by omega), pt_o (by omega), pt_o (by omega), pt_o (by omega), pt_o (by omega), pt_o (by omega)]
  have o64 : ∀ i, i ≠ 0 → i ≠ 1 → i ≠ 7 → M' 64 i = M 64 i := fun i h0 h1 h7 => by
    rw [e]
    unfold mc_nodeR
    rw [mc_put_at, if_neg (fun z => h1 z.2), mc_put_at, if_neg (fun z => h7 z.2), pt_o (by decide), pt_o (by decide), pt_o (by decide), pt_o (by decide), pt_o (by decide), mc_put_at, if_neg (fun z => h0 z.2)]
  refine ⟨by rw [e]; exact nt_R_ext a1 hm, ?_, pgR_ext (pgR_to a3 (fun c q _ => o c (by omega))), pjR_ext (pjR_to a4 (fun c q _ => o c (by omega))), fun v hv => by rw [o 77 (by decide)]; exact a5 v hv, by rw [o64 39 (by decide) (by decide) (by decide)]; exact a6, by rw [o64 40 (by decide) (by decide) (by decide)]; exact a7, by rw [o64 41 (by decide) (by decide) (by decide)]; exact a8, MR_to (M := M) ?_ (o64 23 (by decide) (by decide) (by decide)) (o64 24 (by decide) (by decide) (by decide)) (o64 42 (by decide) (by decide) (by decide)) (fun c q _ => o c (by omega))⟩
  · rw [e]
    unfold mc_nodeR
    rw [mc_put_at, if_neg (by decide), mc_put_at, if_pos ⟨rfl, rfl⟩, a2]
  · obtain ⟨b1, b2, ⟨pb, PS, b3, b4⟩, b5, b6⟩ := a9
    exact ⟨b1, b2, ⟨pb, PS, b3, mrs_ext hm b4⟩, b5, by rw [sp_tx_ext hT hm hbk]; exact b6⟩
theorem pr_node (hg : mc_S2 g) (a0 a1 a2 : Int32) : pI INV (ctL_node g 2047) (ctR_node g 2047) [.ref 0, .int a0, .int a1, .int a2, .ref 98] [.ref 64, .int a0, .int a1, .int a2] := by
  intro n M L hI
  obtain ⟨T, m, G, P, I, A1, A2, A3, D, nb, R, hT, hnb, hj, hC, hM⟩ := hI
  refine cL_node hg (cA_node hg.1.1 hT.1 hC.1 (by decide) (fun z => Or.inl ⟨rfl, 1, rfl, ?_⟩) (fun z1 z2 => Or.inr ⟨rfl, 2, rfl, ?_⟩) (fun z1 z2 z3 M1 e1 => ⟨_, rfl, 0, rfl, ?_⟩))
  · exact cR_node hT.1 hM.1 (by decide) (fun _ M' e => pI_t (by decide) hT hnb hj hC hM e) (fun w => absurd w z) (fun w => absurd w z)
  · refine cR_node hT.1 hM.1 (by decide) (fun w => absurd z1 w) (fun _ _ M' e => pI_t (by decide) hT hnb hj hC hM e) (fun _ w1 w2 => ?_)
    rcases z2 with z2 | z2
    · exact absurd z2 w1
    · omega
  · have o1 : ∀ c, 64 ≤ c → M1 c = M c := fun c hc => by
      rw [e1]
      unfold mc_nodeC
      rw [pt_o (by omega), pt_o (by omega), pt_o (by omega), pt_o (by omega), pt_o (by omega), pt_o (by omega), pt_o (by omega)]
    have hM1 := MS_cl hM (M' := M1) o1
    have hC1 := CS_node hT z3 hC e1
    refine cR_node hT.1 hM1.1 (by decide) (fun w => absurd z1 w) (fun _ w => ?_) (fun _ _ _ r2 M2 hr2 e2 => ?_)
    · rcases w with w | w
      · exact absurd w z2
      · omega
    · have hM2 := MS_node hT z3 (CR_bkn hT.1 hC.2.2.2.2.2.2.2) hM1 e2
      refine pI_0 hr2 ?_ (INV_of (nt_ok_ext hT z1 z2 z3) hnb hj (CS_to hC1 (fun c hc => ?_)) hM2)
      · rw [e2]
        unfold mc_nodeR
        rw [mc_put_at, if_neg (by decide), mc_put_at, if_neg (by decide), pt_o (by decide), pt_o (by decide), pt_o (by decide), pt_o (by decide), pt_o (by decide)]
        exact mc_put_64 0
      · rw [e2]
        unfold mc_nodeR
        rw [pt_o (by omega), pt_o (by omega), pt_o (by omega), pt_o (by omega), pt_o (by omega), pt_o (by omega), pt_o (by omega), pt_o (by omega)]
end PR4
