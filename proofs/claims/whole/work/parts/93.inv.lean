/-! The invariant: what the class and the model hold in common -/
abbrev SD (D : Int32) : Int32 := 255 &&& (D ^^^ (-1))
/-- what the class holds of the residual program -/
def CR (T : Nat → Nat → Int32) (m : Nat) (D : Int32) (nb : Nat) (R : Nat → Blk) (M : mc_M) : Prop := ∃ f fs Sc SS J, rs_is f ∧ rs_is fs ∧ fs ≠ f ∧ M 0 8 = nI f ∧ M 0 9 = nI fs ∧ M f 0 = nI nb ∧ M f 1 = Sc ∧ (0 < nb → Sc = SD D) ∧ crs T m Sc M f nb R (fun _ => false) SS J ∧ (M 35 3 = 0 ∨ M 35 3 = 1) ∧ (M 35 3 = 0 → txt M (sp_tx T Sc nb R))
def CS (T : Nat → Nat → Int32) (m : Nat) (G : Int32) (P : Nat → Blk) (I : Nat → Int32) (A1 A2 A3 D : Int32) (nb : Nat) (R : Nat → Blk) (M : mc_M) : Prop :=
  nt_C M T m ∧ M 1 6 = G ∧ prC M m P ∧ (∀ v, v < 8 → M 20 v = I v) ∧ M 23 1 = A1 ∧ M 23 2 = A2 ∧ M 23 3 = A3 ∧ CR T m D nb R M
def MR (T : Nat → Nat → Int32) (m : Nat) (D : Int32) (nb : Nat) (R : Nat → Blk) (M : mc_M) : Prop := M 64 23 = nI nb ∧ M 64 24 = D ∧ (∃ pb PS, pb ≤ 1100 ∧ mrs T m (SD D) M pb nb R PS) ∧ (∀ b, b < nb → M 84 b = 0) ∧ txR M (sp_tx T (SD D) nb R)
def MS (T : Nat → Nat → Int32) (m : Nat) (G : Int32) (P : Nat → Blk) (I : Nat → Int32) (A1 A2 A3 D : Int32) (nb : Nat) (R : Nat → Blk) (M : mc_M) : Prop :=
  nt_R M T m ∧ M 64 7 = G ∧ pgR M m P ∧ pjR M m P ∧ (∀ v, v < 8 → M 77 v = I v) ∧ M 64 39 = A1 ∧ M 64 40 = A2 ∧ M 64 41 = A3 ∧ MR T m D nb R M
def INV (M : mc_M) : Prop := ∃ T m G P I A1 A2 A3 D nb R, nt_ok T m ∧ nb ≤ 100 ∧ (∀ b, b < nb → jm_ok (R b).2.2 nb) ∧ CS T m G P I A1 A2 A3 D nb R M ∧ MS T m G P I A1 A2 A3 D nb R M
section IN
variable {T : Nat → Nat → Int32} {m : Nat} {G : Int32} {P : Nat → Blk} {I : Nat → Int32} {A1 A2 A3 D : Int32} {nb : Nat} {R : Nat → Blk} {M M' : mc_M}
theorem CR_to (h : CR T m D nb R M) (h0 : M' 0 = M 0) (h35 : M' 35 = M 35) (h36 : M' 36 = M 36) (hf : ∀ c, 38 ≤ c → c ≤ 63 → M' c = M c) : CR T m D nb R M' := by
  obtain ⟨f, fs, Sc, SS, J, a1, a2, a3, a4, a5, a6, a7, a8, a9, a10, a11⟩ := h
  have hfr : ∀ i, i ≤ 12 → M' (f + i) = M (f + i) := fun i hi => hf _ (by rcases a1 with rfl | rfl <;> omega) (by rcases a1 with rfl | rfl <;> omega)
  have e0 : M' f = M f := hfr 0 (by omega)
  refine ⟨f, fs, Sc, SS, J, a1, a2, a3, by rw [h0]; exact a4, by rw [h0]; exact a5, by rw [e0]; exact a6, by rw [e0]; exact a7, a8, crs_to a9 (fun i _ h2 => hfr i h2), by rw [h35]; exact a10, fun z => ?_⟩
  rw [h35] at z
  obtain ⟨t1, t2⟩ := a11 z
  exact ⟨by rw [h35]; exact t1, fun i hi c hc => by rw [h36]; exact t2 i hi c hc⟩
theorem CS_to (h : CS T m G P I A1 A2 A3 D nb R M) (hM : ∀ c, c < 64 → M' c = M c) : CS T m G P I A1 A2 A3 D nb R M' := by
  obtain ⟨a1, a2, a3, a4, a5, a6, a7, a8⟩ := h
  exact ⟨nt_C_to a1 (fun c _ q => hM c (by omega)), by rw [hM 1 (by decide)]; exact a2, prC_to a3 (fun c _ q => hM c (by omega)), fun v hv => by rw [hM 20 (by decide)]; exact a4 v hv, by rw [hM 23 (by decide)]; exact a5, by rw [hM 23 (by decide)]; exact a6, by rw [hM 23 (by decide)]; exact a7, CR_to a8 (hM 0 (by decide)) (hM 35 (by decide)) (hM 36 (by decide)) (fun c _ q => hM c (by omega))⟩
theorem MR_to (h : MR T m D nb R M) (h23 : M' 64 23 = M 64 23) (h24 : M' 64 24 = M 64 24) (h42 : M' 64 42 = M 64 42) (hM : ∀ c, 83 ≤ c → c ≤ 96 → M' c = M c) : MR T m D nb R M' := by
  obtain ⟨a1, a2, ⟨pb, PS, a3, a4, a5⟩, a6, a7, a8⟩ := h
  refine ⟨by rw [h23]; exact a1, by rw [h24]; exact a2, ⟨pb, PS, a3, fun b hb => mblk_to (a4 b hb) (Nat.le_refl _) (fun c hc => by rw [hM c (by omega) (by omega)]) (fun j _ => ⟨by rw [hM 91 (by decide) (by decide)], by rw [hM 92 (by decide) (by decide)], by rw [hM 93 (by decide) (by decide)]⟩) (fun j v _ _ => by rw [hM 94 (by decide) (by decide)]), a5⟩, fun b hb => by rw [hM 84 (by decide) (by decide)]; exact a6 b hb, by rw [h42]; exact a7, fun i hi c hc => by rw [hM 96 (by decide) (by decide)]; exact a8 i hi c hc⟩
theorem MS_to (h : MS T m G P I A1 A2 A3 D nb R M) (h64 : ∀ i, i ≠ 0 → M' 64 i = M 64 i) (hM : ∀ c, 65 ≤ c → c ≤ 96 → M' c = M c) : MS T m G P I A1 A2 A3 D nb R M' := by
  obtain ⟨a1, a2, a3, a4, a5, a6, a7, a8, a9⟩ := h
  exact ⟨nt_R_to a1 (h64 1 (by decide)) (fun c q1 q2 => hM c q1 (by omega)), by rw [h64 7 (by decide)]; exact a2, pgR_to a3 (fun c q1 q2 => hM c (by omega) (by omega)), pjR_to a4 (fun c q1 q2 => hM c (by omega) (by omega)), fun v hv => by rw [hM 77 (by decide) (by decide)]; exact a5 v hv, by rw [h64 39 (by decide)]; exact a6, by rw [h64 40 (by decide)]; exact a7, by rw [h64 41 (by decide)]; exact a8, MR_to a9 (h64 23 (by decide)) (h64 24 (by decide)) (h64 42 (by decide)) (fun c q1 q2 => hM c (by omega) q2)⟩
/-- the class has changed its own cells alone -/
theorem MS_cl (h : MS T m G P I A1 A2 A3 D nb R M) (hM : ∀ c, 64 ≤ c → M' c = M c) : MS T m G P I A1 A2 A3 D nb R M' := MS_to h (fun i _ => by rw [hM 64 (by decide)]) (fun c q _ => hM c (by omega))
/-- the model has noted a throw, or none -/
theorem MS_put (h : MS T m G P I A1 A2 A3 D nb R M) (k : Int32) : MS T m G P I A1 A2 A3 D nb R (mc_put M 64 0 k) := MS_to h (fun i hi => by rw [mc_put_at, if_neg (fun z => hi z.2)]) (fun c q _ => by
  funext j
  rw [mc_put_at, if_neg (fun z => by omega)])
theorem CS_put (h : CS T m G P I A1 A2 A3 D nb R M) (k : Int32) : CS T m G P I A1 A2 A3 D nb R (mc_put M 64 0 k) := CS_to h (fun c q => by
  funext j
  rw [mc_put_at, if_neg (fun z => by omega)])
theorem mc_put_64 (k : Int32) : mc_put M 64 0 k 64 0 = k := by rw [mc_put_at, if_pos ⟨rfl, rfl⟩]
theorem INV_of (hT : nt_ok T m) (hnb : nb ≤ 100) (hj : ∀ b, b < nb → jm_ok (R b).2.2 nb) (hC : CS T m G P I A1 A2 A3 D nb R M) (hM : MS T m G P I A1 A2 A3 D nb R M) : INV M := ⟨T, m, G, P, I, A1, A2, A3, D, nb, R, hT, hnb, hj, hC, hM⟩
theorem INV_put (hT : nt_ok T m) (hnb : nb ≤ 100) (hj : ∀ b, b < nb → jm_ok (R b).2.2 nb) (hC : CS T m G P I A1 A2 A3 D nb R M) (hM : MS T m G P I A1 A2 A3 D nb R M) (k : Int32) : INV (mc_put M 64 0 k) := INV_of hT hnb hj (CS_put hC k) (MS_put hM k)
theorem pjR_tg (h : pjR M m P) : tg_ok P 16 := fun b hb => by
  obtain ⟨-, -, -, h⟩ := h b hb
  rcases h with ⟨h1, -, ⟨t, ht, e, -⟩, -⟩ | ⟨h1, -, ⟨t, ht, e, -⟩, ⟨u, hu, e2, -⟩⟩ | ⟨h1, -⟩
  · exact Or.inr ⟨⟨t, ht, e⟩, Or.inl h1⟩
  · exact Or.inr ⟨⟨t, ht, e⟩, Or.inr ⟨u, hu, e2⟩⟩
  · exact Or.inl h1
end IN
theorem putL_at (L : mc_L) (x : Int64) : mc_putL L 98 0 x 98 0 = x := by
  unfold mc_putL
  rw [mc_setL_s]
  simp [vp_updL]
