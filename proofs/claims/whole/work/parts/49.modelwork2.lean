/-! The pieces of the model's work -/
section WK
variable {g : mc_G} {d n : Nat} {M : mc_M} {L : mc_L} {Q : Option Value → mc_M → mc_L → Prop} {T : Nat → Nat → Int32} {m : Nat} {P : Nat → Blk} {K : mc_K}
theorem wk_copy (hK : mc_closed true tab0 n 0 none (shR_work g d) Q (fun _ _ _ => False) tbR_work K) {k b : Nat} (hk : k < 101) {w y : Int32} (hy : y = nI b) (h : ∀ i M1, (∀ c, c ≠ 78 → M1 c = M c) → (∀ v, v < 8 → M1 78 v = M 81 (k * 8 + v)) → K 42 [some (.ref 64), some (.int (nI k)), some (.int w), some (.int (nI b)), some (.int i), none, none, none, none] [] n M1 L) :
    ∀ (r v : Nat) (i : Int32) (M1 : mc_M), r + v = 8 → i = nI v → (∀ c, c ≠ 78 → M1 c = M c) → (∀ u, u < v → M1 78 u = M 81 (k * 8 + u)) → K 10 [some (.ref 64), some (.int (nI k)), some (.int w), some (.int y), some (.int i), none, none, none, none] [] n M1 L := by
  subst hy
  have e8 : ∀ k v : Nat, (8 : Int32) * nI k + nI v = nI (k * 8 + v) := fun k v => by rw [show (8 : Int32) = nI 8 from rfl, nI_mul, nI_add, Nat.mul_comm]
  intro r
  induction r with
  | zero =>
    intro v i M1 hv hi e1 e2
    subst hi
    have c1 : (8 : Int32) ≤ nI v := nI_le (a := 8) (by omega) (by omega)
    exact hK.1 [42] 20 10 _ _ _ _ _ ⟨fun _ => h _ M1 e1 (fun u hu => e2 u (by omega)), fun z => absurd c1 z⟩
  | succ r ih =>
    intro v i M1 hv hi e1 e2
    subst hi
    have c1 : ¬ (8 : Int32) ≤ nI v := nI_ge (b := 8) (by omega) (by decide)
    have vi : vp_in (8 * nI k + nI v) 808 := by rw [e8]; exact vp_in_nI (by omega) (by decide)
    have vv : vp_in (nI v) 8 := vp_in_nI (by omega) (by decide)
    have ei : (8 * nI k + nI v).toNatClampNeg = k * 8 + v := by rw [e8]; exact nI_clamp (by omega)
    have ev : (nI v).toNatClampNeg = v := nI_clamp (by omega)
    refine hK.1 [10] 40 10 _ _ _ _ _ ⟨fun z => absurd z c1, fun _ => ⟨vi, vv, ih (v + 1) _ _ (by omega) (nI_1 v) (fun c hc => ?_) (fun u hu => ?_)⟩⟩
    · funext w
      rw [mc_put_at, if_neg (fun z => hc z.1), e1 c hc]
    · rw [mc_put_at, ei, ev, e1 81 (by decide)]
      by_cases e : u = v
      · rw [if_pos ⟨rfl, e⟩, e]
      · rw [if_neg (fun z => e z.2), e2 u (by omega)]
theorem wk_158 (hK : mc_closed true tab0 n 0 none (shR_work g (d + 1)) Q (fun _ _ _ => False) tbR_work K) {D : Int32} (hT : nt_ok T m) (hR : mxR T m P D M) {k b : Nat} (hb : b < 16) {w i : Int32} {E : Nat → Int32} (hE : ∀ v, v < 8 → M 78 v = E v)
    (h : ∀ (op ot : Bool) (M1 : mc_M), (∀ c, c ≠ 79 → M1 c = M c) → (op = true ↔ (P b).2.2.1 = 1 ∧ ¬ (T 4 (P b).2.2.2.1.1 &&& D) = 0) → (ot = true ↔ (P b).2.2.1 = 1 ∧ (T 4 (P b).2.2.2.1.1 &&& D) = 0 ∧ nd_val (T 0) (T 1) (T 2) E (P b).2.2.2.1.1 = 0) → K 229 [some (.ref 64), some (.int (nI k)), some (.int w), some (.int (nI b)), some (.int (M 74 b)), some (.int (bI op)), some (.int (bI ot)), none, none] [] n M1 L) :
    K 158 [some (.ref 64), some (.int (nI k)), some (.int w), some (.int (nI b)), some (.int i), none, none, none, none] [] n M L := by
  obtain ⟨hN, hP, hJ, h21, hY⟩ := hR
  have hm150 := hT.1
  obtain ⟨q0, q1, q2, q3⟩ := hJ b hb
  have vb : vp_in (nI b) 16 := vp_in_nI hb (by decide)
  have eb : (nI b).toNatClampNeg = b := nI_clamp (by omega)
  have e73 : M 73 (nI b).toNatClampNeg = (P b).2.2.1 := by rw [eb, q0]
  have h' : ∀ (y0 y1 y2 : Int32) (op ot : Bool) (M1 : mc_M), y0 = M 74 b → y1 = bI op → y2 = bI ot → (∀ c, c ≠ 79 → M1 c = M c) → (op = true ↔ (P b).2.2.1 = 1 ∧ ¬ (T 4 (P b).2.2.2.1.1 &&& D) = 0) → (ot = true ↔ (P b).2.2.1 = 1 ∧ (T 4 (P b).2.2.2.1.1 &&& D) = 0 ∧ nd_val (T 0) (T 1) (T 2) E (P b).2.2.2.1.1 = 0) → K 229 [some (.ref 64), some (.int (nI k)), some (.int w), some (.int (nI b)), some (.int y0), some (.int y1), some (.int y2), none, none] [] n M1 L := fun y0 y1 y2 op ot M1 z0 z1 z2 a1 a2 a3 => by
    rw [z0, z1, z2]
    exact h op ot M1 a1 a2 a3
  have e74 : M 74 (nI b).toNatClampNeg = M 74 b := by rw [eb]
  by_cases k1 : (P b).2.2.1 = 1
  · have y1 : M 73 (nI b).toNatClampNeg = 1 := e73.trans k1
    have hj : (P b).2.2.2.1.1 < m ∧ M 74 b = nI (P b).2.2.2.1.1 := by
      rcases q3 with ⟨k0, -⟩ | ⟨-, kk, -⟩ | ⟨k0, -⟩
      · rw [k1] at k0; exact absurd k0 (by decide)
      · refine ⟨kk, ?_⟩
        rcases q1 with q1 | q1
        · omega
        · exact q1.2
      · rw [k1] at k0; exact absurd k0 (by decide)
    have vn : vp_in (M 74 (nI b).toNatClampNeg) 150 := by rw [e74, hj.2]; exact vp_in_nI (by omega) (by decide)
    have e69 : M 69 (M 74 (nI b).toNatClampNeg).toNatClampNeg &&& M 64 21 = T 4 (P b).2.2.2.1.1 &&& D := by
      rw [e74, hj.2, nI_clamp (by omega), h21]
      rw [show M 69 (P b).2.2.2.1.1 = T 4 (P b).2.2.2.1.1 from hN.2 4 (by decide) _ hj.1]
    by_cases op : (T 4 (P b).2.2.2.1.1 &&& D) = 0
    · have o1 := e69.trans op
      refine hK.1 [229] 80 158 _ _ _ _ _ ⟨vb, vb, fun z => absurd y1 z, fun _ => ⟨vn, fun _ => ⟨vb, fun z => absurd y1 z, fun _ => ⟨fun z => absurd rfl z, fun _ => cR_worthJ hT hN (k := (P b).2.2.2.1.1) (by rw [e74]; exact q1) (fun v hv _ => hE v hv) (by omega) (fun r M1 hM hr => ⟨fun z => h' _ _ _ false false M1 e74 rfl rfl hM ⟨fun w => (by cases w), fun w => absurd op w.2⟩ ⟨fun w => (by cases w), fun w => absurd (hr.trans w.2.2) z⟩, fun z => h' _ _ _ false true M1 e74 rfl rfl hM ⟨fun w => (by cases w), fun w => absurd op w.2⟩ ⟨fun _ => ⟨k1, op, hr.symm.trans z⟩, fun _ => rfl⟩⟩)⟩⟩, fun z => absurd o1 z⟩⟩
    · have o1 : ¬ M 69 (M 74 (nI b).toNatClampNeg).toNatClampNeg &&& M 64 21 = 0 := fun z => op (e69.symm.trans z)
      exact hK.1 [229] 80 158 _ _ _ _ _ ⟨vb, vb, fun z => absurd y1 z, fun _ => ⟨vn, fun z => absurd z o1, fun _ => ⟨vb, fun z => absurd y1 z, fun _ => ⟨fun _ => h' _ _ _ true false M e74 rfl rfl (fun _ _ => rfl) ⟨fun _ => ⟨k1, op⟩, fun _ => rfl⟩ ⟨fun w => (by cases w), fun w => absurd w.2.1 op⟩, fun z => absurd z (by decide)⟩⟩⟩⟩
  · have n1 : ¬ M 73 (nI b).toNatClampNeg = 1 := fun z => k1 (e73.symm.trans z)
    exact hK.1 [229] 80 158 _ _ _ _ _ ⟨vb, vb, fun _ => ⟨vb, fun _ => h' _ _ _ false false M e74 rfl rfl (fun _ _ => rfl) ⟨fun w => (by cases w), fun w => absurd w.1 k1⟩ ⟨fun w => (by cases w), fun w => absurd w.1 k1⟩, fun z => absurd z n1⟩, fun z => absurd z n1⟩
def wkJ (M M1 : mc_M) (kept : Nat → Int32) (J : (Stt × Nat × Bool) × Jmp) (one two : Int32) : Prop := stfr M M1 ∧ (J.1.2.2 = false → M1 64 18 = nI J.1.2.1 ∧ mst M1 kept J.1.1 J.1.2.1 ∧ one = J.2.2.2.1 ∧ two = J.2.2.2.2) ∧ (J.1.2.2 = true → M1 64 18 = nI 101)
theorem stfr_tr {M M' M'' : mc_M} (h : stfr M M') (h' : stfr M' M'') : stfr M M'' := ⟨fun c h1 h2 h3 => (h'.1 c h1 h2 h3).trans (h.1 c h1 h2 h3), fun i hi => (h'.2 i hi).trans (h.2 i hi)⟩
theorem come_mono {kept : Nat → Int32} {q : Stt} {s b : Nat} {ov : Bool} {E : Nat → Int32} (hs : s ≤ 100) : (sp_come kept q s ov E b).1.2.1 ≤ 100 ∧ (ov = true → (sp_come kept q s ov E b).1.2.2 = true) := by
  unfold sp_come
  split
  · exact ⟨hs, fun z => z⟩
  · split
    · exact ⟨by show _ + 1 ≤ 100; omega, fun z => z⟩
    · exact ⟨hs, fun _ => rfl⟩
theorem wk_229 (hK : mc_closed true tab0 n 0 none (shR_work g (d + 1)) Q (fun _ _ _ => False) tbR_work K) {D : Int32} (hT : nt_ok T m) (hR : mxR T m P D M) {kept : Nat → Int32} (hkp : ∀ b, b < 16 → kept b = (255 &&& (D ^^^ (-1))) &&& sp_Y T P b) {k b s : Nat} {q : Stt} (hb : b < 16) (hs : s ≤ 100) (h18 : M 64 18 = nI s) (hst : mst M kept q s) (hw : qwf kept q s) {w nd : Int32} {op ot : Bool} {E : Nat → Int32} (hE : agr (255 &&& (D ^^^ (-1))) (T 4 (P b).2.2.2.1.1 ||| sp_at (sp_Y T P) (P b).2.2.2.2.1 ||| sp_at (sp_Y T P) (P b).2.2.2.2.2) E (M 78))
    (hop : op = true ↔ (P b).2.2.1 = 1 ∧ ¬ (T 4 (P b).2.2.2.1.1 &&& D) = 0) (hot : ot = true ↔ (P b).2.2.1 = 1 ∧ (T 4 (P b).2.2.2.1.1 &&& D) = 0 ∧ nd_val (T 0) (T 1) (T 2) (M 78) (P b).2.2.2.1.1 = 0)
    (h : ∀ one two M1, wkJ M M1 kept (sp_mixj T (255 &&& (D ^^^ (-1))) kept q s false E (P b)) one two → K 290 [some (.ref 64), some (.int (nI k)), some (.int w), some (.int (nI b)), some (.int nd), some (.int (bI op)), some (.int (bI ot)), some (.int one), some (.int two)] [] n M1 L) :
    K 229 [some (.ref 64), some (.int (nI k)), some (.int w), some (.int (nI b)), some (.int nd), some (.int (bI op)), some (.int (bI ot)), none, none] [] n M L := by
  have hR' := hR
  obtain ⟨hN, hP, hJ, h21, hY⟩ := hR
  have hm150 := hT.1
  obtain ⟨q0, q1, q2, q3⟩ := hJ b hb
  have vb : vp_in (nI b) 16 := vp_in_nI hb (by decide)
  have eb : (nI b).toNatClampNeg = b := nI_clamp (by omega)
  have e73 : M 73 (nI b).toNatClampNeg = (P b).2.2.1 := by rw [eb, q0]
  have tk := t4_known hT D (P b).2.2.2.1.1
  generalize hS : (255 &&& (D ^^^ (-1)) : Int32) = S at *
  unfold sp_mixj at h
  rw [tk] at h
  rcases q3 with ⟨k0, k1, ⟨t, ht, k2, k3⟩, k4⟩ | ⟨k0, k1, ⟨t, ht, k2, k3⟩, ⟨u, hu, k4, k5⟩⟩ | ⟨k0, k1, k2⟩
  · have o0 : op = false := by
      cases op with
      | false => rfl
      | true => have := (hop.mp rfl).1; rw [k0] at this; exact absurd this (by decide)
    have o1 : ot = false := by
      cases ot with
      | false => rfl
      | true => have := (hot.mp rfl).1; rw [k0] at this; exact absurd this (by decide)
    subst o0
    subst o1
    rw [k0, if_neg (by decide), if_neg (fun z => absurd z.1 (by decide)), if_pos (Or.inl rfl), k2, nI_clamp (by omega)] at h
    have n2 : ¬ M 73 (nI b).toNatClampNeg = 2 := by rw [e73, k0]; decide
    have e75 : M 75 (nI b).toNatClampNeg = nI t := by rw [eb, k3]
    have aE := agr_at (X := sp_Y T P) ht hE (fun v hv hx => by rw [fl_bit_or _ _ hv, fl_bit_or _ _ hv, k2, hx]; simp) (hkp t ht)
    exact hK.1 [290] 80 229 _ _ _ _ _ ⟨vb, fun _ => ⟨fun _ => ⟨vb, cR_stateC e75 ht hs h18 (kept_bit (by rw [hS]; exact hkp) hR' ht) hst hw aE (by omega) (fun ov r M1 hr fr a1 a2 => ⟨fun _ => h r (-1) M1 ⟨fr, fun _ => ⟨a1, a2, hr, rfl⟩, fun z => by rw [ov] at z; cases z⟩, fun z => absurd rfl z⟩) (fun ov r M1 fr a1 => ⟨fun _ => h r (-1) M1 ⟨fr, fun z => (by rw [ov] at z; cases z), fun _ => a1⟩, fun z => absurd rfl z⟩)⟩, fun z => absurd rfl z⟩, fun z => absurd z n2⟩
  · have n2 : ¬ M 73 (nI b).toNatClampNeg = 2 := by rw [e73, k0]; decide
    have e75 : M 75 (nI b).toNatClampNeg = nI t := by rw [eb, k3]
    have e76 : M 76 (nI b).toNatClampNeg = nI u := by rw [eb, k5]
    have aE := agr_at (X := sp_Y T P) ht hE (fun v hv hx => by rw [fl_bit_or _ _ hv, fl_bit_or _ _ hv, k2, hx]; simp) (hkp t ht)
    have aF := agr_at (X := sp_Y T P) hu hE (fun v hv hx => by rw [fl_bit_or _ _ hv, fl_bit_or _ _ hv, k4, hx]; simp) (hkp u hu)
    rw [k0, if_neg (by decide)] at h
    cases op with
    | true =>
      have po := (hop.mp rfl).2
      have o1 : ot = false := by
        cases ot with
        | false => rfl
        | true => exact absurd (hot.mp rfl).2.1 po
      subst o1
      rw [if_pos ⟨rfl, po⟩, k2, k4, nI_clamp (by omega), nI_clamp (by omega)] at h
      obtain ⟨m1, m2⟩ := come_mono (kept := kept) (q := q) (b := t) (ov := false) (E := E) hs
      refine hK.1 [290] 80 229 _ _ _ _ _ ⟨vb, fun _ => ⟨fun _ => ⟨vb, cR_stateC e75 ht hs h18 (kept_bit (by rw [hS]; exact hkp) hR' ht) hst hw aE (by omega) (fun ov r M1 hr fr a1 a2 => ⟨fun z => absurd z (by decide), fun _ => ?_⟩) (fun ov r M1 fr a1 => ⟨fun z => absurd z (by decide), fun _ => ?_⟩)⟩, fun z => absurd rfl z⟩, fun z => absurd z n2⟩
      · have hR1 : mxR T m P D M1 := mxR_to hR' (fr.2 1 (by decide)) (fr.2 21 (by decide)) (fun c h1 h2 h3 h4 h5 h6 h7 => fr.1 c (by omega) h6 h7)
        have vb1 : vp_in (nI b) 16 := vb
        have e76' : M1 76 (nI b).toNatClampNeg = nI u := by rw [fr.1 76 (by decide) (by decide) (by decide), e76]
        have e78 : M1 78 = M 78 := fr.1 78 (by decide) (by decide) (by decide)
        rw [ov] at h
        refine ⟨vb, cR_stateC e76' hu m1 a1 (kept_bit (by rw [hS]; exact hkp) hR1 hu) a2 (qwf_come hw) (by rw [e78]; exact aF) (by omega) (fun ov2 r2 M2 hr2 fr2 b1 b2 => ?_) (fun ov2 r2 M2 fr2 b1 => ?_)⟩
        · exact h r r2 M2 ⟨stfr_tr fr fr2, fun _ => ⟨b1, b2, hr, hr2⟩, fun z => by rw [ov2] at z; cases z⟩
        · exact h r r2 M2 ⟨stfr_tr fr fr2, fun z => (by rw [ov2] at z; cases z), fun _ => b1⟩
      · have e76' : M1 76 (nI b).toNatClampNeg = nI u := by rw [fr.1 76 (by decide) (by decide) (by decide), e76]
        rw [ov] at h
        obtain ⟨m3, m4⟩ := come_mono (kept := kept) (q := (sp_come kept q s false E t).1.1) (b := u) (ov := true) (E := E) m1
        have ov2 := m4 rfl
        exact ⟨vb, cR_stateG e76' hu a1 (Nat.le_refl _) rfl (by omega) (fun j _ _ _ r2 hr2 => h r r2 M1 ⟨fr, fun z => (by rw [ov2] at z; cases z), fun _ => a1⟩) (fun _ r2 => h r r2 M1 ⟨fr, fun z => (by rw [ov2] at z; cases z), fun _ => a1⟩) (fun z => by omega)⟩
    | false =>
      have kn : (T 4 (P b).2.2.2.1.1 &&& D) = 0 := Classical.byContradiction (fun z => by have := hop.mpr ⟨k0, z⟩; cases this)
      rw [if_neg (fun z => z.2 kn)] at h
      have ev : nd_val (T 0) (T 1) (T 2) E (P b).2.2.2.1.1 = nd_val (T 0) (T 1) (T 2) (M 78) (P b).2.2.2.1.1 := by
        refine nd_val_env hT _ (fun v hv hb => hE v hv ?_ ?_)
        · rw [← hS, st_bit D hv, and_0_bit kn hv hb]
          rfl
        · rw [fl_bit_or _ _ hv, fl_bit_or _ _ hv, hb]
          rfl
      cases ot with
      | true =>
        have v0 := (hot.mp rfl).2.2
        rw [if_neg (fun z => by rcases z with z | z; exact absurd z (by decide); exact z (ev.trans v0)), k4, nI_clamp (by omega)] at h
        exact hK.1 [290] 80 229 _ _ _ _ _ ⟨vb, fun _ => ⟨fun z => absurd z (by decide), fun _ => ⟨vb, cR_stateC e76 hu hs h18 (kept_bit (by rw [hS]; exact hkp) hR' hu) hst hw aF (by omega) (fun ov r M1 hr fr a1 a2 => ⟨fun _ => h r (-1) M1 ⟨fr, fun _ => ⟨a1, a2, hr, rfl⟩, fun z => by rw [ov] at z; cases z⟩, fun z => absurd rfl z⟩) (fun ov r M1 fr a1 => ⟨fun _ => h r (-1) M1 ⟨fr, fun z => (by rw [ov] at z; cases z), fun _ => a1⟩, fun z => absurd rfl z⟩)⟩⟩, fun z => absurd z n2⟩
      | false =>
        have v0 : ¬ nd_val (T 0) (T 1) (T 2) E (P b).2.2.2.1.1 = 0 := fun z => by
          have := hot.mpr ⟨k0, kn, ev.symm.trans z⟩
          cases this
        rw [if_pos (Or.inr v0), k2, nI_clamp (by omega)] at h
        exact hK.1 [290] 80 229 _ _ _ _ _ ⟨vb, fun _ => ⟨fun _ => ⟨vb, cR_stateC e75 ht hs h18 (kept_bit (by rw [hS]; exact hkp) hR' ht) hst hw aE (by omega) (fun ov r M1 hr fr a1 a2 => ⟨fun _ => h r (-1) M1 ⟨fr, fun _ => ⟨a1, a2, hr, rfl⟩, fun z => by rw [ov] at z; cases z⟩, fun z => absurd rfl z⟩) (fun ov r M1 fr a1 => ⟨fun _ => h r (-1) M1 ⟨fr, fun z => (by rw [ov] at z; cases z), fun _ => a1⟩, fun z => absurd rfl z⟩)⟩, fun z => absurd rfl z⟩, fun z => absurd z n2⟩
  · have y2 : M 73 (nI b).toNatClampNeg = 2 := by rw [e73, k0]
    have o0 : op = false := by
      cases op with
      | false => rfl
      | true => have := (hop.mp rfl).1; rw [k0] at this; exact absurd this (by decide)
    subst o0
    rw [k0, if_pos rfl] at h
    exact hK.1 [290] 80 229 _ _ _ _ _ ⟨vb, fun z => absurd y2 z, fun _ => ⟨fun _ => h (-1) (-1) M ⟨⟨fun _ _ _ _ => rfl, fun _ _ => rfl⟩, fun _ => ⟨h18, hst, rfl, rfl⟩, fun z => by cases z⟩, fun z => absurd rfl z⟩⟩
end WK
