/-! The model's smaller calls -/
def tz (T : Nat → Nat → Int32) (q a b : Int32) : Int32 := if 1 < q then 1 + T 3 a.toNatClampNeg + T 3 b.toNatClampNeg else 1
def tv (T : Nat → Nat → Int32) (q a b : Int32) : Int32 := if q = 0 then 0 else if q = 1 then 1 <<< (a &&& 31) else T 4 a.toNatClampNeg ||| T 4 b.toNatClampNeg
theorem nd_can_q {m : Nat} {q a b : Int32} (h : nd_can m q a b) : 0 ≤ q ∧ q ≤ 6 := by
  rcases h with h | ⟨h, -⟩ | ⟨h1, h2, -⟩
  · rw [h]; decide
  · rw [h]; decide
  · exact ⟨Int32.le_trans (by decide) h1, h2⟩
theorem q_01 {q : Int32} (h0 : 0 ≤ q) (h2 : q < 2) (h1 : ¬ q = 1) : q = 0 := by
  obtain ⟨j, hj, e⟩ := nI_lt_of (x := q) (m := 2) (by decide) (Int32.not_lt.mpr h0) (Int32.not_le.mpr h2)
  have : j = 0 ∨ j = 1 := by omega
  rcases this with rfl | rfl
  · exact e
  · exact absurd e h1
theorem q_012 {q : Int32} (h0 : 0 ≤ q) (h2 : q ≤ 2) (h1 : ¬ q = 1) (h3 : ¬ q = 2) : q = 0 := by
  obtain ⟨j, hj, e⟩ := nI_lt_of (x := q) (m := 3) (by decide) (Int32.not_lt.mpr h0) (fun z => absurd (Int32.le_trans z h2) (by decide))
  have : j = 0 ∨ j = 1 ∨ j = 2 := by omega
  rcases this with rfl | rfl | rfl
  · exact e
  · exact absurd e h1
  · exact absurd e h3
section RC
variable {g : mc_G} {d n : Nat} {M : mc_M} {L : mc_L} {Q : Option Value → mc_M → mc_L → Prop} {T : Nat → Nat → Int32} {m : Nat} {P : Nat → Blk}
def mc_nodeR (M : mc_M) (T : Nat → Nat → Int32) (m : Nat) (q a b : Int32) : mc_M := mc_put (mc_put (mc_put (mc_put (mc_put (mc_put (mc_put (mc_put M 64 0 0) 65 m q) 66 m a) 67 m b) 68 m (tz T q a b)) 69 m (tv T q a b)) 64 7 (nd_mx (M 64 7) (tz T q a b))) 64 1 (nI (m + 1))
theorem cR_node (hm150 : m ≤ 150) (hN : nt_R M T m) {q a b : Int32} (hd : 2 ≤ d) (h1 : ¬ nd_can m q a b → ∀ M', M' = mc_put M 64 0 1 → Q (some (.int 0)) M' L) (h2 : nd_can m q a b → (60 < tz T q a b ∨ m = 150) → ∀ M', M' = mc_put M 64 0 2 → Q (some (.int 0)) M' L)
    (h0 : nd_can m q a b → ¬ 60 < tz T q a b → m < 150 → ∀ r M', r = nI m → M' = mc_nodeR M T m q a b → Q (some (.int r)) M' L) : ctR_node g d [.ref 64, .int q, .int a, .int b] n M L Q := by
  obtain ⟨d, rfl⟩ := Nat.exists_eq_add_of_le' (show 1 ≤ d by omega)
  have hm := hN.1
  have v1 : m < 150 → vp_in (M 64 1) 150 := fun z => by rw [hm]; exact vp_in_nI z (by decide)
  have em : (M 64 1).toNatClampNeg = m := by rw [hm]; exact nI_clamp (by omega)
  have fin : ∀ (K : mc_K), mc_closed true tab0 n 0 (some .int) (shR_node g d) Q (fun _ _ _ => False) tbR_node K → nd_can m q a b → ¬ 60 < tz T q a b → m < 150 → K 114 [some (.ref 64), some (.int q), some (.int a), some (.int b), some (.int 1), some (.int (tz T q a b))] [] n (mc_put M 64 0 0) L := fun K hK hc hz hl => by
    have vm := v1 hl
    have hq : ∀ r M', r = nI m → M' = mc_nodeR M T m q a b → Q (some (.int r)) M' L := h0 hc hz hl
    have er : M 64 1 + 1 - 1 = nI m := by rw [hm, nI_1, nI_pred]
    have go : ∀ r y g M', r = M 64 1 + 1 - 1 → y = tv T q a b → g = nd_mx (M 64 7) (tz T q a b) → M' = mc_put (mc_put (mc_put (mc_put (mc_put (mc_put (mc_put (mc_put M 64 0 0) 65 (M 64 1).toNatClampNeg q) 66 (M 64 1).toNatClampNeg a) 67 (M 64 1).toNatClampNeg b) 68 (M 64 1).toNatClampNeg (tz T q a b)) 69 (M 64 1).toNatClampNeg y) 64 7 g) 64 1 (M 64 1 + 1) → Q (some (.int r)) M' L := fun r y g M' hr hy hg hM => hq r M' (hr.trans er) (by
      rw [hM, hy, hg, em]
      unfold mc_nodeR
      rw [hm, nI_1])
    have gt : tz T q a b ≤ M 64 7 → M 64 7 = nd_mx (M 64 7) (tz T q a b) := fun z => by
      unfold nd_mx
      rw [if_neg (Int32.not_lt.mpr z)]
    have gf : ¬ tz T q a b ≤ M 64 7 → tz T q a b = nd_mx (M 64 7) (tz T q a b) := fun z => by
      unfold nd_mx
      rw [if_pos (Int32.not_le.mp z)]
    rcases hc with hc | ⟨hc, -⟩ | ⟨hc1, hc2, ⟨i, hi, ha⟩, ⟨j, hj, hb⟩⟩
    · have y0 : (0 : Int32) = tv T q a b := by
        unfold tv
        rw [if_pos hc]
      exact hK.1 [] 120 114 _ _ _ _ _ ⟨vm, vm, vm, vm, fun z => absurd hc z, fun _ => ⟨vm, fun z => ⟨Nat.le_refl _, go _ _ _ _ rfl y0 (gt z) rfl⟩, fun z => ⟨Nat.le_refl _, go _ _ _ _ rfl y0 (gf z) rfl⟩⟩⟩
    · have n0 : ¬ q = 0 := by rw [hc]; decide
      have y0 : 1 <<< (a &&& 31) = tv T q a b := by
        unfold tv
        rw [if_neg n0, if_pos hc]
      exact hK.1 [] 120 114 _ _ _ _ _ ⟨vm, vm, vm, vm, fun _ => ⟨fun z => absurd hc z, fun _ => ⟨vm, fun z => ⟨Nat.le_refl _, go _ _ _ _ rfl y0 (gt z) rfl⟩, fun z => ⟨Nat.le_refl _, go _ _ _ _ rfl y0 (gf z) rfl⟩⟩⟩, fun z => absurd z n0⟩
    · have n0 : ¬ q = 0 := fun z => by rw [z] at hc1; exact absurd hc1 (by decide)
      have n1 : ¬ q = 1 := fun z => by rw [z] at hc1; exact absurd hc1 (by decide)
      have va : vp_in a 150 := by rw [ha]; exact vp_in_nI (by omega) (by decide)
      have vb : vp_in b 150 := by rw [hb]; exact vp_in_nI (by omega) (by decide)
      have y0 : M 69 a.toNatClampNeg ||| M 69 b.toNatClampNeg = tv T q a b := by
        unfold tv
        have r1 : M 69 i = T 4 i := hN.2 4 (by decide) i hi
        have r2 : M 69 j = T 4 j := hN.2 4 (by decide) j hj
        rw [if_neg n0, if_neg n1, ha, hb, nI_clamp (by omega), nI_clamp (by omega), r1, r2]
      exact hK.1 [] 120 114 _ _ _ _ _ ⟨vm, vm, vm, vm, fun _ => ⟨fun _ => ⟨va, vb, vm, fun z => ⟨Nat.le_refl _, go _ _ _ _ rfl y0 (gt z) rfl⟩, fun z => ⟨Nat.le_refl _, go _ _ _ _ rfl y0 (gf z) rfl⟩⟩, fun z => absurd z n1⟩, fun z => absurd z n0⟩
  have no : ∀ (K : mc_K), mc_closed true tab0 n 0 (some .int) (shR_node g d) Q (fun _ _ _ => False) tbR_node K → ¬ nd_can m q a b → K 50 [some (.ref 64), some (.int q), some (.int a), some (.int b), some (.int 0), none] [] n M L := fun K hK hc => by
    have q1 := h1 hc
    exact hK.1 [114] 120 50 _ _ _ _ _ ⟨fun _ => ⟨fun z => absurd z (by decide), fun _ => ⟨fun _ => cR_goes (one := false) (two := false) rfl rfl (by omega) (fun z => by cases z) (fun _ M' hM => ⟨fun z => absurd rfl z, fun _ => ⟨Nat.le_refl _, q1 M' hM⟩⟩) (fun z => by cases z), fun _ => cR_goes (one := false) (two := true) rfl rfl (by omega) (fun z => by cases z) (fun _ M' hM => ⟨fun z => absurd rfl z, fun _ => ⟨Nat.le_refl _, q1 M' hM⟩⟩) (fun z => by cases z)⟩⟩, fun z => absurd rfl z⟩
  have yes : ∀ (K : mc_K), mc_closed true tab0 n 0 (some .int) (shR_node g d) Q (fun _ _ _ => False) tbR_node K → nd_can m q a b → K 50 [some (.ref 64), some (.int q), some (.int a), some (.int b), some (.int 1), none] [] n M L := fun K hK hc => by
    have q2 := h2 hc
    have af : ∀ s, s = tz T q a b → K 79 [some (.ref 64), some (.int q), some (.int a), some (.int b), some (.int 1), none] [.int s] n M L := fun s hs => by
      subst hs
      refine hK.1 [114] 120 79 _ _ _ _ _ ⟨fun z => cR_goes (one := true) (two := false) rfl rfl (by omega) (fun _ z => by cases z) (fun z => by cases z) (fun _ _ M' hM => ⟨fun z => absurd rfl z, fun _ => ⟨Nat.le_refl _, q2 (Or.inl z) M' hM⟩⟩), fun z => ⟨fun w => cR_goes (one := true) (two := false) rfl rfl (by omega) (fun _ z => by cases z) (fun z => by cases z) (fun _ _ M' hM => ⟨fun z => absurd rfl z, fun _ => ⟨Nat.le_refl _, q2 (Or.inr ?_) M' hM⟩⟩), fun w => cR_goes (one := true) (two := true) rfl rfl (by omega) (fun _ _ M' hM => ⟨fun _ => ?_, fun z => absurd z (by decide)⟩) (fun z => by cases z) (fun _ z => by cases z)⟩⟩
      · rw [hm] at w
        have := (nI_leI (a := 150) (b := m) (by decide) (by omega)).mp w
        omega
      · rw [hM]
        refine fin K hK hc z ?_
        rw [hm] at w
        exact Nat.lt_of_not_le (fun v => w (nI_le (a := 150) v (by omega)))
    by_cases hq : q ≤ 1
    · have s1 : (1 : Int32) = tz T q a b := by
        unfold tz
        rw [if_neg (Int32.not_lt.mpr hq)]
      exact hK.1 [79] 40 50 _ _ _ _ _ ⟨fun z => absurd z (by decide), fun _ => ⟨fun _ => af _ s1, fun z => absurd hq z⟩⟩
    · have q1 : 1 < q := Int32.not_le.mp hq
      obtain ⟨⟨i, hi, ha⟩, ⟨j, hj, hb⟩⟩ := nd_can_2 hc q1
      have va : vp_in a 150 := by rw [ha]; exact vp_in_nI (by omega) (by decide)
      have vb : vp_in b 150 := by rw [hb]; exact vp_in_nI (by omega) (by decide)
      have s1 : M 68 a.toNatClampNeg + M 68 b.toNatClampNeg + 1 = tz T q a b := by
        unfold tz
        have r1 : M 68 i = T 3 i := hN.2 3 (by decide) i hi
        have r2 : M 68 j = T 3 j := hN.2 3 (by decide) j hj
        rw [if_pos q1, ha, hb, nI_clamp (by omega), nI_clamp (by omega), r1, r2, Int32.add_comm _ 1, Int32.add_assoc]
      exact hK.1 [79] 40 50 _ _ _ _ _ ⟨fun z => absurd z (by decide), fun _ => ⟨fun z => absurd z hq, fun _ => ⟨va, vb, af _ s1⟩⟩⟩
  refine inR_node (Nat.le_of_ble_eq_true rfl) (fun K hK => hK.1 [50] 60 0 _ _ _ _ _ (cR_within (by omega) (fun l0 l6 => ⟨fun z => absurd z (by decide), fun _ => ⟨fun n1 => ⟨fun z2 => yes K hK (Or.inl (q_01 l0 z2 n1)), fun z2 => cR_isNode (by omega) hm hm150 (fun i hi ha => ⟨fun z => absurd z (by decide), fun _ => cR_isNode (by omega) hm hm150 (fun j hj hb => ⟨fun z => absurd z (by decide), fun _ => yes K hK (Or.inr (Or.inr ⟨Int32.not_lt.mp z2, l6, ⟨i, hi, ha⟩, ⟨j, hj, hb⟩⟩))⟩) (fun hb => ⟨fun _ => no K hK ?_, fun z => absurd rfl z⟩)⟩) (fun ha => ⟨fun _ => no K hK ?_, fun z => absurd rfl z⟩)⟩, fun y1 => cR_isVariable (by omega) (fun i hi ha => ⟨fun z => absurd z (by decide), fun _ => ⟨fun _ => yes K hK (Or.inr (Or.inl ⟨y1, i, hi, ha⟩)), fun z2 => absurd (show q < 2 by rw [y1]; decide) z2⟩⟩) (fun ha => ⟨fun _ => no K hK ?_, fun z => absurd rfl z⟩)⟩⟩) (fun nz => ⟨fun _ => no K hK (fun hc => nz (nd_can_q hc)), fun z => absurd rfl z⟩)))
  · rintro (hc | ⟨hc, -⟩ | ⟨-, -, -, j, hj, e⟩)
    · exact z2 (by rw [hc]; decide)
    · exact n1 hc
    · exact hb j hj e
  · rintro (hc | ⟨hc, -⟩ | ⟨-, -, ⟨j, hj, e⟩, -⟩)
    · exact z2 (by rw [hc]; decide)
    · exact n1 hc
    · exact ha j hj e
  · rintro (hc | ⟨-, j, hj, e⟩ | ⟨hc, -⟩)
    · rw [hc] at y1; exact absurd y1 (by decide)
    · exact ha j hj e
    · rw [y1] at hc; exact absurd hc (by decide)
end RC
