/-! The model's compress and about -/
theorem nu_f : ∀ nb, nu (fun _ => false) nb = nb
  | 0 => rfl
  | nb + 1 => by
    unfold nu
    rw [if_neg (by decide), nu_f nb]
theorem tgs_jm {R : Nat → Blk} {nb : Nat} (h : tgs R (fun _ => false) nb) : ∀ b, b < nb → jm_ok (R b).2.2 nb := fun b hb => by
  rcases h b hb rfl with z | ⟨z1, ⟨t, ht, -, z2⟩, z3⟩ | ⟨z1, ⟨t, ht, -, z2⟩, ⟨u, hu, -, z3⟩⟩
  · exact Or.inl z
  · exact Or.inr (Or.inl ⟨z1, ⟨t, ht, z2⟩, z3⟩)
  · exact Or.inr (Or.inr ⟨z1, ⟨t, ht, z2⟩, ⟨u, hu, z3⟩⟩)
theorem jm_tgs {R : Nat → Blk} {nb : Nat} (h : ∀ b, b < nb → jm_ok (R b).2.2 nb) : tgs R (fun _ => false) nb := fun b hb _ => by
  rcases h b hb with z | ⟨z1, ⟨t, ht, z2⟩, z3⟩ | ⟨z1, ⟨t, ht, z2⟩, ⟨u, hu, z3⟩⟩
  · exact Or.inl z
  · exact Or.inr (Or.inl ⟨z1, ⟨t, ht, rfl, z2⟩, z3⟩)
  · exact Or.inr (Or.inr ⟨z1, ⟨t, ht, rfl, z2⟩, ⟨u, hu, rfl, z3⟩⟩)
section CZ
variable {g : mc_G} {d n : Nat} {M : mc_M} {L : mc_L} {Q : Option Value → mc_M → mc_L → Prop} {T : Nat → Nat → Int32} {m : Nat}
theorem cR_compress (hT : nt_ok T m) (hN : nt_R M T m) {D : Int32} (h24 : M 64 24 = D) {nb pb : Nat} (h23 : M 64 23 = nI nb) (hnb : nb ≤ 100) {R : Nat → Blk} {PS : Nat → List Nat} (hR : mrs T m (255 &&& (D ^^^ (-1))) M pb nb R PS) (hg : ∀ b, b < nb → M 84 b = 0) (hjm : ∀ b, b < nb → jm_ok (R b).2.2 nb) (hd : 5 ≤ d)
    (h1 : nb = 0 → ∀ M', M' = mc_put M 64 0 1 → Q (some (.int 0)) M' L)
    (h0 : 0 < nb → ∀ M' PS', mxf M M' → M' 64 23 = nI (sp_comp nb R).1 → M' 64 24 = D → (sp_comp nb R).1 ≤ nb → mrs T m (255 &&& (D ^^^ (-1))) M' pb (sp_comp nb R).1 (sp_comp nb R).2 PS' → (∀ b, b < (sp_comp nb R).1 → M' 84 b = 0) → txR M' (sp_tx T (255 &&& (D ^^^ (-1))) (sp_comp nb R).1 (sp_comp nb R).2) → (∀ b, b < (sp_comp nb R).1 → jm_ok ((sp_comp nb R).2 b).2.2 (sp_comp nb R).1) → ∀ r, r = nI (sp_comp nb R).1 → Q (some (.int r)) M' L) : ctR_compress g d [.ref 64] n M L Q := by
  obtain ⟨d, rfl⟩ := Nat.exists_eq_add_of_le' (show 1 ≤ d by omega)
  by_cases z0 : nb = 0
  · have c0 : M 64 23 ≤ 0 := by rw [h23, z0]; decide
    exact inR_compress (Nat.le_of_ble_eq_true rfl) (fun K hK => hK.1 [24] 60 0 _ _ _ _ _ ⟨fun _ => cR_goes (one := false) (two := true) rfl rfl (by omega) (fun z => by cases z) (fun _ M' hM => ⟨fun z => absurd rfl z, fun _ => ⟨Nat.le_refl _, h1 z0 M' hM⟩⟩) (fun z => by cases z), fun z => absurd c0 z⟩)
  · have hpos : 0 < nb := by omega
    have c0 : ¬ M 64 23 ≤ 0 := by rw [h23]; exact nI_nle hpos (by omega)
    have h0' := h0 hpos
    refine inR_compress (Nat.le_of_ble_eq_true rfl) (fun K hK => hK.1 [24] 60 0 _ _ _ _ _ ⟨fun z => absurd z c0, fun _ => cR_goes (one := true) (two := true) rfl rfl (by omega) (fun _ _ M1 hM1 => ⟨fun _ => ?_, fun z => absurd z (by decide)⟩) (fun z => by cases z) (fun _ z => by cases z)⟩)
    have o1 : ∀ c, c ≠ 64 → M1 c = M c := fun c hc => by
      rw [hM1]
      funext w
      rw [mc_put_at, if_neg (fun z => hc z.1)]
    have f1 : cmf M M1 := ⟨fun c h1 _ => o1 c h1, fun i hi => by rw [hM1, mc_put_at, if_neg (fun z => hi z.2)], by rw [hM1, mc_put_at, if_pos ⟨rfl, rfl⟩]⟩
    have mg1 : mrg T m (255 &&& (D ^^^ (-1))) M1 pb nb R (fun _ => false) PS := ⟨fun b hb _ => mblk_to (hR.1 b hb) (Nat.le_refl _) (fun c hc => by rw [o1 c (by omega)]) (fun j _ => ⟨by rw [o1 91 (by decide)], by rw [o1 92 (by decide)], by rw [o1 93 (by decide)]⟩) (fun j v _ _ => by rw [o1 94 (by decide)]), fun b c hb hc _ _ => hR.2 b c hb hc⟩
    have htg0 := jm_tgs hjm
    generalize hp : sp_cw nb nb (R, fun _ => false) = p
    have eC : sp_comp nb R = (nu p.2 nb, fun i => sp_rn p.2 (p.1 (sp_iv p.2 nb i))) := by
      unfold sp_comp
      rw [hp]
    rw [eC] at h0'
    refine cmp_join hK (by omega) hnb hpos h23 (p := p) (fun M2 PS2 a f2 mg2 g2 tg2 => ?_) nb R (fun _ => false) PS M1 none (nu_f nb) f1 mg1 (fun b hb => by rw [o1 84 (by decide), hg b hb]; rfl) htg0 hp.symm
    have hle := nu_le p.2 nb
    have h23' : M2 64 23 = nI nb := by rw [f2.2.1 23 (by decide), h23]
    refine hK.1 [104] 20 100 _ _ _ _ _ (cmp_num hK hnb h23' g2 (fun M3 i e1 e2 => ?_) nb 0 0 0 M2 rfl rfl rfl (fun _ _ => rfl) (fun j hj => absurd hj (Nat.not_lt_zero _)))
    refine hK.1 [144] 20 142 _ _ _ _ _ (cmp_copy (pb := pb) (S := 255 &&& (D ^^^ (-1))) (PS := PS2) hK (by omega) hnb (by rw [e1 64 (by decide)]; exact h23') (fun b hb => by rw [e1 84 (by decide)]; exact g2 b hb) e2 tg2 (fun M4 i4 q1 q2 => ?_) nb 0 0 M3 rfl rfl (fun _ _ => rfl) (fun j hj => absurd hj (Nat.not_lt_zero _)) (fun j _ hj gj => mblk_to (mg2.1 j hj gj) (Nat.le_refl _) (fun c hc => by rw [e1 c (by omega)]) (fun j _ => ⟨by rw [e1 91 (by decide)], by rw [e1 92 (by decide)], by rw [e1 93 (by decide)]⟩) (fun j v _ _ => by rw [e1 94 (by decide)])))
    have x4 : ∀ c, c ≠ 64 → (c < 83 ∨ 91 < c) → c ≠ 95 → M4 c = M c := fun c h1 h2 h3 => by rw [q1 c (by omega), e1 c h3, f2.1 c h1 (by omega)]
    have x4i : ∀ i, i ≠ 0 → M4 64 i = M 64 i := fun i hi => by rw [q1 64 (by omega), e1 64 (by decide), f2.2.1 i hi]
    have x40 : M4 64 0 = 0 := by rw [q1 64 (by omega), e1 64 (by decide), f2.2.2]
    -- the blocks that are left, by their new numbers
    have bl : ∀ M5 : mc_M, (∀ c, 83 ≤ c → c ≤ 94 → c ≠ 84 → M5 c = M4 c) → mrs T m (255 &&& (D ^^^ (-1))) M5 pb (nu p.2 nb) (fun i => sp_rn p.2 (p.1 (sp_iv p.2 nb i))) (fun i => PS2 (sp_iv p.2 nb i)) := fun M5 w => by
      refine ⟨fun i hi => ?_, fun i c hi hc hic => ?_⟩
      · obtain ⟨a1, a2, a3⟩ := sp_iv_ok hi
        have := q2 _ a1 a2
        rw [a3] at this
        exact mblk_to this (Nat.le_refl _) (fun c hc => by rw [w c (by omega) (by omega) (by omega)]) (fun j _ => ⟨by rw [w 91 (by omega) (by omega) (by omega)], by rw [w 92 (by omega) (by omega) (by omega)], by rw [w 93 (by omega) (by omega) (by omega)]⟩) (fun j v _ _ => by rw [w 94 (by omega) (by omega) (by omega)])
      · obtain ⟨a1, a2, a3⟩ := sp_iv_ok hi
        obtain ⟨b1, b2, b3⟩ := sp_iv_ok hc
        exact mg2.2 _ _ a1 b1 a2 b2 (fun z => hic (by rw [← a3, ← b3, z]))
    have tgF : tgs (fun i => sp_rn p.2 (p.1 (sp_iv p.2 nb i))) (fun _ => false) (nu p.2 nb) := tgs_rn hnb tg2
    have jmF := tgs_jm tgF
    have lpE : ∀ (r k : Nat) (i : Int32) (M5 : mc_M), r + k = nu p.2 nb → i = nI k → (∀ c, c ≠ 64 → c ≠ 84 → M5 c = M4 c) → (∀ i, i ≠ 23 → M5 64 i = M4 64 i) → M5 64 23 = nI (nu p.2 nb) → (∀ j, j < k → M5 84 j = 0) → K 257 [some (.ref 64), some (.int 0), some (.int (nI (nu p.2 nb))), some (.int i), none] [] n M5 L := by
      intro r
      induction r with
      | zero =>
        intro k i M5 hr hi w1 w2 w3 w4
        subst hi
        have c1 : M5 64 23 ≤ nI k := by rw [w3]; exact nI_le (by omega) (by omega)
        have bl5 := bl M5 (fun c _ _ hc => w1 c (by omega) hc)
        have hN5 : nt_R M5 T m := nt_R_to hN (by rw [w2 1 (by decide), x4i 1 (by decide)]) (fun c _ _ => by rw [w1 c (by omega) (by omega), x4 c (by omega) (by omega) (by omega)])
        have h24' : M5 64 24 = D := by rw [w2 24 (by decide), x4i 24 (by decide), h24]
        refine hK.1 [] 40 257 _ _ _ _ _ ⟨fun _ => cR_write hT hN5 h24' w3 (by omega) (fun b hb => ⟨_, bl5.1 b hb⟩) (fun b hb => ?_) (sp_tx_len hT (by omega) (mrs_len bl5)) (by omega) (fun M6 s1 s2 => ⟨Nat.le_refl _, ?_⟩), fun z => absurd c1 z⟩
        · rcases jmF b hb with z | z | z
          · exact Or.inr (Or.inr z.1)
          · exact Or.inl z.1
          · exact Or.inr (Or.inl z.1)
        · refine h0' M6 _ ⟨fun c h1 h2 => ?_, ?_, fun i hi => ?_⟩ ((s1.2 23 (by decide)).trans w3) ((s1.2 24 (by decide)).trans h24') hle (bl M6 (fun c h1 h2 h3 => by rw [s1.1 c (by omega) (by omega) (by omega) (by omega) (by omega), w1 c (by omega) h3])) (fun b hb => ?_) s2 jmF _ ((s1.2 23 (by decide)).trans w3)
          · rw [s1.1 c h1 (by omega) (by omega) (by omega) (by omega), w1 c h1 (by omega), x4 c h1 (by omega) (by omega)]
          · rw [s1.2 0 (by decide), w2 0 (by decide), x40]
          · rw [s1.2 i (by omega), w2 i (by omega), x4i i (by omega)]
          · have hb' : b < nu p.2 nb := hb
            rw [s1.1 84 (by decide) (by decide) (by decide) (by decide) (by decide)]
            exact w4 b (by omega)
      | succ r ih =>
        intro k i M5 hr hi w1 w2 w3 w4
        subst hi
        have c1 : ¬ M5 64 23 ≤ nI k := by rw [w3]; exact nI_ge (by omega) (by omega)
        have vk : vp_in (nI k) 100 := vp_in_nI (by omega) (by decide)
        refine hK.1 [257] 40 257 _ _ _ _ _ ⟨fun z => absurd z c1, fun _ => ⟨vk, ?_⟩⟩
        rw [nI_clamp (by omega), nar_b0]
        refine ih (k + 1) _ _ (by omega) (nI_1 k) (fun c h1 h2 => ?_) (fun i hi => ?_) ?_ (fun j hj => ?_)
        · funext w
          rw [mc_put_at, if_neg (fun z => h2 z.1), w1 c h1 h2]
        · rw [mc_put_at, if_neg (fun z => absurd z.1 (by decide)), w2 i hi]
        · rw [mc_put_at, if_neg (fun z => absurd z.1 (by decide)), w3]
        · rw [mc_put_at]
          by_cases e : j = k
          · rw [if_pos ⟨rfl, e⟩]
          · rw [if_neg (fun z => e z.2), w4 j (by omega)]
    refine hK.1 [257] 20 250 _ _ _ _ _ (lpE (nu p.2 nb) 0 0 _ rfl rfl (fun c h1 h2 => ?_) (fun i hi => ?_) ?_ (fun j hj => absurd hj (Nat.not_lt_zero _)))
    · funext w
      rw [mc_put_at, if_neg (fun z => h1 z.1)]
    · rw [mc_put_at, if_neg (fun z => hi z.2)]
    · rw [mc_put_at, if_pos ⟨rfl, rfl⟩]
theorem cR_about {D : Int32} {nb pb : Nat} (h23 : M 64 23 = nI nb) (hnb : nb ≤ 100) {R : Nat → Blk} {PS : Nat → List Nat} {S : Int32} (hR : ∀ b, b < nb → mblk T m S M pb b (R b) (PS b)) {x y : Int32} (hd : 2 ≤ d) (h1 : ¬ (∃ b, b < nb ∧ x = nI b) → ∀ M', M' = mc_put M 64 0 1 → Q (some (.int 0)) M' L) (h2 : ∀ b, b < nb → x = nI b → ¬ (0 ≤ y ∧ y ≤ 4) → ∀ M', M' = mc_put M 64 0 2 → Q (some (.int 0)) M' L)
    (h0 : ∀ b, b < nb → x = nI b → 0 ≤ y → y ≤ 4 → ∀ r M', r = (if y = 0 then (R b).1 else if y = 1 then nI (R b).2.1.length else if y = 2 then (R b).2.2.1 else if y = 3 then (R b).2.2.2.2.1 else (R b).2.2.2.2.2) → M' = mc_put M 64 0 0 → Q (some (.int r)) M' L) : ctR_about g d [.ref 64, .int x, .int y] n M L Q := by
  obtain ⟨d, rfl⟩ := Nat.exists_eq_add_of_le' (show 1 ≤ d by omega)
  have no : ¬ (∃ b, b < nb ∧ x = nI b) → ∀ (K : mc_K), mc_closed true tab0 n 0 (some .int) (shR_about g d) Q (fun _ _ _ => False) tbR_about K → K 18 [some (.ref 64), some (.int x), some (.int y), none, none] [.int 0, .ref 64] n M L := fun hn K hK =>
    hK.1 [] 60 18 _ _ _ _ _ (cR_within (by omega) (fun _ _ => cR_goes (one := false) (two := true) rfl rfl (by omega) (fun z => by cases z) (fun _ M' hM => ⟨fun z => absurd rfl z, fun _ => ⟨Nat.le_refl _, h1 hn M' hM⟩⟩) (fun z => by cases z)) (fun _ => cR_goes (one := false) (two := false) rfl rfl (by omega) (fun z => by cases z) (fun _ M' hM => ⟨fun z => absurd rfl z, fun _ => ⟨Nat.le_refl _, h1 hn M' hM⟩⟩) (fun z => by cases z)))
  refine inR_about (Nat.le_of_ble_eq_true rfl) (fun K hK => hK.1 [18] 60 0 _ _ _ _ _ ⟨fun w => no ?_ K hK, fun w => ⟨fun w1 => no ?_ K hK, fun w1 => ?_⟩⟩)
  · rintro ⟨i, hi, e⟩
    rw [e] at w
    exact nI_pos (by omega) w
  · rintro ⟨i, hi, e⟩
    rw [e, h23] at w1
    exact nI_ge hi (by omega) w1
  · rw [h23] at w1
    obtain ⟨b, hb, e⟩ := nI_lt_of (by omega) w w1
    subst e
    have vb : vp_in (nI b) 100 := vp_in_nI (by omega) (by decide)
    have eb : (nI b).toNatClampNeg = b := nI_clamp (by omega)
    obtain ⟨a1, a2, a3, a4, a5, a6, a7, -, a9, a10⟩ := hR b hb
    refine hK.1 [42] 60 18 _ _ _ _ _ (cR_within (by omega) (fun l0 l4 => cR_goes (one := true) (two := true) rfl rfl (by omega) (fun _ _ M1 hM1 => ⟨fun _ => ⟨vb, ?_⟩, fun z => absurd z (by decide)⟩) (fun z => by cases z) (fun _ z => by cases z)) (fun w => cR_goes (one := true) (two := false) rfl rfl (by omega) (fun _ z => by cases z) (fun z => by cases z) (fun _ _ M' hM => ⟨fun z => absurd rfl z, fun _ => ⟨Nat.le_refl _, h2 b hb rfl w M' hM⟩⟩)))
    have o1 : ∀ c, c ≠ 64 → M1 c = M c := fun c hc => by
      rw [hM1]
      funext w
      rw [mc_put_at, if_neg (fun z => hc z.1)]
    have h0' := h0 b hb rfl l0 l4
    have lp : ∀ (ps : List Nat) (z i : Int32) (c : Nat), pch (M 91) z ps → i = nI c → c + ps.length = (PS b).length → K 42 [some (.ref 64), some (.int (nI b)), some (.int y), some (.int i), some (.int z)] [] n M1 L := by
      intro ps
      induction ps with
      | nil =>
        intro z i c hp hi hc
        have hz : z = -1 := hp
        have hi' : i = nI (R b).2.1.length := by
          rw [hi, a6, List.length_map, ← hc]
          rfl
        have q : ∀ r, r = (if y = 0 then (R b).1 else if y = 1 then nI (R b).2.1.length else if y = 2 then (R b).2.2.1 else if y = 3 then (R b).2.2.2.2.1 else (R b).2.2.2.2.2) → Q (some (.int r)) M1 L := fun r hr => h0' r M1 hr hM1
        have e83 : M1 83 (nI b).toNatClampNeg = (R b).1 := by rw [eb, o1 83 (by decide), a1]
        have e87 : M1 87 (nI b).toNatClampNeg = (R b).2.2.1 := by rw [eb, o1 87 (by decide), a7]
        have e88 : M1 88 (nI b).toNatClampNeg = (R b).2.2.2.2.1 := by rw [eb, o1 88 (by decide), a9]
        have e89 : M1 89 (nI b).toNatClampNeg = (R b).2.2.2.2.2 := by rw [eb, o1 89 (by decide), a10]
        exact hK.1 [] 60 42 _ _ _ _ _ ⟨fun _ => ⟨fun y0 => ⟨vb, Nat.le_refl _, q _ (by rw [e83, if_pos y0])⟩, fun y0 => ⟨fun y1 => ⟨Nat.le_refl _, q _ (by rw [hi', if_neg y0, if_pos y1])⟩, fun y1 => ⟨fun y2 => ⟨vb, Nat.le_refl _, q _ (by rw [e87, if_neg y0, if_neg y1, if_pos y2])⟩, fun y2 => ⟨fun y3 => ⟨vb, Nat.le_refl _, q _ (by rw [e88, if_neg y0, if_neg y1, if_neg y2, if_pos y3])⟩, fun y3 => ⟨trivial, vb, Nat.le_refl _, q _ (by rw [e89, if_neg y0, if_neg y1, if_neg y2, if_neg y3])⟩⟩⟩⟩⟩, fun w => absurd hz w⟩
      | cons p ps ih =>
        intro z i c hp hi hc
        obtain ⟨hz, hp1, hp2⟩ := hp
        subst hz
        have n1 : ¬ nI p = -1 := nI_ne_m1 (by omega)
        have vp : vp_in (nI p) 1100 := vp_in_nI hp1 (by decide)
        have ep : M1 91 (nI p).toNatClampNeg = M 91 p := by rw [nI_clamp (by omega), o1 91 (by decide)]
        refine hK.1 [42] 60 42 _ _ _ _ _ ⟨fun z => absurd z n1, fun _ => ⟨vp, ?_⟩⟩
        rw [ep]
        exact ih _ _ (c + 1) hp2 (by rw [hi, nI_1]) (by rw [← hc, List.length_cons]; omega)
    have e85 : M1 85 (nI b).toNatClampNeg = M 85 b := by rw [eb, o1 85 (by decide)]
    rw [e85]
    exact lp (PS b) _ _ 0 a2 rfl (by omega)
end CZ
