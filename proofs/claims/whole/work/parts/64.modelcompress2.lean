/-! The model's numbering anew, and compress -/
theorem nu_s0 {gone : Nat → Bool} {k : Nat} (h : gone k = false) : nu gone (k + 1) = nu gone k + 1 := by
  conv => lhs; unfold nu
  rw [h, if_neg (by decide)]
theorem nu_s1 {gone : Nat → Bool} {k : Nat} (h : gone k = true) : nu gone (k + 1) = nu gone k := by
  conv => lhs; unfold nu
  rw [h, if_pos rfl]
section CN
variable {g : mc_G} {d n : Nat} {M : mc_M} {L : mc_L} {Q : Option Value → mc_M → mc_L → Prop} {T : Nat → Nat → Int32} {m : Nat} {K : mc_K}
/-- the new numbers -/
theorem cmp_num (hK : mc_closed true tab0 n 0 (some .int) (shR_compress g d) Q (fun _ _ _ => False) tbR_compress K) {nb : Nat} (hnb : nb ≤ 100) (h23 : M 64 23 = nI nb) {gone : Nat → Bool} (hg : ∀ b, b < nb → M 84 b = bI (gone b))
    (h : ∀ M1 i, (∀ c, c ≠ 95 → M1 c = M c) → (∀ j, j < nb → M1 95 j = nI (nu gone j)) → K 142 [some (.ref 64), some (.int 0), some (.int (nI (nu gone nb))), some (.int i), none] [] n M1 L) :
    ∀ (r k : Nat) (i y : Int32) (M1 : mc_M), r + k = nb → i = nI k → y = nI (nu gone k) → (∀ c, c ≠ 95 → M1 c = M c) → (∀ j, j < k → M1 95 j = nI (nu gone j)) → K 104 [some (.ref 64), some (.int 0), some (.int y), some (.int i), none] [] n M1 L := by
  intro r
  induction r with
  | zero =>
    intro k i y M1 hr hi hy e1 e2
    subst hi
    have hk : k = nb := by omega
    subst hk
    subst hy
    have c1 : M1 64 23 ≤ nI k := by rw [e1 64 (by decide), h23]; exact nI_le (Nat.le_refl _) (by omega)
    exact hK.1 [142] 20 104 _ _ _ _ _ ⟨fun _ => h M1 _ e1 e2, fun z => absurd c1 z⟩
  | succ r ih =>
    intro k i y M1 hr hi hy e1 e2
    subst hi
    have hk : k < nb := by omega
    have c1 : ¬ M1 64 23 ≤ nI k := by rw [e1 64 (by decide), h23]; exact nI_ge hk (by omega)
    have vk : vp_in (nI k) 100 := vp_in_nI (by omega) (by decide)
    have ek : (nI k).toNatClampNeg = k := nI_clamp (by omega)
    have nx : ∀ y', y' = nI (nu gone (k + 1)) → K 104 [some (.ref 64), some (.int 0), some (.int y'), some (.int (nI k + 1)), none] [] n (mc_put M1 95 (nI k).toNatClampNeg y) L := fun y' hy' => by
      rw [ek]
      refine ih (k + 1) _ y' _ (by omega) (nI_1 k) hy' (fun c hc => ?_) (fun j hj => ?_)
      · funext w
        rw [mc_put_at, if_neg (fun z => hc z.1), e1 c hc]
      · rw [mc_put_at]
        by_cases e : j = k
        · rw [if_pos ⟨rfl, e⟩, hy, e]
        · rw [if_neg (fun z => e z.2), e2 j (by omega)]
    have e84 : M1 84 (nI k).toNatClampNeg = bI (gone k) := by rw [ek, e1 84 (by decide), hg k hk]
    cases hgk : gone k with
    | true =>
      have g1 : ¬ M1 84 (nI k).toNatClampNeg = 0 := by rw [e84, hgk]; decide
      exact hK.1 [104] 40 104 _ _ _ _ _ ⟨fun z => absurd z c1, fun _ => ⟨vk, vk, fun z => absurd z g1, fun _ => nx y (by rw [nu_s1 hgk, hy])⟩⟩
    | false =>
      have g1 : M1 84 (nI k).toNatClampNeg = 0 := by rw [e84, hgk]; rfl
      exact hK.1 [104] 40 104 _ _ _ _ _ ⟨fun z => absurd z c1, fun _ => ⟨vk, vk, fun _ => nx _ (by rw [nu_s0 hgk, hy, nI_1]), fun z => absurd g1 z⟩⟩
theorem mblk_at {S : Int32} {M' : mc_M} {pb a t : Nat} {B B' : Blk} {ps : List Nat} (h : mblk T m S M pb a B ps) (hM : ∀ c, 91 ≤ c → c ≤ 94 → M' c = M c) (h1 : ∀ c, c = 83 ∨ (85 ≤ c ∧ c ≤ 87) ∨ c = 90 → M' c t = M c a) (h88 : M' 88 t = B'.2.2.2.2.1) (h89 : M' 89 t = B'.2.2.2.2.2) (e1 : B'.1 = B.1) (e2 : B'.2.1 = B.2.1) (e3 : B'.2.2.1 = B.2.2.1) (e4 : B'.2.2.2.1 = B.2.2.2.1) : mblk T m S M' pb t B' ps := by
  unfold mblk mp_ok mp_as at *
  rw [h1 83 (by omega), h1 85 (by omega), h1 86 (by omega), h1 87 (by omega), h1 90 (by omega), hM 91 (by omega) (by omega), hM 92 (by omega) (by omega), hM 93 (by omega) (by omega), hM 94 (by omega) (by omega), e1, e2, e3, e4]
  obtain ⟨a1, a2, a3, a4, a5, a6, a7, a8, -, -⟩ := h
  exact ⟨a1, a2, a3, a4, a5, a6, a7, a8, h88, h89⟩
/-- the blocks go to their new numbers -/
theorem cmp_copy (hK : mc_closed true tab0 n 0 (some .int) (shR_compress g d) Q (fun _ _ _ => False) tbR_compress K) (hd : 2 ≤ d) {S : Int32} {nb pb : Nat} (hnb : nb ≤ 100) (h23 : M 64 23 = nI nb) {R : Nat → Blk} {gone : Nat → Bool} {PS : Nat → List Nat} (hg : ∀ b, b < nb → M 84 b = bI (gone b)) (h95 : ∀ j, j < nb → M 95 j = nI (nu gone j)) (htg : tgs R gone nb) {y : Int32}
    (h : ∀ M1 i, (∀ c, (c < 83 ∨ c = 84 ∨ 90 < c) → M1 c = M c) → (∀ j, j < nb → gone j = false → mblk T m S M1 pb (nu gone j) (sp_rn gone (R j)) (PS j)) → K 250 [some (.ref 64), some (.int 0), some (.int y), some (.int i), none] [] n M1 L) :
    ∀ (r k : Nat) (i : Int32) (M1 : mc_M), r + k = nb → i = nI k → (∀ c, (c < 83 ∨ c = 84 ∨ 90 < c) → M1 c = M c) → (∀ j, j < k → gone j = false → mblk T m S M1 pb (nu gone j) (sp_rn gone (R j)) (PS j)) → (∀ j, k ≤ j → j < nb → gone j = false → mblk T m S M1 pb j (R j) (PS j)) → K 144 [some (.ref 64), some (.int 0), some (.int y), some (.int i), none] [] n M1 L := by
  intro r
  induction r with
  | zero =>
    intro k i M1 hr hi e1 e2 e3
    subst hi
    have hk : k = nb := by omega
    subst hk
    have c1 : M1 64 23 ≤ nI k := by rw [e1 64 (by omega), h23]; exact nI_le (Nat.le_refl _) (by omega)
    exact hK.1 [250] 20 144 _ _ _ _ _ ⟨fun _ => h M1 _ e1 e2, fun z => absurd c1 z⟩
  | succ r ih =>
    intro k i M1 hr hi e1 e2 e3
    subst hi
    have hk : k < nb := by omega
    have c1 : ¬ M1 64 23 ≤ nI k := by rw [e1 64 (by omega), h23]; exact nI_ge hk (by omega)
    have vk : vp_in (nI k) 100 := vp_in_nI (by omega) (by decide)
    have ek : (nI k).toNatClampNeg = k := nI_clamp (by omega)
    have e84 : M1 84 (nI k).toNatClampNeg = bI (gone k) := by rw [ek, e1 84 (by omega), hg k hk]
    cases hgk : gone k with
    | true =>
      have g1 : ¬ M1 84 (nI k).toNatClampNeg = 0 := by rw [e84, hgk]; decide
      refine hK.1 [144] 40 144 _ _ _ _ _ ⟨fun z => absurd z c1, fun _ => ⟨vk, fun _ => ih (k + 1) _ M1 (by omega) (nI_1 k) e1 (fun j hj gj => ?_) (fun j hj => e3 j (by omega)), fun z => absurd z g1⟩⟩
      by_cases e : j = k
      · rw [e, hgk] at gj
        cases gj
      · exact e2 j (by omega) gj
    | false =>
      have g1 : M1 84 (nI k).toNatClampNeg = 0 := by rw [e84, hgk]; rfl
      have hle := nu_le gone k
      have e95 : ∀ j, j < nb → M1 95 j = nI (nu gone j) := fun j hj => by rw [e1 95 (by omega), h95 j hj]
      have t95 : M1 95 (nI k).toNatClampNeg = nI (nu gone k) := by rw [ek, e95 k hk]
      refine hK.1 [144, 176] 60 144 _ _ _ _ _ ⟨fun z => absurd z c1, fun _ => ⟨vk, fun z => absurd z (fun w => w g1), fun _ => ⟨vk, ?_⟩⟩⟩
      rw [t95]
      generalize ht : nu gone k = t at *
      have ht100 : t < 100 := by omega
      have vt : vp_in (nI t) 100 := vp_in_nI ht100 (by decide)
      have et : (nI t).toNatClampNeg = t := nI_clamp (by omega)
      refine cR_copyBlock rfl rfl (by omega) ht100 (by omega) (fun M2 hM2 => ?_)
      have m2 : ∀ c j, (c < 83 ∨ c = 84 ∨ 90 < c ∨ j ≠ t) → M2 c j = M1 c j := fun c j hc => by rw [hM2 c j, if_neg (by omega)]
      have m2t : ∀ c, c = 83 ∨ (85 ≤ c ∧ c ≤ 90) → M2 c t = M1 c k := fun c hc => by rw [hM2 c t, if_pos ⟨hc, rfl⟩]
      have Bk := e3 k (Nat.le_refl _) hk hgk
      obtain ⟨-, -, -, -, -, -, b87, -, b88, b89⟩ := Bk
      have k87 : M2 87 (nI t).toNatClampNeg = (R k).2.2.1 := by rw [et, m2t 87 (by omega), b87]
      have k88 : M2 88 (nI t).toNatClampNeg = (R k).2.2.2.2.1 := by rw [et, m2t 88 (by omega), b88]
      have k89 : M2 89 (nI t).toNatClampNeg = (R k).2.2.2.2.2 := by rw [et, m2t 89 (by omega), b89]
      have fin : ∀ z1 z2, z1 = sp_tn gone (R k).2.2.2.2.1 → z2 = sp_tn gone (R k).2.2.2.2.2 → K 244 [some (.ref 64), some (.int 0), some (.int y), some (.int (nI k)), some (.int (nI t))] [] n (mc_put (mc_put M2 88 (nI t).toNatClampNeg z1) 89 (nI t).toNatClampNeg z2) L := fun z1 z2 h1 h2 => by
        rw [et, h1, h2]
        have o : ∀ c j, (c < 83 ∨ c = 84 ∨ 90 < c ∨ j ≠ t) → mc_put (mc_put M2 88 t (sp_tn gone (R k).2.2.2.2.1)) 89 t (sp_tn gone (R k).2.2.2.2.2) c j = M1 c j := fun c j hc => by
          rw [mc_put_at, if_neg (by omega), mc_put_at, if_neg (by omega), m2 c j hc]
        have o83 : ∀ c, c = 83 ∨ (85 ≤ c ∧ c ≤ 87) ∨ c = 90 → mc_put (mc_put M2 88 t (sp_tn gone (R k).2.2.2.2.1)) 89 t (sp_tn gone (R k).2.2.2.2.2) c t = M1 c k := fun c hc => by
          rw [mc_put_at, if_neg (by omega), mc_put_at, if_neg (by omega), m2t c (by omega)]
        have o88 : mc_put (mc_put M2 88 t (sp_tn gone (R k).2.2.2.2.1)) 89 t (sp_tn gone (R k).2.2.2.2.2) 88 t = sp_tn gone (R k).2.2.2.2.1 := by rw [mc_put_at, if_neg (by omega), mc_put_at, if_pos ⟨rfl, rfl⟩]
        have o89 : mc_put (mc_put M2 88 t (sp_tn gone (R k).2.2.2.2.1)) 89 t (sp_tn gone (R k).2.2.2.2.2) 89 t = sp_tn gone (R k).2.2.2.2.2 := by rw [mc_put_at, if_pos ⟨rfl, rfl⟩]
        generalize mc_put (mc_put M2 88 t (sp_tn gone (R k).2.2.2.2.1)) 89 t (sp_tn gone (R k).2.2.2.2.2) = M3 at *
        have of : ∀ c, (c < 83 ∨ c = 84 ∨ 90 < c) → M3 c = M1 c := fun c hc => funext fun j => o c j (by omega)
        refine hK.1 [144] 20 244 _ _ _ _ _ ?_
        refine hK.2 [true, true, true, true, false] _ _ _ _ _ _ ?_
        refine ih (k + 1) _ M3 (by omega) (nI_1 k) (fun c hc => by rw [of c hc, e1 c hc]) (fun j hj gj => ?_) (fun j hj hj2 gj => ?_)
        · by_cases e : j = k
          · subst e
            rw [ht]
            exact mblk_at (e3 j (Nat.le_refl _) hk hgk) (fun c h1 h2 => of c (by omega)) o83 o88 o89 rfl rfl rfl rfl
          · have lt := nu_lt (c := k) (show j < k by omega) gj
            rw [ht] at lt
            exact mblk_to (e2 j (by omega) gj) (Nat.le_refl _) (fun c hc => o c _ (by omega)) (fun j _ => ⟨by rw [of 91 (by omega)], by rw [of 92 (by omega)], by rw [of 93 (by omega)]⟩) (fun j v _ _ => by rw [of 94 (by omega)])
        · exact mblk_to (e3 j (by omega) hj2 gj) (Nat.le_refl _) (fun c hc => o c _ (by omega)) (fun j _ => ⟨by rw [of 91 (by omega)], by rw [of 92 (by omega)], by rw [of 93 (by omega)]⟩) (fun j v _ _ => by rw [of 94 (by omega)])
      have tn1 : sp_tn gone (-1) = -1 := if_pos rfl
      have tnn : ∀ u, u < nb → sp_tn gone (nI u) = nI (nu gone u) := fun u hu => by
        unfold sp_tn
        rw [if_neg (nI_ne_m1 (by omega)), nI_clamp (by omega)]
      have e95' : ∀ u, u < nb → M2 95 (nI u).toNatClampNeg = nI (nu gone u) := fun u hu => by rw [nI_clamp (by omega), m2 95 u (by omega), e95 u hu]
      have k87' : ∀ z, mc_put M2 88 (nI t).toNatClampNeg z 87 (nI t).toNatClampNeg = (R k).2.2.1 := fun z => by rw [mc_put_at, if_neg (fun w => absurd w.1 (by decide)), k87]
      have k89' : ∀ z, mc_put M2 88 (nI t).toNatClampNeg z 89 (nI t).toNatClampNeg = (R k).2.2.2.2.2 := fun z => by rw [mc_put_at, if_neg (fun w => absurd w.1 (by decide)), k89]
      rcases htg k hk hgk with ⟨k0, o1, o2⟩ | ⟨k0, ⟨u, hu, -, o1⟩, o2⟩ | ⟨k0, ⟨u, hu, -, o1⟩, ⟨v, hv, -, o2⟩⟩
      · have w2 : (2 : Int32) ≤ M2 87 (nI t).toNatClampNeg := by rw [k87, k0]; decide
        have n1 : ∀ z, ¬ mc_put M2 88 (nI t).toNatClampNeg z 87 (nI t).toNatClampNeg = 1 := fun z => by rw [k87' z, k0]; decide
        exact hK.1 [244] 80 176 _ _ _ _ _ ⟨vt, fun _ => ⟨vt, vt, fun _ => ⟨vt, fin _ _ (by rw [o1, tn1]) (by rw [o2, tn1])⟩, fun z => absurd z (n1 _)⟩, fun z => absurd w2 z⟩
      · have w2 : ¬ (2 : Int32) ≤ M2 87 (nI t).toNatClampNeg := by rw [k87, k0]; decide
        have n1 : ∀ z, ¬ mc_put M2 88 (nI t).toNatClampNeg z 87 (nI t).toNatClampNeg = 1 := fun z => by rw [k87' z, k0]; decide
        have vo : vp_in (M2 88 (nI t).toNatClampNeg) 100 := by rw [k88, o1]; exact vp_in_nI (by omega) (by decide)
        have eo : M2 95 (M2 88 (nI t).toNatClampNeg).toNatClampNeg = sp_tn gone (R k).2.2.2.2.1 := by rw [k88, o1, e95' u hu, tnn u hu]
        exact hK.1 [244] 80 176 _ _ _ _ _ ⟨vt, fun z => absurd z w2, fun _ => ⟨vt, vo, vt, vt, fun _ => ⟨vt, fin _ _ eo (by rw [o2, tn1])⟩, fun z => absurd z (n1 _)⟩⟩
      · have w2 : ¬ (2 : Int32) ≤ M2 87 (nI t).toNatClampNeg := by rw [k87, k0]; decide
        have y1 : ∀ z, mc_put M2 88 (nI t).toNatClampNeg z 87 (nI t).toNatClampNeg = 1 := fun z => by rw [k87' z, k0]
        have vo : vp_in (M2 88 (nI t).toNatClampNeg) 100 := by rw [k88, o1]; exact vp_in_nI (by omega) (by decide)
        have vo2 : ∀ z, vp_in (mc_put M2 88 (nI t).toNatClampNeg z 89 (nI t).toNatClampNeg) 100 := fun z => by rw [k89' z, o2]; exact vp_in_nI (by omega) (by decide)
        have eo : M2 95 (M2 88 (nI t).toNatClampNeg).toNatClampNeg = sp_tn gone (R k).2.2.2.2.1 := by rw [k88, o1, e95' u hu, tnn u hu]
        have eo2 : ∀ z, mc_put M2 88 (nI t).toNatClampNeg z 95 (mc_put M2 88 (nI t).toNatClampNeg z 89 (nI t).toNatClampNeg).toNatClampNeg = sp_tn gone (R k).2.2.2.2.2 := fun z => by rw [mc_put_at, if_neg (fun w => absurd w.1 (by decide)), k89' z, o2, e95' v hv, tnn v hv]
        exact hK.1 [244] 80 176 _ _ _ _ _ ⟨vt, fun z => absurd z w2, fun _ => ⟨vt, vo, vt, vt, fun z => absurd (y1 _) z, fun _ => ⟨vt, vo2 _, vt, fin _ _ eo (eo2 _)⟩⟩⟩
end CN
