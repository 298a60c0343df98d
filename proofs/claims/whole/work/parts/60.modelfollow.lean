/-! The model's follow and about -/
def trJ (S : Int32) (M0 M : mc_M) (e : Nat → Int32) (s b : Nat) : Prop := (∀ c, c ≠ 64 → c ≠ 78 → c ≠ 79 → M c = M0 c) ∧ M 64 39 = 0 ∧ M 64 40 = nI s ∧ M 64 41 = nI b ∧ M 64 0 = 0 ∧ (∀ i, i ≠ 0 → i ≠ 39 → i ≠ 40 → i ≠ 41 → M 64 i = M0 64 i) ∧ ∀ v, v < 8 → fl_bit S v = false → M 78 v = e v
section FO
variable {g : mc_G} {d n : Nat} {M : mc_M} {L : mc_L} {Q : Option Value → mc_M → mc_L → Prop} {T : Nat → Nat → Int32} {m : Nat}
theorem wv_val (hT : nt_ok T m) {D : Int32} {M' : mc_M} {p nd : Nat} {e : Nat → Int32} {F : Nat → Int32} (h94 : M' 94 = F) (he : ∀ v, v < 8 → fl_bit (255 &&& (D ^^^ (-1))) v = false → M' 78 v = e v) : nd_val (T 0) (T 1) (T 2) (wvE M' D p) nd = sp_val T (255 &&& (D ^^^ (-1))) nd (fl_fr T (255 &&& (D ^^^ (-1))) F p nd) e := by
  unfold sp_val
  refine nd_val_env hT nd (fun v hv hb => ?_)
  unfold wvE fl_fr
  cases hD : fl_bit D v with
  | true =>
    have hS : fl_bit (255 &&& (D ^^^ (-1))) v = false := by rw [st_bit D hv, hD]; rfl
    rw [if_neg (fun z => by cases z.2), hS, if_neg (by decide)]
    exact he v hv hS
  | false =>
    have hS : fl_bit (255 &&& (D ^^^ (-1))) v = true := by rw [st_bit D hv, hD]; rfl
    rw [if_pos ⟨hv, rfl⟩, hS, if_pos rfl, if_pos ⟨hv, rfl, hb⟩, h94]
theorem wv_dyn {D : Int32} {M' : mc_M} {p : Nat} {e : Nat → Int32} (he : ∀ v, v < 8 → fl_bit (255 &&& (D ^^^ (-1))) v = false → M' 78 v = e v) : ∀ v, v < 8 → fl_bit (255 &&& (D ^^^ (-1))) v = false → wvE M' D p v = e v := fun v hv hs => by
  unfold wvE
  rw [if_neg (fun z => by rw [st_bit D hv, z.2] at hs; cases hs)]
  exact he v hv hs
theorem cR_follow (hT : nt_ok T m) (hN : nt_R M T m) {D : Int32} (h24 : M 64 24 = D) {nb pb : Nat} (h23 : M 64 23 = nI nb) (hnb : nb ≤ 100) (hpb : pb ≤ 1100) {R : Nat → Blk} {PS : Nat → List Nat} (hR : ∀ b, b < nb → mblk T m (255 &&& (D ^^^ (-1))) M pb b (R b) (PS b)) (hjm : ∀ b, b < nb → jm_ok (R b).2.2 nb) {e : Nat → Int32} (he : ∀ v, v < 8 → M 77 v = e v) {x : Int32} (hd : 3 ≤ d) (h1 : ¬ (0 ≤ x ∧ x ≤ 5000) → ∀ M', M' = mc_put M 64 0 1 → Q (some (.int 0)) M' L) (h2 : 0 ≤ x → x ≤ 5000 → nb = 0 → ∀ M', M' = mc_put M 64 0 2 → Q (some (.int 0)) M' L)
    (h0 : ∀ l, l ≤ 5000 → x = nI l → 0 < nb → ∀ M', trR M (sp_trav T (255 &&& (D ^^^ (-1))) R l l 0 0 e) M' → Q (some (.int (bI (sp_trav T (255 &&& (D ^^^ (-1))) R l l 0 0 e).1))) M' L) : ctR_follow g d [.ref 64, .int x] n M L Q := by
  obtain ⟨d, rfl⟩ := Nat.exists_eq_add_of_le' (show 1 ≤ d by omega)
  have hm150 := hT.1
  have lp : ∀ (K : mc_K), mc_closed true tab0 n 0 (some .boolean) (shR_follow g d) Q (fun _ _ _ => False) tbR_follow K → ∀ l, l ≤ 5000 → x = nI l → ∀ (r s f b : Nat) (e : Nat → Int32) (ps : List Nat) (i : Int32) (M1 : mc_M), r + s = l → l ≤ f + 1 + s → b < nb → pch (M 91) i ps → (∀ p ∈ ps, mp_ok M m p) → trJ (255 &&& (D ^^^ (-1))) M M1 e s b → (∀ M', trR M (sp_mid T (255 &&& (D ^^^ (-1))) R l f b (ps.map (mp_as T (255 &&& (D ^^^ (-1))) M)) s e) M' → Q (some (.int (bI (sp_mid T (255 &&& (D ^^^ (-1))) R l f b (ps.map (mp_as T (255 &&& (D ^^^ (-1))) M)) s e).1))) M' L) → K 40 [some (.ref 64), some (.int x), some (.int i), none] [] n M1 L := by
    intro K hK l hl hx r
    induction r with
    | zero =>
      intro s f b e ps i M1 hr hf hb hpc hok hI h
      have hs : s = l := by omega
      subst hs
      rw [sp_mid_out (by omega)] at h
      obtain ⟨i1, i2, i3, i4, i5, i6, -⟩ := hI
      have c1 : x ≤ M1 64 40 := by rw [hx, i3]; exact nI_le (Nat.le_refl _) (by omega)
      exact hK.1 [] 20 40 _ _ _ _ _ ⟨fun _ => ⟨Or.inl rfl, Nat.le_refl _, h M1 ⟨i1, i2, i3, i4, i5, i6⟩⟩, fun z => absurd c1 z⟩
    | succ r ih =>
      intro s f b e ps i M1 hr hf hb hpc hok hI h
      obtain ⟨i1, i2, i3, i4, i5, i6, i7⟩ := hI
      have c1 : ¬ x ≤ M1 64 40 := by rw [hx, i3]; exact nI_ge (by omega) (by omega)
      have eb : (M1 64 41).toNatClampNeg = b := by rw [i4]; exact nI_clamp (by omega)
      have vb : vp_in (M1 64 41) 100 := by rw [i4]; exact vp_in_nI (by omega) (by decide)
      have hI2 : trJ (255 &&& (D ^^^ (-1))) M (mc_put M1 64 40 (M1 64 40 + 1)) e (s + 1) b := by
        refine ⟨fun c h1 h2 h3 => ?_, ?_, ?_, ?_, ?_, fun j h1 h2 h3 h4 => ?_, fun v hv hs => ?_⟩
        · funext w; rw [mc_put_at, if_neg (fun z => h1 z.1), i1 c h1 h2 h3]
        · rw [mc_put_at, if_neg (by omega), i2]
        · rw [mc_put_at, if_pos ⟨rfl, rfl⟩, i3, nI_1]
        · rw [mc_put_at, if_neg (by omega), i4]
        · rw [mc_put_at, if_neg (by omega), i5]
        · rw [mc_put_at, if_neg (fun z => h3 z.2), i6 j h1 h2 h3 h4]
        · rw [mc_put_at, if_neg (by omega), i7 v hv hs]
      have hN2 : nt_R (mc_put M1 64 40 (M1 64 40 + 1)) T m := nt_R_to hN (by rw [hI2.2.2.2.2.2.1 1 (by decide) (by decide) (by decide) (by decide)]) (fun c h1 h2 => hI2.1 c (by omega) (by omega) (by omega))
      have h24' : mc_put M1 64 40 (M1 64 40 + 1) 64 24 = D := by rw [hI2.2.2.2.2.2.1 24 (by decide) (by decide) (by decide) (by decide), h24]
      have e94 : mc_put M1 64 40 (M1 64 40 + 1) 94 = M 94 := hI2.1 94 (by decide) (by decide) (by decide)
      have e93 : mc_put M1 64 40 (M1 64 40 + 1) 93 = M 93 := hI2.1 93 (by decide) (by decide) (by decide)
      have rows : ∀ c, 83 ≤ c → c ≤ 94 → M1 c = M c := fun c _ _ => i1 c (by omega) (by omega) (by omega)
      cases ps with
      | cons p ps =>
        obtain ⟨hi, hp1, hp2⟩ := hpc
        subst hi
        obtain ⟨v, k, hv, hk, w1, w2⟩ := hok p List.mem_cons_self
        have n1 : ¬ nI p = -1 := nI_ne_m1 (by omega)
        have vp : vp_in (nI p) 1100 := vp_in_nI hp1 (by decide)
        have ep : (nI p).toNatClampNeg = p := nI_clamp (by omega)
        have as1 : mp_as T (255 &&& (D ^^^ (-1))) M p = (v, k, fl_fr T (255 &&& (D ^^^ (-1))) (M 94) p k) := by
          unfold mp_as
          rw [w1, w2, nI_clamp (by omega), nI_clamp (by omega)]
        rw [List.map_cons, as1, sp_mid_cons (by omega)] at h
        have go : ∀ (r' : Int32) (M' : mc_M), (∀ c, c ≠ 78 → c ≠ 79 → M' c = mc_put M1 64 40 (M1 64 40 + 1) c) → (∀ u, M' 78 u = wvE (mc_put M1 64 40 (M1 64 40 + 1)) D p u) → r' = nd_val (T 0) (T 1) (T 2) (wvE (mc_put M1 64 40 (M1 64 40 + 1)) D p) k → vp_in (M' 92 (nI p).toNatClampNeg) 8 ∧ ∀ q, K 40 [some (.ref 64), some (.int x), some (.int (M' 91 (nI p).toNatClampNeg)), q] [] n (mc_put M' 78 (M' 92 (nI p).toNatClampNeg).toNatClampNeg r') L := fun r' M' hM h78 hr' => by
          have z92 : M' 92 (nI p).toNatClampNeg = nI v := by rw [ep, hM 92 (by decide) (by decide), hI2.1 92 (by decide) (by decide) (by decide), w1]
          have z91 : M' 91 (nI p).toNatClampNeg = M 91 p := by rw [ep, hM 91 (by decide) (by decide), hI2.1 91 (by decide) (by decide) (by decide)]
          rw [z92, z91, nI_clamp (by omega)]
          refine ⟨vp_in_nI hv (by decide), fun q => ?_⟩
          refine hK.2 [true, true, true, false] _ _ _ _ _ _ ?_
          rw [wv_val hT e94 hI2.2.2.2.2.2.2] at hr'
          refine ih (s + 1) f b _ ps _ _ (by omega) (by omega) hb hp2 (fun p hp => hok p (List.mem_cons_of_mem _ hp)) ?_ h
          obtain ⟨j1, j2, j3, j4, j5, j6, j7⟩ := hI2
          refine ⟨fun c h1 h2 h3 => ?_, ?_, ?_, ?_, ?_, fun j h1 h2 h3 h4 => ?_, fun u hu hs => ?_⟩
          · funext w; rw [mc_put_at, if_neg (fun z => h2 z.1), hM c h2 h3, j1 c h1 h2 h3]
          · rw [mc_put_at, if_neg (by omega), hM 64 (by decide) (by decide), j2]
          · rw [mc_put_at, if_neg (by omega), hM 64 (by decide) (by decide), j3]
          · rw [mc_put_at, if_neg (by omega), hM 64 (by decide) (by decide), j4]
          · rw [mc_put_at, if_neg (by omega), hM 64 (by decide) (by decide), j5]
          · rw [mc_put_at, if_neg (by omega), hM 64 (by decide) (by decide), j6 j h1 h2 h3 h4]
          · rw [mc_put_at]
            unfold upd
            by_cases euv : u = v
            · rw [if_pos ⟨rfl, euv⟩, if_pos euv, hr']
            · rw [if_neg (fun z => euv z.2), if_neg euv, h78 u]
              exact wv_dyn j7 u hu hs
        exact hK.1 [40] 60 40 _ _ _ _ _ ⟨fun z => absurd z c1, fun _ => ⟨fun z => absurd z n1, fun _ => cR_worthOf hT hN2 h24' rfl hp1 (nd := k) (by rw [e93]; exact Or.inr ⟨hk, w2⟩) (by omega) (fun r' M' a1 a2 a3 _ => ⟨vp, (go r' M' a1 a2 a3).1, vp, (go r' M' a1 a2 a3).2 _⟩)⟩⟩
      | nil =>
        have hi : i = -1 := hpc
        obtain ⟨a1, a2, a3, a4, a5, a6, a7, ⟨j, nd, b1, b2, b3, b4, b5⟩, a9, a10⟩ := hR b hb
        rw [List.map_nil, sp_mid_nil (by omega)] at h
        have m87 : M1 87 (M1 64 41).toNatClampNeg = (R b).2.2.1 := by rw [eb, rows 87 (by decide) (by decide), a7]
        have m90 : M1 90 (M1 64 41).toNatClampNeg = nI j := by rw [eb, rows 90 (by decide) (by decide), b3]
        rw [b5] at h
        have hj93 : jnR m (mc_put M1 64 40 (M1 64 40 + 1) 93 j) nd := by rw [e93]; exact b4
        have go : ∀ (t : Nat) q (M' : mc_M), t < nb → (∀ c, c ≠ 78 → c ≠ 79 → M' c = mc_put M1 64 40 (M1 64 40 + 1) c) → (∀ v, v < 8 → fl_bit (255 &&& (D ^^^ (-1))) v = false → M' 78 v = e v) → (∀ M', trR M (sp_trav T (255 &&& (D ^^^ (-1))) R l f t (s + 1) e) M' → Q (some (.int (bI (sp_trav T (255 &&& (D ^^^ (-1))) R l f t (s + 1) e).1))) M' L) → ∀ y, y = nI t → vp_in y 100 ∧ K 40 [some (.ref 64), some (.int x), some (.int (M' 85 y.toNatClampNeg)), q] [] n (mc_put M' 64 41 y) L := fun t q M' ht hM h78 h y hy => by
          subst hy
          refine ⟨vp_in_nI (by omega) (by decide), ?_⟩
          rw [nI_clamp (by omega)]
          refine hK.2 [true, true, true, false] _ _ _ _ _ _ ?_
          obtain ⟨j1, j2, j3, j4, j5, j6, j7⟩ := hI2
          have hI3 : trJ (255 &&& (D ^^^ (-1))) M (mc_put M' 64 41 (nI t)) e (s + 1) t := by
            refine ⟨fun c h1 h2 h3 => ?_, ?_, ?_, ?_, ?_, fun j h1 h2 h3 h4 => ?_, fun u hu hs => ?_⟩
            · funext w; rw [mc_put_at, if_neg (fun z => h1 z.1), hM c h2 h3, j1 c h1 h2 h3]
            · rw [mc_put_at, if_neg (by omega), hM 64 (by decide) (by decide), j2]
            · rw [mc_put_at, if_neg (by omega), hM 64 (by decide) (by decide), j3]
            · rw [mc_put_at, if_pos ⟨rfl, rfl⟩]
            · rw [mc_put_at, if_neg (by omega), hM 64 (by decide) (by decide), j5]
            · rw [mc_put_at, if_neg (fun z => h4 z.2), hM 64 (by decide) (by decide), j6 j h1 h2 h3 h4]
            · rw [mc_put_at, if_neg (by omega), h78 u hu hs]
          obtain ⟨c1, c2, c3, c4, c5, c6, -⟩ := hR t ht
          have m85 : M' 85 t = M 85 t := by rw [hM 85 (by decide) (by decide), j1 85 (by decide) (by decide) (by decide)]
          rw [m85]
          cases f with
          | zero =>
            refine ih (s + 1) 0 t e (PS t) _ _ (by omega) (by omega) ht c2 (fun p hp => (c5 p hp).2) hI3 ?_
            rw [sp_mid_out (by omega)]
            exact h
          | succ f => exact ih (s + 1) f t e (PS t) _ _ (by omega) (by omega) ht c2 (fun p hp => (c5 p hp).2) hI3 (by rw [← c6]; exact h)
        have wd : ∀ M' : mc_M, (∀ u, M' 78 u = wvE (mc_put M1 64 40 (M1 64 40 + 1)) D j u) → ∀ v, v < 8 → fl_bit (255 &&& (D ^^^ (-1))) v = false → M' 78 v = e v := fun M' h78 v hv hs => by
          rw [h78 v]
          exact wv_dyn hI2.2.2.2.2.2.2 v hv hs
        rcases hjm b hb with ⟨k0, -, -⟩ | ⟨k0, ⟨t, ht, k2⟩, -⟩ | ⟨k0, ⟨t, ht, k2⟩, ⟨u, hu, k3⟩⟩
        · have y2 : M1 87 (M1 64 41).toNatClampNeg = 2 := m87.trans k0
          rw [k0, if_pos rfl] at h
          refine hK.1 [40] 80 40 _ _ _ _ _ ⟨fun z => absurd z c1, fun _ => ⟨fun _ => ⟨vb, fun z => absurd y2 z, fun _ => ⟨vb, cR_worthOf hT hN2 h24' m90 b2 hj93 (by omega) (fun r' M' q1 q2 q3 _ => ⟨Or.inr rfl, Nat.le_refl _, h _ ?_⟩)⟩⟩, fun z => absurd hi z⟩⟩
          obtain ⟨j1, j2, j3, j4, j5, j6, j7⟩ := hI2
          rw [wv_val hT e94 j7] at q3
          refine ⟨fun c h1 h2 h3 => ?_, ?_, ?_, ?_, ?_, fun j h1 h2 h3 h4 => ?_⟩
          · funext w; rw [mc_put_at, if_neg (fun z => h1 z.1), q1 c h2 h3, j1 c h1 h2 h3]
          · rw [mc_put_at, if_pos ⟨rfl, rfl⟩, q3]
          · rw [mc_put_at, if_neg (by omega), q1 64 (by decide) (by decide), j3]
          · rw [mc_put_at, if_neg (by omega), q1 64 (by decide) (by decide), j4]
          · rw [mc_put_at, if_neg (by omega), q1 64 (by decide) (by decide), j5]
          · rw [mc_put_at, if_neg (fun z => h2 z.2), q1 64 (by decide) (by decide), j6 j h1 h2 h3 h4]
        · have n2 : ¬ M1 87 (M1 64 41).toNatClampNeg = 2 := by rw [m87, k0]; decide
          have n1 : ¬ M1 87 (M1 64 41).toNatClampNeg = 1 := by rw [m87, k0]; decide
          have k2' : (R b).2.2.2.2.1 = nI t := k2
          rw [k0, if_neg (by decide), if_pos (Or.inl rfl), k2', nI_clamp (by omega)] at h
          have m88 : M1 88 (M1 64 41).toNatClampNeg = nI t := by rw [eb, rows 88 (by decide) (by decide), a9]; exact k2
          have gg := fun q => go t q (mc_put M1 64 40 (M1 64 40 + 1)) ht (fun _ _ _ => rfl) hI2.2.2.2.2.2.2 h _ m88
          exact hK.1 [40] 80 40 _ _ _ _ _ ⟨fun z => absurd z c1, fun _ => ⟨fun _ => ⟨vb, fun _ => ⟨vb, fun _ => ⟨fun _ => ⟨vb, (gg none).1, (gg _).2⟩, fun z => absurd rfl z⟩, fun z => absurd z n1⟩, fun z => absurd z n2⟩, fun z => absurd hi z⟩⟩
        · have n2 : ¬ M1 87 (M1 64 41).toNatClampNeg = 2 := by rw [m87, k0]; decide
          have y1 : M1 87 (M1 64 41).toNatClampNeg = 1 := by rw [m87, k0]
          rw [k0, if_neg (by decide)] at h
          have k2' : (R b).2.2.2.2.1 = nI t := k2
          have k3' : (R b).2.2.2.2.2 = nI u := k3
          have vb' : ∀ M' : mc_M, (∀ c, c ≠ 78 → c ≠ 79 → M' c = mc_put M1 64 40 (M1 64 40 + 1) c) → vp_in (M' 64 41) 100 := fun M' hM => by rw [hM 64 (by decide) (by decide)]; exact vb
          have m88 : ∀ M' : mc_M, (∀ c, c ≠ 78 → c ≠ 79 → M' c = mc_put M1 64 40 (M1 64 40 + 1) c) → M' 88 (M' 64 41).toNatClampNeg = nI t := fun M' hM => by
            rw [hM 64 (by decide) (by decide), hM 88 (by decide) (by decide), hI2.1 88 (by decide) (by decide) (by decide), hI2.2.2.2.1, nI_clamp (by omega), a9]
            exact k2
          have m89 : ∀ M' : mc_M, (∀ c, c ≠ 78 → c ≠ 79 → M' c = mc_put M1 64 40 (M1 64 40 + 1) c) → M' 89 (M' 64 41).toNatClampNeg = nI u := fun M' hM => by
            rw [hM 64 (by decide) (by decide), hM 89 (by decide) (by decide), hI2.1 89 (by decide) (by decide) (by decide), hI2.2.2.2.1, nI_clamp (by omega), a10]
            exact k3
          have g1 : ∀ (r' : Int32) (M' : mc_M), (∀ c, c ≠ 78 → c ≠ 79 → M' c = mc_put M1 64 40 (M1 64 40 + 1) c) → (∀ u, M' 78 u = wvE (mc_put M1 64 40 (M1 64 40 + 1)) D j u) → r' = nd_val (T 0) (T 1) (T 2) (wvE (mc_put M1 64 40 (M1 64 40 + 1)) D j) nd → ¬ r' = 0 → ∀ q, vp_in (M' 88 (M' 64 41).toNatClampNeg) 100 ∧ K 40 [some (.ref 64), some (.int x), some (.int (M' 85 (M' 88 (M' 64 41).toNatClampNeg).toNatClampNeg)), q] [] n (mc_put M' 64 41 (M' 88 (M' 64 41).toNatClampNeg)) L := fun r' M' q1 q2 q3 z q => by
            rw [wv_val hT e94 hI2.2.2.2.2.2.2] at q3
            rw [q3] at z
            rw [if_pos (Or.inr z), k2', nI_clamp (by omega)] at h
            exact go t q M' ht q1 (wd M' q2) h _ (m88 M' q1)
          have g2 : ∀ (r' : Int32) (M' : mc_M), (∀ c, c ≠ 78 → c ≠ 79 → M' c = mc_put M1 64 40 (M1 64 40 + 1) c) → (∀ u, M' 78 u = wvE (mc_put M1 64 40 (M1 64 40 + 1)) D j u) → r' = nd_val (T 0) (T 1) (T 2) (wvE (mc_put M1 64 40 (M1 64 40 + 1)) D j) nd → r' = 0 → ∀ q, vp_in (M' 89 (M' 64 41).toNatClampNeg) 100 ∧ K 40 [some (.ref 64), some (.int x), some (.int (M' 85 (M' 89 (M' 64 41).toNatClampNeg).toNatClampNeg)), q] [] n (mc_put M' 64 41 (M' 89 (M' 64 41).toNatClampNeg)) L := fun r' M' q1 q2 q3 z q => by
            rw [wv_val hT e94 hI2.2.2.2.2.2.2] at q3
            rw [q3] at z
            rw [if_neg (fun w => by rcases w with w | w; exact absurd w (by decide); exact w z), k3', nI_clamp (by omega)] at h
            exact go u q M' hu q1 (wd M' q2) h _ (m89 M' q1)
          exact hK.1 [40] 80 40 _ _ _ _ _ ⟨fun z => absurd z c1, fun _ => ⟨fun _ => ⟨vb, fun _ => ⟨vb, fun z => absurd y1 z, fun _ => ⟨vb, cR_worthOf hT hN2 h24' m90 b2 hj93 (by omega) (fun r' M' q1 q2 q3 _ => ⟨fun z => ⟨fun _ => ⟨vb' M' q1, (g1 r' M' q1 q2 q3 z none).1, (g1 r' M' q1 q2 q3 z _).2⟩, fun z => absurd rfl z⟩, fun z => ⟨fun z => absurd z (by decide), fun _ => ⟨vb' M' q1, (g2 r' M' q1 q2 q3 z none).1, (g2 r' M' q1 q2 q3 z _).2⟩⟩⟩)⟩⟩, fun z => absurd z n2⟩, fun z => absurd hi z⟩⟩
  have two : ∀ (K : mc_K), mc_closed true tab0 n 0 (some .boolean) (shR_follow g d) Q (fun _ _ _ => False) tbR_follow K → ∀ y, ((0 ≤ x ∧ x ≤ 5000) → y = 1) → (¬ (0 ≤ x ∧ x ≤ 5000) → y = 0) → K 9 [some (.ref 64), some (.int x), none, none] [.int y, .ref 64] n M L := fun K hK y hy1 hy0 => by
    have v0 : vp_in 0 100 := vp_in_nI (n := 0) (by decide) (by decide)
    have c0 : nb = 0 → M 64 23 ≤ 0 := fun z => by rw [h23, z]; decide
    have c1 : ¬ M 64 23 ≤ 0 → 0 < nb := fun z => Nat.pos_of_ne_zero (fun w => z (c0 w))
    have c2 : M 64 23 ≤ 0 → nb = 0 := fun z => by
      rw [h23] at z
      have := (nI_leI (b := 0) (by omega) (by decide)).mp z
      omega
    by_cases hin : 0 ≤ x ∧ x ≤ 5000
    · have := hy1 hin
      subst this
      refine hK.1 [40] 60 9 _ _ _ _ _ ⟨fun z => cR_goes (one := true) (two := false) rfl rfl (by omega) (fun _ w => by cases w) (fun w => by cases w) (fun _ _ M' hM => ⟨fun w => absurd rfl w, fun _ => ⟨Or.inl rfl, Nat.le_refl _, h2 hin.1 hin.2 (c2 z) M' hM⟩⟩), fun z => cR_goes (one := true) (two := true) rfl rfl (by omega) (fun _ _ M' hM => ⟨fun _ => ?_, fun w => absurd w (by decide)⟩) (fun w => by cases w) (fun _ w => by cases w)⟩
      obtain ⟨l, hl, hx⟩ := nI_lt_of (x := x) (m := 5001) (by decide) (Int32.not_lt.mpr hin.1) (fun z => absurd (Int32.le_trans z hin.2) (by decide))
      have hb0 := c1 z
      have hh := h0 l (by omega) hx hb0
      refine cR_begin (by omega) (fun M2 b1 b2 b3 => ⟨v0, ?_⟩)
      have hI : trJ (255 &&& (D ^^^ (-1))) M M2 e 0 0 := by
        refine ⟨fun c h1 h2 h3 => ?_, ?_, ?_, ?_, ?_, fun j h1 h2 h3 h4 => ?_, fun u hu _ => ?_⟩
        · rw [b1 c h1 h2, hM]; funext w; rw [mc_put_at, if_neg (fun z => h1 z.1)]
        · rw [b3]; rfl
        · rw [b3]; rfl
        · rw [b3]; rfl
        · rw [b3, hM]; rfl
        · rw [b3, if_neg h4, if_neg h3, if_neg h2, hM, mc_put_at, if_neg (fun z => h1 z.2)]
        · rw [b2 u hu, hM, mc_put_at, if_neg (by omega), he u hu]
      have m85 : M2 85 (0 : Int32).toNatClampNeg = M 85 0 := by rw [hI.1 85 (by decide) (by decide) (by decide)]; rfl
      rw [m85]
      obtain ⟨-, q2, -, -, q5, q6, -⟩ := hR 0 hb0
      cases l with
      | zero => exact lp K hK 0 (by omega) hx 0 0 0 0 e (PS 0) _ M2 rfl (by omega) hb0 q2 (fun p hp => (q5 p hp).2) hI (by rw [sp_mid_out (by omega)]; exact hh)
      | succ l => exact lp K hK (l + 1) (by omega) hx (l + 1) 0 l 0 e (PS 0) _ M2 rfl (by omega) hb0 q2 (fun p hp => (q5 p hp).2) hI (by rw [← q6]; exact hh)
    · have := hy0 hin
      subst this
      exact hK.1 [40] 60 9 _ _ _ _ _ ⟨fun _ => cR_goes (one := false) (two := false) rfl rfl (by omega) (fun w => by cases w) (fun _ M' hM => ⟨fun w => absurd rfl w, fun _ => ⟨Or.inl rfl, Nat.le_refl _, h1 hin M' hM⟩⟩) (fun w => by cases w), fun _ => cR_goes (one := false) (two := true) rfl rfl (by omega) (fun w => by cases w) (fun _ M' hM => ⟨fun w => absurd rfl w, fun _ => ⟨Or.inl rfl, Nat.le_refl _, h1 hin M' hM⟩⟩) (fun w => by cases w)⟩
  exact inR_follow (Nat.le_of_ble_eq_true rfl) (fun K hK => hK.1 [9] 60 0 _ _ _ _ _ (cR_within (by omega) (fun l0 l2 => two K hK _ (fun _ => rfl) (fun z => absurd ⟨l0, l2⟩ z)) (fun w => two K hK _ (fun z => absurd z w) (fun _ => rfl))))
end FO
