/-! The model's mix -/
def mrs (T : Nat → Nat → Int32) (m : Nat) (S : Int32) (M : mc_M) (pb nb : Nat) (R : Nat → Blk) (PS : Nat → List Nat) : Prop := (∀ b, b < nb → mblk T m S M pb b (R b) (PS b)) ∧ ∀ b c, b < nb → c < nb → b ≠ c → ∀ s ∈ PS b, s ∉ PS c
def mxf0 (M M' : mc_M) : Prop := (∀ c, c ≠ 64 → (c < 78 ∨ 82 < c) → M' c = M c) ∧ M' 64 0 = 0 ∧ ∀ i, i ≠ 0 → i ≠ 18 → i ≠ 21 → M' 64 i = M 64 i
def mxf (M M' : mc_M) : Prop := (∀ c, c ≠ 64 → (c < 78 ∨ 97 < c) → M' c = M c) ∧ M' 64 0 = 0 ∧ ∀ i, i = 1 ∨ i = 7 ∨ i = 39 ∨ i = 40 ∨ i = 41 → M' 64 i = M 64 i
theorem st_eta {st : Stt × Nat × Bool} (h : st.2.2 = false) : st = (st.1, st.2.1, false) := by rw [← h]
theorem nar_b0 : vp_nar .boolean 0 = 0 := by decide +kernel
theorem nar_b1 : vp_nar .boolean 1 = 1 := by decide +kernel
section MIX
variable {g : mc_G} {d n : Nat} {M : mc_M} {L : mc_L} {Q : Option Value → mc_M → mc_L → Prop} {T : Nat → Nat → Int32} {m : Nat} {P : Nat → Blk}
theorem mrs_len {S : Int32} {pb nb : Nat} {R : Nat → Blk} {PS : Nat → List Nat} (h : mrs T m S M pb nb R PS) : ∀ b, b < nb → (R b).2.1.length ≤ 1100 := fun b hb => by
  obtain ⟨-, a2, -, a4, -, a6, -⟩ := h.1 b hb
  rw [a6, List.length_map]
  exact nodup_len 1100 _ a4 (pch_lt a2)
theorem mix_2 {D : Int32} {kept : Nat → Int32} (hT : nt_ok T m) (hkp : ∀ b, b < 16 → kept b = (255 &&& (D ^^^ (-1))) &&& sp_Y T P b) (hcl : ∀ b, b < 16 → scl T (255 &&& (D ^^^ (-1))) (P b).2.1) {qf : Stt} {sf : Nat} {Rf : Nat → Blk} (hsf : sf ≤ 100) (hwf : qwf kept qf sf) {x fi : Int32} (hd : 4 ≤ d)
    (h : ∀ M' PS pb, mxf M M' → M' 64 23 = nI sf → M' 64 24 = D → pb ≤ 1100 → mrs T m (255 &&& (D ^^^ (-1))) M' pb sf Rf PS → (∀ b, b < sf → M' 84 b = 0) → txR M' (sp_tx T (255 &&& (D ^^^ (-1))) sf Rf) → (∀ b, b < sf → jm_ok (Rf b).2.2 sf) → ∀ r, r = nI sf → Q (some (.int r)) M' L) (K : mc_K) (hK : mc_closed true tab0 n 0 (some .int) (shR_mix g d) Q (fun _ _ _ => False) tbR_mix K) :
    ∀ (r k : Nat) (i : Int32) (M1 : mc_M) (p : Nat) (PS : Nat → List Nat) (q : Stt) (s fu : Nat) (R : Nat → Blk), r + k = sf → i = nI k → s ≤ 100 → 100 ≤ fu + k → sp_mx T (255 &&& (D ^^^ (-1))) kept P fu k (q, s, false) R = ((qf, sf, false), Rf) → mxR T m P D M1 → M1 64 18 = nI sf → mst M1 kept qf sf → M1 64 23 = nI sf → M1 64 24 = D → M1 64 33 = nI p → p ≤ 11 * k → mrs T m (255 &&& (D ^^^ (-1))) M1 p k Rf PS → (∀ b, b < k → M1 84 b = 0) → (∀ b, b < k → jm_ok (Rf b).2.2 sf) → mxf M M1 → K 133 [some (.ref 64), some (.int x), some (.int fi), some (.int i)] [] n M1 L := by
  intro r
  induction r with
  | zero =>
    intro k i M1 p PS q s fu R hr hi hs hfu hmx hR h18 hst h23 h24 h33 hp hmr hg hjm hfr
    subst hi
    have hk : k = sf := by omega
    subst hk
    have c1 : M1 64 23 ≤ nI k := by rw [h23]; exact nI_le (Nat.le_refl _) (by omega)
    refine hK.1 [] 40 133 _ _ _ _ _ ⟨fun _ => cR_write hT hR.1 h24 h23 hsf (fun b hb => ⟨PS b, hmr.1 b hb⟩) (fun b hb => ?_) (sp_tx_len hT hsf (mrs_len hmr)) (by omega) (fun M2 f1 f2 => ⟨Nat.le_refl _, ?_⟩), fun z => absurd c1 z⟩
    · rcases hjm b hb with z | z | z
      · exact Or.inr (Or.inr z.1)
      · exact Or.inl z.1
      · exact Or.inr (Or.inl z.1)
    · have o : ∀ c, 83 ≤ c → c ≤ 94 → M2 c = M1 c := fun c _ _ => f1.1 c (by omega) (by omega) (by omega) (by omega) (by omega)
      refine h M2 PS p ⟨fun c h1 h2 => ?_, ?_, fun i hi => ?_⟩ ((f1.2 23 (by decide)).trans h23) ((f1.2 24 (by decide)).trans h24) (by omega) ⟨fun b hb => ?_, hmr.2⟩ (fun b hb => by rw [o 84 (by decide) (by decide)]; exact hg b hb) f2 hjm _ ((f1.2 23 (by decide)).trans h23)
      · rw [f1.1 c h1 (by omega) (by omega) (by omega) (by omega), hfr.1 c h1 h2]
      · rw [f1.2 0 (by decide), hfr.2.1]
      · rw [f1.2 i (by omega), hfr.2.2 i hi]
      · exact mblk_to (hmr.1 b hb) (Nat.le_refl _) (fun c hc => by rw [o c (by omega) (by omega)]) (fun j _ => ⟨by rw [o 91 (by decide) (by decide)], by rw [o 92 (by decide) (by decide)], by rw [o 93 (by decide) (by decide)]⟩) (fun j v _ _ => by rw [o 94 (by decide) (by decide)])
  | succ r ih =>
    intro k i M1 p PS q s fu R hr hi hs hfu hmx hR h18 hst h23 h24 h33 hp hmr hg hjm hfr
    subst hi
    have hk : k < sf := by omega
    obtain ⟨fu', e1, hks, ov, h100, hmx', hbf, hjk⟩ := mxn_step hs hfu hmx hk hsf
    have c1 : ¬ M1 64 23 ≤ nI k := by rw [h23]; exact nI_ge hk (by omega)
    have vk : vp_in (nI k) 100 := vp_in_nI (by omega) (by decide)
    have vk1 : vp_in (nI k) 101 := vp_in_nI (by omega) (by decide)
    have ek : (nI k).toNatClampNeg = k := nI_clamp (by omega)
    have s1 := (hst k hk).1
    refine hK.1 [133] 60 133 _ _ _ _ _ ⟨fun z => absurd z c1, fun _ => ⟨vk1, vk, vk, vk, ?_⟩⟩
    rw [ek, nar_b0]
    have o : ∀ c l, (c < 83 ∨ 85 < c ∨ l ≠ k) → mc_put (mc_put (mc_put M1 83 k (M1 80 k)) 85 k (-1)) 84 k 0 c l = M1 c l := fun c l hc => by
      rw [mc_put_at, if_neg (by omega), mc_put_at, if_neg (by omega), mc_put_at, if_neg (by omega)]
    have of : ∀ c, (c < 83 ∨ 85 < c) → mc_put (mc_put (mc_put M1 83 k (M1 80 k)) 85 k (-1)) 84 k 0 c = M1 c := fun c hc => funext fun l => o c l (by omega)
    have e83 : mc_put (mc_put (mc_put M1 83 k (M1 80 k)) 85 k (-1)) 84 k 0 83 k = nI (qf k).1 := by rw [mc_put_at, if_neg (by omega), mc_put_at, if_neg (by omega), mc_put_at, if_pos ⟨rfl, rfl⟩, s1]
    have e85 : mc_put (mc_put (mc_put M1 83 k (M1 80 k)) 85 k (-1)) 84 k 0 85 k = -1 := by rw [mc_put_at, if_neg (by omega), mc_put_at, if_pos ⟨rfl, rfl⟩]
    have e84 : mc_put (mc_put (mc_put M1 83 k (M1 80 k)) 85 k (-1)) 84 k 0 84 k = 0 := by rw [mc_put_at, if_pos ⟨rfl, rfl⟩]
    generalize mc_put (mc_put (mc_put M1 83 k (M1 80 k)) 85 k (-1)) 84 k 0 = M2 at *
    have hR2 : mxR T m P D M2 := mxR_to hR (by rw [of 64 (by decide)]) (by rw [of 64 (by decide)]) (fun c _ _ _ _ _ _ _ => of c (by omega))
    refine cR_work1 (p0 := p) hT hR2 hkp hcl hsf hk (by rw [of 64 (by decide)]; exact h18) (mst_to hst (of 80 (by decide)) (of 81 (by decide))) hwf (by rw [of 64 (by decide)]; exact h33) (by omega) e83 e85 (by rw [hbf]) rfl (by omega) (fun M3 ps p' f1 f2 f3 f4 f5 f6 f7 f8 => ?_)
    rw [hbf] at f8
    have hR3 : mxR T m P D M3 := mxR_to hR2 (f1.2.1 1 (by decide) (by decide)) (f1.2.1 21 (by decide) (by decide)) (fun c _ _ h3 h4 h5 h6 h7 => f1.1 c (by omega) h4 h5 h6 h7 (by omega))
    refine ih (k + 1) _ M3 p' (fun b => if b = k then ps else PS b) (sp_blk T (255 &&& (D ^^^ (-1))) kept P (q, s, false) k).1.1 (sp_blk T (255 &&& (D ^^^ (-1))) kept P (q, s, false) k).1.2.1 fu' (fun i => if i = k then (sp_blk T (255 &&& (D ^^^ (-1))) kept P (q, s, false) k).2 else R i) (by omega) (nI_1 k) h100 (by omega) ?_ hR3 f3 f2 ?_ ?_ f4 (by omega) ⟨fun b hb => ?_, fun b c hb hc hbc t ht => ?_⟩ (fun b hb => ?_) (fun b hb => ?_) ⟨fun c h1 h2 => ?_, ?_, fun i hi => ?_⟩
    · rw [← hmx']
      rw [← st_eta ov]
    · rw [f1.2.1 23 (by decide) (by decide), of 64 (by decide), h23]
    · rw [f1.2.1 24 (by decide) (by decide), of 64 (by decide), h24]
    · dsimp only
      by_cases e : b = k
      · subst e
        rw [if_pos rfl]
        exact f8
      · rw [if_neg e]
        refine mblk_to (hmr.1 b (by omega)) f5 (fun c hc => ?_) (fun j hj => ?_) (fun j v hj hv => ?_)
        · rcases hc with hc | hc
          · subst hc
            rw [f1.1 83 (by decide) (by decide) (by decide) (by decide) (by decide) (by decide), o 83 b (by omega)]
          · rw [f1.2.2.1 c hc.1 hc.2 b e, o c b (by omega)]
        · obtain ⟨w1, w2, w3⟩ := f1.2.2.2.1 j hj
          exact ⟨by rw [w1, of 91 (by decide)], by rw [w2, of 92 (by decide)], by rw [w3, of 93 (by decide)]⟩
        · rw [f1.2.2.2.2 j v hj hv, of 94 (by decide)]
    · dsimp only at ht ⊢
      by_cases eb : b = k
      · rw [if_pos eb] at ht
        rw [if_neg (fun z => hbc (eb.trans z.symm))]
        intro z
        have q1 := f7 t ht
        have q2 := ((hmr.1 c (by omega)).2.2.2.2.1 t z).1
        omega
      · rw [if_neg eb] at ht
        have q2 := ((hmr.1 b (by omega)).2.2.2.2.1 t ht).1
        by_cases ec : c = k
        · rw [if_pos ec]
          intro z
          have q1 := f7 t z
          omega
        · rw [if_neg ec]
          exact hmr.2 b c (by omega) (by omega) hbc t ht
    · rw [f1.1 84 (by decide) (by decide) (by decide) (by decide) (by decide) (by decide)]
      by_cases e : b = k
      · rw [e, e84]
      · rw [o 84 b (by omega)]
        exact hg b (by omega)
    · by_cases e : b = k
      · rw [e]
        exact hjk
      · exact hjm b (by omega)
    · rw [f1.1 c h1 (by omega) (by omega) (by omega) (by omega) (by omega), of c (by omega), hfr.1 c h1 h2]
    · rw [f1.2.1 0 (by decide) (by decide), of 64 (by decide), hfr.2.1]
    · rw [f1.2.1 i (by omega) (by omega), of 64 (by decide), hfr.2.2 i hi]
theorem cR_mix (hT : nt_ok T m) (hN : nt_R M T m) (hP : pgR M m P) (hJ : pjR M m P) {e : Nat → Int32} (he : ∀ v, v < 8 → M 77 v = e v) {x D : Int32} (hD : D = sp_dit T P 8 (255 &&& (x ^^^ (-1)))) {kept : Nat → Int32} (hkp : kept = fun b => (255 &&& (D ^^^ (-1))) &&& sp_Y T P b) {R0 : Nat → Blk} {r : (Stt × Nat × Bool) × (Nat → Blk)} (hr : r = sp_mx T (255 &&& (D ^^^ (-1))) kept P 100 0 (sp_come kept (fun _ => (0, fun _ => 0)) 0 false e 0).1 R0) (hd : 5 ≤ d)
    (h1 : ¬ (0 ≤ x ∧ x ≤ 255) → ∀ M', M' = mc_put M 64 0 1 → Q (some (.int 0)) M' L)
    (hov : 0 ≤ x → x ≤ 255 → r.1.2.2 = true → ∀ M', mxf0 M M' → Q (some (.int (-1))) M' L)
    (h0 : 0 ≤ x → x ≤ 255 → r.1.2.2 = false → r.1.2.1 ≤ 100 → ∀ M' PS pb, mxf M M' → M' 64 23 = nI r.1.2.1 → M' 64 24 = D → pb ≤ 1100 → mrs T m (255 &&& (D ^^^ (-1))) M' pb r.1.2.1 r.2 PS → (∀ b, b < r.1.2.1 → M' 84 b = 0) → txR M' (sp_tx T (255 &&& (D ^^^ (-1))) r.1.2.1 r.2) → (∀ b, b < r.1.2.1 → jm_ok (r.2 b).2.2 r.1.2.1) → ∀ y, y = nI r.1.2.1 → Q (some (.int y)) M' L) : ctR_mix g d [.ref 64, .int x] n M L Q := by
  obtain ⟨d, rfl⟩ := Nat.exists_eq_add_of_le' (show 1 ≤ d by omega)
  have hm := hT.1
  have hlt := pgR_lt hP
  have hpt := pjR_pt hJ
  have hne : ¬ (255 &&& (x ^^^ (-1))) = -1 := fun z => by
    have h8 : (255 &&& (x ^^^ (-1))).toBitVec.getLsbD 8 = (-1 : Int32).toBitVec.getLsbD 8 := by rw [z]
    rw [Int32.toBitVec_and, BitVec.getLsbD_and] at h8
    have a1 : (255 : Int32).toBitVec.getLsbD 8 = false := by decide
    have a2 : (-1 : Int32).toBitVec.getLsbD 8 = true := by decide
    rw [a1, a2] at h8
    cases h8
  have hkp' : ∀ b, b < 16 → kept b = (255 &&& (D ^^^ (-1))) &&& sp_Y T P b := fun b _ => by rw [hkp]
  have hfix : sp_dr T P 16 0 D = D := by
    rw [hD]
    exact sp_dit_fix hlt 8 _ (by omega)
  have hcl : ∀ b, b < 16 → scl T (255 &&& (D ^^^ (-1))) (P b).2.1 := fun b hb => scl_of hlt hfix hb
  refine inR_mix (Nat.le_of_ble_eq_true rfl) (fun K hK => hK.1 [38] 60 0 _ _ _ _ _ (cR_within (by omega) (fun l0 l2 => cR_goes (one := true) (two := true) rfl rfl (by omega) (fun _ _ M1 hM1 => ⟨fun _ => ?_, fun z => absurd z (by decide)⟩) (fun z => by cases z) (fun _ z => by cases z)) (fun w => cR_goes (one := false) (two := true) rfl rfl (by omega) (fun z => by cases z) (fun _ M' hM => ⟨fun z => absurd rfl z, fun _ => ⟨Nat.le_refl _, h1 w M' hM⟩⟩) (fun z => by cases z))))
  have hov' := hov l0 l2
  have h0' := h0 l0 l2
  have o1 : ∀ c, c ≠ 64 → M1 c = M c := fun c hc => by
    rw [hM1]
    funext w
    rw [mc_put_at, if_neg (fun z => hc z.1)]
  have o1i : ∀ i, i ≠ 0 → M1 64 i = M 64 i := fun i hi => by rw [hM1, mc_put_at, if_neg (fun z => hi z.2)]
  have o10 : M1 64 0 = 0 := by rw [hM1, mc_put_at, if_pos ⟨rfl, rfl⟩]
  have hN1 : nt_R M1 T m := nt_R_to hN (o1i 1 (by decide)) (fun c _ _ => o1 c (by omega))
  have hP1 : pgR M1 m P := pgR_to hP (fun c _ _ => o1 c (by omega))
  have hJ1 : pjR M1 m P := pjR_to hJ (fun c _ _ => o1 c (by omega))
  refine cR_dynamics hm hN1 hP1 hne (by omega) (fun rd hrd => ?_)
  have eD : rd = D := hrd.trans hD.symm
  subst eD
  have o2 : ∀ c, c ≠ 64 → mc_put M1 64 21 rd c = M1 c := fun c hc => funext fun w => by rw [mc_put_at, if_neg (fun z => hc z.1)]
  have o2i : ∀ i, i ≠ 21 → mc_put M1 64 21 rd 64 i = M1 64 i := fun i hi => by rw [mc_put_at, if_neg (fun z => hi z.2)]
  have o2d : mc_put M1 64 21 rd 64 21 = rd := by rw [mc_put_at, if_pos ⟨rfl, rfl⟩]
  refine cR_allLive hT (nt_R_to hN1 (o2i 1 (by decide)) (fun c _ _ => o2 c (by omega))) (pgR_to hP1 (fun c _ _ => o2 c (by omega))) (pjR_to hJ1 (fun c _ _ => o2 c (by omega))) (by omega) (fun M3 hl3 => ?_)
  have o4 : ∀ c, c ≠ 64 → mc_put M3 64 18 0 c = M3 c := fun c hc => funext fun w => by rw [mc_put_at, if_neg (fun z => hc z.1)]
  have o4i : ∀ i, i ≠ 18 → mc_put M3 64 18 0 64 i = M3 64 i := fun i hi => by rw [mc_put_at, if_neg (fun z => hi z.2)]
  have o4d : mc_put M3 64 18 0 64 18 = 0 := by rw [mc_put_at, if_pos ⟨rfl, rfl⟩]
  show K 38 [some (.ref 64), some (.int x), some (.int 0), none] [] n (mc_put M3 64 18 0) L
  generalize mc_put M3 64 18 0 = M4 at *
  have m64 : M3 64 = mc_put M1 64 21 rd 64 := hl3.1 64 (by decide)
  have hR4 : mxR T m P rd M4 := by
    refine ⟨nt_R_to hN1 (by rw [o4i 1 (by decide), m64, o2i 1 (by decide)]) (fun c _ _ => by rw [o4 c (by omega), hl3.1 c (by omega), o2 c (by omega)]), pgR_to hP1 (fun c _ _ => by rw [o4 c (by omega), hl3.1 c (by omega), o2 c (by omega)]), pjR_to hJ1 (fun c _ _ => by rw [o4 c (by omega), hl3.1 c (by omega), o2 c (by omega)]), by rw [o4i 21 (by decide), m64, o2d], fun b hb => ?_⟩
    rw [o4 82 (by decide)]
    exact hl3.2 b hb
  have f4 : mxf0 M M4 := ⟨fun c h1 h2 => by rw [o4 c h1, hl3.1 c (by omega), o2 c h1, o1 c h1], by rw [o4i 0 (by decide), m64, o2i 0 (by decide), o10], fun i h1 h2 h3 => by rw [o4i i h2, m64, o2i i h3, o1i i h1]⟩
  -- the first pass
  have fp : ∀ (fu k : Nat) (q : Stt) (s : Nat) (M5 : mc_M) (R : Nat → Blk) (i fi : Int32), 100 ≤ fu + k → k ≤ 100 → i = nI k → s ≤ 100 → mxR T m P rd M5 → M5 64 18 = nI s → mst M5 kept q s → qwf kept q s → mxf0 M M5 → r = sp_mx T (255 &&& (rd ^^^ (-1))) kept P fu k (q, s, false) R → K 70 [some (.ref 64), some (.int x), some (.int fi), some (.int i)] [] n M5 L := by
    have en : ∀ (k : Nat) (q : Stt) (s : Nat) (M5 : mc_M) (R : Nat → Blk) (i fi : Int32), s ≤ 100 → mxR T m P rd M5 → M5 64 18 = nI s → mst M5 kept q s → qwf kept q s → mxf0 M M5 → r = ((q, s, false), R) → K 99 [some (.ref 64), some (.int x), some (.int fi), some (.int i)] [] n M5 L := fun k q s M5 R i fi hs hR h18 hst hw hf hr' => by
      have c1 : M5 64 18 ≤ 100 := by rw [h18]; exact nI_le (b := 100) hs (by decide)
      rw [hr'] at h0'
      have q0 : (sp_come kept (fun _ => (0, fun _ => 0)) 0 false e 0).1 = ((sp_come kept (fun _ => (0, fun _ => 0)) 0 false e 0).1.1, 1, false) := by
        unfold sp_come sp_look
        rfl
      refine hK.1 [133] 60 99 _ _ _ _ _ ⟨fun _ => ?_, fun z => absurd c1 z⟩
      have p1 : ∀ c, c ≠ 64 → mc_put (mc_put (mc_put M5 64 23 (M5 64 18)) 64 24 (M5 64 21)) 64 33 0 c = M5 c := fun c hc => funext fun w => by rw [mc_put_at, if_neg (fun z => hc z.1), mc_put_at, if_neg (fun z => hc z.1), mc_put_at, if_neg (fun z => hc z.1)]
      have p2 : ∀ i, i ≠ 23 → i ≠ 24 → i ≠ 33 → mc_put (mc_put (mc_put M5 64 23 (M5 64 18)) 64 24 (M5 64 21)) 64 33 0 64 i = M5 64 i := fun i h1 h2 h3 => by rw [mc_put_at, if_neg (fun z => h3 z.2), mc_put_at, if_neg (fun z => h2 z.2), mc_put_at, if_neg (fun z => h1 z.2)]
      have p3 : mc_put (mc_put (mc_put M5 64 23 (M5 64 18)) 64 24 (M5 64 21)) 64 33 0 64 33 = 0 := by rw [mc_put_at, if_pos ⟨rfl, rfl⟩]
      have p4 : mc_put (mc_put (mc_put M5 64 23 (M5 64 18)) 64 24 (M5 64 21)) 64 33 0 64 24 = rd := by rw [mc_put_at, if_neg (by decide), mc_put_at, if_pos ⟨rfl, rfl⟩, hR.2.2.2.1]
      have p5 : mc_put (mc_put (mc_put M5 64 23 (M5 64 18)) 64 24 (M5 64 21)) 64 33 0 64 23 = nI s := by rw [mc_put_at, if_neg (by decide), mc_put_at, if_neg (by decide), mc_put_at, if_pos ⟨rfl, rfl⟩, h18]
      show K 133 [some (.ref 64), some (.int x), some (.int fi), some (.int 0)] [] n (mc_put (mc_put (mc_put M5 64 23 (M5 64 18)) 64 24 (M5 64 21)) 64 33 0) L
      generalize mc_put (mc_put (mc_put M5 64 23 (M5 64 18)) 64 24 (M5 64 21)) 64 33 0 = M6 at *
      rw [hr'] at hr
      refine mix_2 (M := M) hT hkp' hcl hs hw (by omega) (fun M' PS pb g1 g2 g3 g4 g5 g6 g7 g8 y hy => h0' rfl hs M' PS pb g1 g2 g3 g4 g5 g6 g7 g8 y hy) K hK s 0 0 M6 0 (fun _ => []) _ 1 100 R0 rfl rfl (by omega) (by omega) (by rw [← q0]; exact hr.symm) (mxR_to hR (p2 1 (by decide) (by decide) (by decide)) (p2 21 (by decide) (by decide) (by decide)) (fun c _ _ _ _ _ _ _ => p1 c (by omega))) (by rw [p2 18 (by decide) (by decide) (by decide)]; exact h18) (mst_to hst (p1 80 (by decide)) (p1 81 (by decide))) p5 p4 p3 (Nat.le_refl _) ⟨fun b hb => absurd hb (Nat.not_lt_zero _), fun b c hb => absurd hb (Nat.not_lt_zero _)⟩ (fun b hb => absurd hb (Nat.not_lt_zero _)) (fun b hb => absurd hb (Nat.not_lt_zero _)) ⟨fun c z1 z2 => ?_, ?_, fun i hi => ?_⟩
      · rw [p1 c z1, hf.1 c z1 (by omega)]
      · rw [p2 0 (by decide) (by decide) (by decide), hf.2.1]
      · rw [p2 i (by omega) (by omega) (by omega), hf.2.2 i (by omega) (by omega) (by omega)]
    intro fu
    induction fu with
    | zero =>
      intro k q s M5 R i fi hfu hk hi hs hR h18 hst hw hf hr'
      subst hi
      have c1 : M5 64 18 ≤ nI k := by rw [h18]; exact nI_le (by omega) (by omega)
      exact hK.1 [99] 20 70 _ _ _ _ _ ⟨fun _ => en k q s M5 R _ _ hs hR h18 hst hw hf hr', fun z => absurd c1 z⟩
    | succ fu ih =>
      intro k q s M5 R i fi hfu hk hi hs hR h18 hst hw hf hr'
      subst hi
      by_cases hks : k < s
      · have c1 : ¬ M5 64 18 ≤ nI k := by rw [h18]; exact nI_ge hks (by omega)
        have c2 : ¬ (101 : Int32) ≤ M5 64 18 := by rw [h18]; exact nI_ge (b := 101) (by omega) (by decide)
        unfold sp_mx at hr'
        rw [if_pos ⟨hks, rfl⟩] at hr'
        have kp : ∀ M6, w0fr M5 M6 → mxf0 M M6 := fun M6 w => ⟨fun c z1 z2 => by rw [w.1 c z1 (by omega) (by omega) (by omega) (by omega), hf.1 c z1 z2], by rw [w.2 0 (by decide), hf.2.1], fun i z1 z2 z3 => by rw [w.2 i z2, hf.2.2 i z1 z2 z3]⟩
        refine hK.1 [70] 40 70 _ _ _ _ _ ⟨fun z => absurd z c1, fun _ => ⟨fun z => absurd z c2, fun _ => cR_work0 hT hR hkp' hcl hs hks h18 hst hw rfl (by omega) (fun ov M6 w1 w2 w3 => ?_) (fun ov M6 w1 w2 => ?_)⟩⟩
        · have eta : (sp_blk T (255 &&& (rd ^^^ (-1))) kept P (q, s, false) k).1 = ((sp_blk T (255 &&& (rd ^^^ (-1))) kept P (q, s, false) k).1.1, (sp_blk T (255 &&& (rd ^^^ (-1))) kept P (q, s, false) k).1.2.1, false) := st_eta ov
          rw [eta] at hr'
          exact ih (k + 1) _ _ M6 _ _ _ (by omega) (by omega) (nI_1 k) (mixj_100 hs) (mxR_to hR (w1.2 1 (by decide)) (w1.2 21 (by decide)) (fun c _ _ _ h4 h5 h6 h7 => w1.1 c (by omega) h4 h5 h6 h7)) w2 w3 (mixj_wf hw) (kp M6 w1) hr'
        · rw [mx_ov fu (k + 1) _ ov] at hr'
          have c3 : ¬ M6 64 18 ≤ nI k + 1 := by rw [w2, nI_1]; exact nI_ge (by omega) (by decide)
          have c4 : (101 : Int32) ≤ M6 64 18 := by rw [w2]; decide
          have c5 : ¬ M6 64 18 ≤ 100 := by rw [w2]; decide
          have q := hov' (by rw [hr']; exact ov) M6 (kp M6 w1)
          have k99 : ∀ y z, K 99 [some (.ref 64), some (.int x), y, z] [] n M6 L := fun y z => hK.1 [] 20 99 _ _ _ _ _ ⟨fun z => absurd z c5, fun _ => ⟨Nat.le_refl _, q⟩⟩
          exact hK.1 [99] 20 70 _ _ _ _ _ ⟨fun z => absurd z c3, fun _ => ⟨fun _ => k99 _ _, fun z => absurd c4 z⟩⟩
      · have c1 : M5 64 18 ≤ nI k := by rw [h18]; exact nI_le (by omega) (by omega)
        unfold sp_mx at hr'
        rw [if_neg (fun z => hks z.1)] at hr'
        exact hK.1 [99] 20 70 _ _ _ _ _ ⟨fun _ => en k q s M5 R _ _ hs hR h18 hst hw hf hr', fun z => absurd c1 z⟩
  -- the inputs, and the first state
  have cp : ∀ (rr v : Nat) (i : Int32) (M5 : mc_M), rr + v = 8 → i = nI v → (∀ c, c ≠ 78 → M5 c = M4 c) → (∀ u, u < v → M5 78 u = M 77 u) → K 38 [some (.ref 64), some (.int x), some (.int i), none] [] n M5 L := by
    intro rr
    induction rr with
    | zero =>
      intro v i M5 hv hi e1 e2
      subst hi
      have c1 : (8 : Int32) ≤ nI v := nI_le (a := 8) (by omega) (by omega)
      have hR5 : mxR T m P rd M5 := mxR_to hR4 (by rw [e1 64 (by decide)]) (by rw [e1 64 (by decide)]) (fun c _ _ _ h4 _ _ _ => e1 c h4)
      have ovF : (sp_come kept (fun _ => (0, fun _ => 0)) 0 false e 0).1.2.2 = false := by
        unfold sp_come sp_look
        rfl
      have s1 : (sp_come kept (fun _ => (0, fun _ => 0)) 0 false e 0).1.2.1 = 1 := by
        unfold sp_come sp_look
        rfl
      have eta : (sp_come kept (fun _ => (0, fun _ => 0)) 0 false e 0).1 = ((sp_come kept (fun _ => (0, fun _ => 0)) 0 false e 0).1.1, (sp_come kept (fun _ => (0, fun _ => 0)) 0 false e 0).1.2.1, false) := st_eta ovF
      rw [eta] at hr
      refine hK.1 [70] 40 38 _ _ _ _ _ ⟨fun _ => cR_stateC (E := e) (q := fun _ => (0, fun _ => 0)) (s := 0) (b := 0) rfl (by decide) (by omega) (by rw [e1 64 (by decide), o4d]; rfl) (kept_bit hkp' hR5 (by decide)) (fun k hk => absurd hk (Nat.not_lt_zero _)) (fun k hk => absurd hk (Nat.not_lt_zero _)) (fun v hv _ => by rw [e2 v (by omega), he v hv]) (by omega) (fun _ r2 M6 hr2 fr a1 a2 => ?_) (fun z => by rw [ovF] at z; cases z), fun z => absurd c1 z⟩
      refine fp 100 0 _ _ M6 R0 _ _ (by omega) (by omega) rfl (by rw [s1]; omega) (mxR_to hR5 (fr.2 1 (by decide)) (fr.2 21 (by decide)) (fun c _ _ _ _ _ h6 h7 => fr.1 c (by omega) h6 h7)) a1 a2 (qwf_come (fun k hk => absurd hk (Nat.not_lt_zero _))) ⟨fun c z1 z2 => ?_, ?_, fun i z1 z2 z3 => ?_⟩ hr
      · rw [fr.1 c z1 (by omega) (by omega), e1 c (by omega), f4.1 c z1 z2]
      · rw [fr.2 0 (by decide), e1 64 (by decide), f4.2.1]
      · rw [fr.2 i z2, e1 64 (by decide), f4.2.2 i z1 z2 z3]
    | succ rr ih =>
      intro v i M5 hv hi e1 e2
      subst hi
      have c1 : ¬ (8 : Int32) ≤ nI v := nI_ge (b := 8) (by omega) (by decide)
      have vv : vp_in (nI v) 8 := vp_in_nI (by omega) (by decide)
      have ev : (nI v).toNatClampNeg = v := nI_clamp (by omega)
      refine hK.1 [38] 40 38 _ _ _ _ _ ⟨fun z => absurd z c1, fun _ => ⟨vv, vv, ih (v + 1) _ _ (by omega) (nI_1 v) (fun c hc => ?_) (fun u hu => ?_)⟩⟩
      · funext w
        rw [mc_put_at, if_neg (fun z => hc z.1), e1 c hc]
      · rw [mc_put_at, ev, e1 77 (by decide), f4.1 77 (by decide) (by decide)]
        by_cases eq : u = v
        · rw [if_pos ⟨rfl, eq⟩, eq]
        · rw [if_neg (fun z => eq z.2), e2 u (by omega)]
  exact cp 8 0 0 M4 rfl rfl (fun _ _ => rfl) (fun u hu => absurd hu (Nat.not_lt_zero _))
end MIX
