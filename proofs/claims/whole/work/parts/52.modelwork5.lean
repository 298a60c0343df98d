/-! A residual block as the model holds it -/
def mblk (T : Nat → Nat → Int32) (m : Nat) (S : Int32) (M : mc_M) (pb b : Nat) (B : Blk) (ps : List Nat) : Prop :=
  M 83 b = B.1 ∧ pch (M 91) (M 85 b) ps ∧ (∀ x, ps.getLast? = some x → M 86 b = nI x) ∧ ps.Nodup ∧ (∀ s ∈ ps, s < pb ∧ mp_ok M m s) ∧ B.2.1 = ps.map (mp_as T S M) ∧ M 87 b = B.2.2.1 ∧ (∃ j nd, j < pb ∧ j < 1100 ∧ M 90 b = nI j ∧ jnR m (M 93 j) nd ∧ B.2.2.2.1 = (nd, fl_fr T S (M 94) j nd)) ∧ M 88 b = B.2.2.2.2.1 ∧ M 89 b = B.2.2.2.2.2
theorem mblk_to {T : Nat → Nat → Int32} {m : Nat} {S : Int32} {M M' : mc_M} {pb pb' b : Nat} {B : Blk} {ps : List Nat} (h : mblk T m S M pb b B ps) (hp : pb ≤ pb') (h1 : ∀ c, c = 83 ∨ (85 ≤ c ∧ c ≤ 90) → M' c b = M c b) (h2 : ∀ j, j < pb → M' 91 j = M 91 j ∧ M' 92 j = M 92 j ∧ M' 93 j = M 93 j) (h3 : ∀ j v, j < pb → v < 8 → M' 94 (j * 8 + v) = M 94 (j * 8 + v)) : mblk T m S M' pb' b B ps := by
  obtain ⟨a1, a2, a3, a4, a5, a6, a7, ⟨j, nd, b1, b2, b3, b4, b5⟩, a9, a10⟩ := h
  refine ⟨by rw [h1 83 (Or.inl rfl)]; exact a1, ?_, fun x hx => by rw [h1 86 (by omega)]; exact a3 x hx, a4, fun s hs => ?_, ?_, by rw [h1 87 (by omega)]; exact a7, ⟨j, nd, by omega, b2, by rw [h1 90 (by omega)]; exact b3, by rw [(h2 j b1).2.2]; exact b4, by rw [b5, fl_fr_eq (fun v hv => h3 j v b1 hv)]⟩, by rw [h1 88 (by omega)]; exact a9, by rw [h1 89 (by omega)]; exact a10⟩
  · rw [h1 85 (by omega)]
    exact pch_congr (fun s hs => (h2 s (a5 s hs).1).1) a2
  · obtain ⟨q1, v, k, q2, q3, q4, q5⟩ := a5 s hs
    exact ⟨by omega, v, k, q2, q3, by rw [(h2 s q1).2.1]; exact q4, by rw [(h2 s q1).2.2]; exact q5⟩
  · rw [a6]
    exact List.map_congr_left (fun s hs => (mp_as_eq (h2 s (a5 s hs).1).2.1 (h2 s (a5 s hs).1).2.2 (fun v hv => h3 s v (a5 s hs).1 hv)).symm)
def w1fr (k p0 : Nat) (M M' : mc_M) : Prop := (∀ c, c ≠ 64 → c ≠ 78 → c ≠ 79 → c ≠ 80 → c ≠ 81 → (c < 85 ∨ 94 < c) → M' c = M c) ∧ (∀ i, i ≠ 18 → i ≠ 33 → M' 64 i = M 64 i) ∧ (∀ c, 85 ≤ c → c ≤ 90 → ∀ j, j ≠ k → M' c j = M c j) ∧ (∀ j, j < p0 → M' 91 j = M 91 j ∧ M' 92 j = M 92 j ∧ M' 93 j = M 93 j) ∧ ∀ j v, j < p0 → v < 8 → M' 94 (j * 8 + v) = M 94 (j * 8 + v)
theorem sp_mixj_kind {T : Nat → Nat → Int32} {S : Int32} {kept : Nat → Int32} {q : Stt} {s : Nat} {ov : Bool} {E : Nat → Int32} {B : Blk} {op : Bool} (hop : op = true ↔ B.2.2.1 = 1 ∧ ¬ (T 4 B.2.2.2.1.1 &&& (S ^^^ (-1))) = 0) :
    (B.2.2.1 = 2 → (sp_mixj T S kept q s ov E B).2.1 = 2 ∧ (sp_mixj T S kept q s ov E B).2.2.1 = (B.2.2.2.1.1, fl_fr T S E 0 B.2.2.2.1.1)) ∧
    (¬ B.2.2.1 = 2 → op = true → (sp_mixj T S kept q s ov E B).2.1 = 1 ∧ (sp_mixj T S kept q s ov E B).2.2.1 = (B.2.2.2.1.1, fl_fr T S E 0 B.2.2.2.1.1)) ∧
    (¬ B.2.2.1 = 2 → op = false → (sp_mixj T S kept q s ov E B).2.1 = 0 ∧ (sp_mixj T S kept q s ov E B).2.2.1 = (150, fl_fr T S E 0 150)) := by
  unfold sp_mixj
  refine ⟨fun h => ?_, fun h ho => ?_, fun h ho => ?_⟩
  · rw [if_pos h]
    exact ⟨rfl, rfl⟩
  · rw [if_neg h, if_pos (hop.mp ho)]
    exact ⟨rfl, rfl⟩
  · rw [if_neg h, if_neg (fun z => by rw [hop.mpr z] at ho; cases ho)]
    exact ⟨rfl, rfl⟩
section WK4
variable {g : mc_G} {d n : Nat} {M : mc_M} {L : mc_L} {Q : Option Value → mc_M → mc_L → Prop} {T : Nat → Nat → Int32} {m : Nat} {P : Nat → Blk} {K : mc_K}
/-- the jump is written -/
theorem wk_323 (hK : mc_closed true tab0 n 0 none (shR_work g (d + 1)) Q (fun _ _ _ => False) tbR_work K) {k p : Nat} (hk : k < 100) (h33 : M 64 33 = nI p) (hp : p < 1100) {kd one two nd w y a c : Int32}
    (h : ∀ M', (∀ c, c ≠ 64 → (c < 87 ∨ 94 < c) → M' c = M c) → (∀ i, i ≠ 33 → M' 64 i = M 64 i) → M' 64 33 = nI (p + 1) → (∀ j, M' 87 j = if j = k then kd else M 87 j) → (∀ j, M' 88 j = if j = k then one else M 88 j) → (∀ j, M' 89 j = if j = k then two else M 89 j) → (∀ j, M' 90 j = if j = k then nI p else M 90 j) → (∀ j, M' 91 j = if j = p then -1 else M 91 j) → (∀ j, M' 92 j = if j = p then -1 else M 92 j) → (∀ j, M' 93 j = if j = p then (if kd = 0 then -1 else nd) else M 93 j) → (∀ j v, v < 8 → M' 94 (j * 8 + v) = if j = p then M 78 v else M 94 (j * 8 + v)) → Q none M' L) :
    K 323 [some (.ref 64), some (.int (nI k)), some (.int w), some (.int y), some (.int nd), some (.int a), some (.int c), some (.int one), some (.int two)] [.int kd, .int (nI k), .ref 87] n M L := by
  have vk : vp_in (nI k) 100 := vp_in_nI hk (by decide)
  have ek : (nI k).toNatClampNeg = k := nI_clamp (by omega)
  have e87 : mc_put (mc_put (mc_put M 87 (nI k).toNatClampNeg kd) 88 (nI k).toNatClampNeg one) 89 (nI k).toNatClampNeg two 87 (nI k).toNatClampNeg = kd := by
    rw [mc_put_at, if_neg (by omega), mc_put_at, if_neg (by omega), mc_put_at, if_pos ⟨rfl, rfl⟩]
  have fin : ∀ x r M4, x = (if kd = 0 then -1 else nd) → r = nI p → ptR (mc_put (mc_put (mc_put M 87 (nI k).toNatClampNeg kd) 88 (nI k).toNatClampNeg one) 89 (nI k).toNatClampNeg two) M4 p (-1) x → Q none (mc_put M4 90 (nI k).toNatClampNeg r) L := fun x r M4 hx hr hpt => by
    rw [ek] at hpt ⊢
    obtain ⟨b1, b2, b3, b4, b5, b6⟩ := hpt
    refine h _ (fun c h1 h2 => ?_) (fun i hi => ?_) ?_ (fun j => ?_) (fun j => ?_) (fun j => ?_) (fun j => ?_) (fun j => ?_) (fun j => ?_) (fun j => ?_) (fun j v hv => ?_)
    · funext l
      rw [mc_put_at, if_neg (by omega), b1 c h1 (by omega) (by omega) (by omega) (by omega), mc_put_at, if_neg (by omega), mc_put_at, if_neg (by omega), mc_put_at, if_neg (by omega)]
    · rw [mc_put_at, if_neg (by omega), b2, if_neg hi]
      rfl
    · rw [mc_put_at, if_neg (by omega), b2, if_pos rfl]
    · rw [mc_put_at, if_neg (by omega), b1 87 (by decide) (by decide) (by decide) (by decide) (by decide), mc_put_at, if_neg (by omega), mc_put_at, if_neg (by omega), mc_put_at]
      by_cases e : j = k
      · rw [if_pos ⟨rfl, e⟩, if_pos e]
      · rw [if_neg (fun z => e z.2), if_neg e]
    · rw [mc_put_at, if_neg (by omega), b1 88 (by decide) (by decide) (by decide) (by decide) (by decide), mc_put_at, if_neg (by omega), mc_put_at]
      by_cases e : j = k
      · rw [if_pos ⟨rfl, e⟩, if_pos e]
      · rw [if_neg (fun z => e z.2), if_neg e]
        rfl
    · rw [mc_put_at, if_neg (by omega), b1 89 (by decide) (by decide) (by decide) (by decide) (by decide), mc_put_at]
      by_cases e : j = k
      · rw [if_pos ⟨rfl, e⟩, if_pos e]
      · rw [if_neg (fun z => e z.2), if_neg e]
        rfl
    · rw [mc_put_at]
      by_cases e : j = k
      · rw [if_pos ⟨rfl, e⟩, if_pos e, hr]
      · rw [if_neg (fun z => e z.2), if_neg e, b1 90 (by decide) (by decide) (by decide) (by decide) (by decide)]
        rfl
    · rw [mc_put_at, if_neg (by omega), b3]
      rfl
    · rw [mc_put_at, if_neg (by omega), b4]
      rfl
    · rw [mc_put_at, if_neg (by omega), b5, hx]
      rfl
    · rw [mc_put_at, if_neg (by omega), b6 j v hv]
      rfl
  by_cases hkd : kd = 0
  · have z0 := e87.trans hkd
    exact hK.1 [] 80 323 _ _ _ _ _ ⟨vk, vk, vk, vk, fun z => absurd z0 z, fun _ => cR_part h33 hp (by omega) (fun r M4 hr hpt => ⟨vk, Nat.le_refl _, fin _ r M4 (by rw [if_pos hkd]) hr hpt⟩)⟩
  · have z0 : ¬ mc_put (mc_put (mc_put M 87 (nI k).toNatClampNeg kd) 88 (nI k).toNatClampNeg one) 89 (nI k).toNatClampNeg two 87 (nI k).toNatClampNeg = 0 := fun z => hkd (e87.symm.trans z)
    exact hK.1 [] 80 323 _ _ _ _ _ ⟨vk, vk, vk, vk, fun _ => cR_part h33 hp (by omega) (fun r M4 hr hpt => ⟨vk, Nat.le_refl _, fin _ r M4 (by rw [if_neg hkd]) hr hpt⟩), fun z => absurd z z0⟩
theorem cR_work1 {D : Int32} {kept : Nat → Int32} {q : Stt} {s k p0 : Nat} (hT : nt_ok T m) (hR : mxR T m P D M) (hkp : ∀ b, b < 16 → kept b = (255 &&& (D ^^^ (-1))) &&& sp_Y T P b) (hcl : ∀ b, b < 16 → scl T (255 &&& (D ^^^ (-1))) (P b).2.1) (hs : s ≤ 100) (hk : k < s) (h18 : M 64 18 = nI s) (hst : mst M kept q s) (hw : qwf kept q s) (h33 : M 64 33 = nI p0) (hp0 : p0 + 11 ≤ 1100) (h83 : M 83 k = nI (q k).1) (h85 : M 85 k = -1) (hkeep : (sp_blk T (255 &&& (D ^^^ (-1))) kept P (q, s, false) k).1 = (q, s, false)) {x : Int32} (hx : x = nI k) (hd : 2 ≤ d)
    (h : ∀ M' ps p, w1fr k p0 M M' → mst M' kept q s → M' 64 18 = nI s → M' 64 33 = nI p → p0 ≤ p → p ≤ p0 + 11 → (∀ x ∈ ps, p0 ≤ x) → mblk T m (255 &&& (D ^^^ (-1))) M' p k (sp_blk T (255 &&& (D ^^^ (-1))) kept P (q, s, false) k).2 ps → Q none M' L) : ctR_work g d [.ref 64, .int x, .int 1] n M L Q := by
  obtain ⟨d, rfl⟩ := Nat.exists_eq_add_of_le' (show 2 ≤ d from hd)
  subst hx
  have hR' := hR
  obtain ⟨hN, hP, hJ, h21, hY⟩ := hR
  have hm150 := hT.1
  obtain ⟨s1, s2, s3⟩ := hst k hk
  have vk : vp_in (nI k) 101 := vp_in_nI (by omega) (by decide)
  have ek : (nI k).toNatClampNeg = k := nI_clamp (by omega)
  have e80 : M 80 (nI k).toNatClampNeg = nI (q k).1 := by rw [ek, s1]
  have hpt := pjR_pt hJ
  have hlt := pgR_lt hP
  have yb := Y_back hT hlt hpt s2
  have ag : agr (255 &&& (D ^^^ (-1))) (sp_Y T P (q k).1) (q k).2 (fun v => M 81 (k * 8 + v)) := fun v hv hs hy => (s3 v hv (by rw [hkp _ s2, fl_bit_and _ _ hv, hs, hy]; rfl)).symm
  rw [yb] at ag
  obtain ⟨g1, g2⟩ := mixa_agr hT (P (q k).1).2.1 _ _ (hlt _ s2) (hcl _ s2) ag
  refine inR_work (Nat.le_of_ble_eq_true rfl) (fun K hK => hK.1 [10] 20 0 _ _ _ _ _ ⟨vk, wk_copy hK (by omega) e80 (fun i M1 e1 e2 => ?_) 8 0 0 M rfl rfl (fun _ _ => rfl) (fun u hu => absurd hu (Nat.not_lt_zero _))⟩)
  have hR1 : mxR T m P D M1 := mxR_to hR' (by rw [e1 64 (by decide)]) (by rw [e1 64 (by decide)]) (fun c _ _ _ h4 _ _ _ => e1 c h4)
  have e10 : (10 : Int32) * nI (q k).1 = nI ((q k).1 * 10 + 0) := by rw [show (10 : Int32) = nI 10 from rfl, nI_mul, Nat.mul_comm]; rfl
  have mp0 : mpt T m (255 &&& (D ^^^ (-1))) M1 k p0 p0 [] [] := ⟨by rw [e1 85 (by decide)]; exact h85, fun x hx => (by cases hx), List.nodup_nil, fun s hs => absurd hs List.not_mem_nil, by rw [e1 64 (by decide)]; exact h33, fun s hs => absurd hs List.not_mem_nil, rfl⟩
  refine hK.1 [48] 20 42 _ _ _ _ _ (wk_asg1 hK hT hR1 (by omega) s2 (by omega) (F := (sp_mixa T (255 &&& (D ^^^ (-1))) (P (q k).1).2.1 (fun v => M 81 (k * 8 + v))).1) (lF := (sp_mixa T (255 &&& (D ^^^ (-1))) (P (q k).1).2.1 (fun v => M 81 (k * 8 + v))).2) (fun i2 M2 ps p f1 f2 hp1 hp2 hmp => ?_) (P (q k).1).2.1.length 0 _ (fun v => M 81 (k * 8 + v)) M1 [] [] p0 rfl e10 (a1fr_n (fun _ _ _ => rfl)) (fun v hv => e2 v hv) (Nat.le_refl _) (Nat.le_refl _) mp0 rfl rfl)
  have fo : ∀ c, c ≠ 64 → c ≠ 78 → c ≠ 79 → (c < 85 ∨ 86 < c) → (c < 91 ∨ 94 < c) → M2 c = M c := fun c h1 h2 h3 h4 h5 => by rw [f1.1 c h1 h2 h3 (by omega) (by omega) (by omega) (by omega) (by omega) (by omega), e1 c h2]
  have hR2 : mxR T m P D M2 := mxR_to hR1 (f1.2.1 1 (by decide)) (f1.2.1 21 (by decide)) (fun c _ _ _ h4 h5 _ _ => f1.1 c (by omega) h4 h5 (by omega) (by omega) (by omega) (by omega) (by omega) (by omega))
  refine wk_158 hK hT hR2 s2 f2 (fun op ot M3 k1 hop hot => ?_)
  have hR3 : mxR T m P D M3 := mxR_to hR2 (by rw [k1 64 (by decide)]) (by rw [k1 64 (by decide)]) (fun c _ _ _ _ h5 _ _ => k1 c h5)
  have e78 : ∀ v, v < 8 → M3 78 v = (sp_mixa T (255 &&& (D ^^^ (-1))) (P (q k).1).2.1 (fun v => M 81 (k * 8 + v))).1 v := fun v hv => by rw [k1 78 (by decide), f2 v hv]
  have g2' : agr (255 &&& (D ^^^ (-1))) (T 4 (P (q k).1).2.2.2.1.1 ||| sp_at (sp_Y T P) (P (q k).1).2.2.2.2.1 ||| sp_at (sp_Y T P) (P (q k).1).2.2.2.2.2) (sp_mixa T (255 &&& (D ^^^ (-1))) (P (q k).1).2.1 (q k).2).1 (M3 78) := fun v hv hs hy => by rw [e78 v hv]; exact g2 v hv hs hy
  have h18' : M3 64 18 = nI s := by rw [k1 64 (by decide), f1.2.1 18 (by decide), e1 64 (by decide)]; exact h18
  have e74 : M2 74 (q k).1 = M 74 (q k).1 := by rw [fo 74 (by decide) (by decide) (by decide) (by decide) (by decide)]
  refine wk_229 hK hT hR3 hkp s2 hs h18' (mst_to hst (by rw [k1 80 (by decide), fo 80 (by decide) (by decide) (by decide) (by decide) (by decide)]) (by rw [k1 81 (by decide), fo 81 (by decide) (by decide) (by decide) (by decide) (by decide)])) hw g2' hop (hot.trans ?_) (fun one two M4 hJ => ?_)
  · rw [nd_val_env hT _ (fun v hv _ => (e78 v hv).symm)]
  · obtain ⟨j1, j2, -⟩ := hJ
    have hop' : op = true ↔ (P (q k).1).2.2.1 = 1 ∧ ¬ (T 4 (P (q k).1).2.2.2.1.1 &&& ((255 &&& (D ^^^ (-1))) ^^^ (-1))) = 0 := by rw [t4_known hT]; exact hop
    obtain ⟨kd2, kd1, kd0⟩ := sp_mixj_kind (kept := kept) (q := q) (s := s) (ov := false) (E := (sp_mixa T (255 &&& (D ^^^ (-1))) (P (q k).1).2.1 (q k).2).1) hop'
    have hJe : (sp_mixj T (255 &&& (D ^^^ (-1))) kept q s false (sp_mixa T (255 &&& (D ^^^ (-1))) (P (q k).1).2.1 (q k).2).1 (P (q k).1)).1 = (q, s, false) := hkeep
    obtain ⟨b1, b2, b3, b4⟩ := j2 (by rw [hJe])
    rw [hJe] at b1 b2
    have m4 : ∀ c, c ≠ 64 → c ≠ 80 → c ≠ 81 → M4 c = M3 c := j1.1
    have e73 : M4 73 (nI (q k).1).toNatClampNeg = (P (q k).1).2.2.1 := by
      rw [m4 73 (by decide) (by decide) (by decide), nI_clamp (by omega)]
      exact (hR3.2.2.1 _ s2).1
    have vb : vp_in (nI (q k).1) 16 := vp_in_nI s2 (by decide)
    have h33' : M4 64 33 = nI p := by rw [j1.2 33 (by decide), k1 64 (by decide)]; exact hmp.2.2.2.2.1
    have hjn := (hR2.2.2.1 _ s2).2.1
    have m42 : ∀ c, c ≠ 64 → c ≠ 79 → c ≠ 80 → c ≠ 81 → M4 c = M2 c := fun c h1 h2 h3 h4 => by rw [m4 c h1 h3 h4, k1 c h2]
    have fin : ∀ (kd : Int32) (nd : Nat) (fr : Nat → Int32), (sp_mixj T (255 &&& (D ^^^ (-1))) kept q s false (sp_mixa T (255 &&& (D ^^^ (-1))) (P (q k).1).2.1 (q k).2).1 (P (q k).1)).2.1 = kd → (sp_mixj T (255 &&& (D ^^^ (-1))) kept q s false (sp_mixa T (255 &&& (D ^^^ (-1))) (P (q k).1).2.1 (q k).2).1 (P (q k).1)).2.2.1 = (nd, fl_fr T (255 &&& (D ^^^ (-1))) (sp_mixa T (255 &&& (D ^^^ (-1))) (P (q k).1).2.1 (q k).2).1 0 nd) → jnR m (if kd = 0 then -1 else M2 74 (q k).1) nd → (nd = (P (q k).1).2.2.2.1.1 ∨ nd = 150) → K 323 [some (.ref 64), some (.int (nI k)), some (.int 1), some (.int (nI (q k).1)), some (.int (M2 74 (q k).1)), some (.int (bI op)), some (.int (bI ot)), some (.int one), some (.int two)] [.int kd, .int (nI k), .ref 87] n M4 L := fun kd nd fr z1 z2 z3 z4 => by
      refine wk_323 hK (by omega) h33' (by omega) (fun M5 c1 c2 c3 c4 c5 c6 c7 c8 c9 c10 c11 => ?_)
      obtain ⟨r1, r2, r3, r4, r5, r6, r7⟩ := hmp
      have px : ∀ s ∈ ps, s ≠ p := fun s hs z => by have := (r4 s hs).2; omega
      refine h M5 ps (p + 1) ⟨fun c h1 h2 h3 h4 h5 h6 => ?_, fun i h1 h2 => ?_, fun c h1 h2 j hj => ?_, fun j hj => ⟨?_, ?_, ?_⟩, fun j v hj hv => ?_⟩ (mst_to b2 (c1 80 (by decide) (by decide)) (c1 81 (by decide) (by decide))) ?_ c3 (by omega) (by omega) (fun x hx => (r4 x hx).1) ⟨?_, ?_, fun x hx => ?_, r3, fun s hs => ⟨by have := (r4 s hs).2; omega, ?_⟩, ?_, ?_, ⟨p, nd, by omega, by omega, ?_, ?_, ?_⟩, ?_, ?_⟩
      · rw [c1 c h1 (by omega), m42 c h1 h3 h4 h5, fo c h1 h2 h3 (by omega) (by omega)]
      · rw [c2 i h2, j1.2 i h1, k1 64 (by decide), f1.2.1 i h2, e1 64 (by decide)]
      · have hc : c = 85 ∨ c = 86 ∨ c = 87 ∨ c = 88 ∨ c = 89 ∨ c = 90 := by omega
        rcases hc with rfl | rfl | rfl | rfl | rfl | rfl
        · rw [c1 85 (by decide) (by decide), m42 85 (by decide) (by decide) (by decide) (by decide), (f1.2.2.1 j hj).1, e1 85 (by decide)]
        · rw [c1 86 (by decide) (by decide), m42 86 (by decide) (by decide) (by decide) (by decide), (f1.2.2.1 j hj).2, e1 86 (by decide)]
        · rw [c4, if_neg hj, m42 87 (by decide) (by decide) (by decide) (by decide), fo 87 (by decide) (by decide) (by decide) (by decide) (by decide)]
        · rw [c5, if_neg hj, m42 88 (by decide) (by decide) (by decide) (by decide), fo 88 (by decide) (by decide) (by decide) (by decide) (by decide)]
        · rw [c6, if_neg hj, m42 89 (by decide) (by decide) (by decide) (by decide), fo 89 (by decide) (by decide) (by decide) (by decide) (by decide)]
        · rw [c7, if_neg hj, m42 90 (by decide) (by decide) (by decide) (by decide), fo 90 (by decide) (by decide) (by decide) (by decide) (by decide)]
      · rw [c8, if_neg (by omega), m42 91 (by decide) (by decide) (by decide) (by decide), (f1.2.2.2.1 j hj).1, e1 91 (by decide)]
      · rw [c9, if_neg (by omega), m42 92 (by decide) (by decide) (by decide) (by decide), (f1.2.2.2.1 j hj).2.1, e1 92 (by decide)]
      · rw [c10, if_neg (by omega), m42 93 (by decide) (by decide) (by decide) (by decide), (f1.2.2.2.1 j hj).2.2, e1 93 (by decide)]
      · rw [c11 j v hv, if_neg (by omega), m42 94 (by decide) (by decide) (by decide) (by decide), f1.2.2.2.2 j v hj hv, e1 94 (by decide)]
      · rw [c2 18 (by decide)]
        exact b1
      · rw [c1 83 (by decide) (by decide), m42 83 (by decide) (by decide) (by decide) (by decide), fo 83 (by decide) (by decide) (by decide) (by decide) (by decide), h83]
        rfl
      · rw [c1 85 (by decide) (by decide), m42 85 (by decide) (by decide) (by decide) (by decide)]
        exact pch_congr (fun s hs => by rw [c8, if_neg (px s hs), m42 91 (by decide) (by decide) (by decide) (by decide)]) r1
      · rw [c1 86 (by decide) (by decide), m42 86 (by decide) (by decide) (by decide) (by decide)]
        exact r2 x hx
      · obtain ⟨v, k', y1, y2, y3, y4⟩ := r6 s hs
        exact ⟨v, k', y1, y2, by rw [c9, if_neg (px s hs), m42 92 (by decide) (by decide) (by decide) (by decide)]; exact y3, by rw [c10, if_neg (px s hs), m42 93 (by decide) (by decide) (by decide) (by decide)]; exact y4⟩
      · show (sp_mixa T (255 &&& (D ^^^ (-1))) (P (q k).1).2.1 (q k).2).2 = _
        rw [g1, r7]
        exact List.map_congr_left (fun s hs => (mp_as_eq (by rw [c9, if_neg (px s hs), m42 92 (by decide) (by decide) (by decide) (by decide)]) (by rw [c10, if_neg (px s hs), m42 93 (by decide) (by decide) (by decide) (by decide)]) (fun v hv => by rw [c11 s v hv, if_neg (px s hs), m42 94 (by decide) (by decide) (by decide) (by decide)])).symm)
      · rw [c4, if_pos rfl]
        exact z1.symm
      · rw [c7, if_pos rfl]
      · rw [c10, if_pos rfl]
        exact z3
      · refine z2.trans ?_
        congr 1
        have e1 : fl_fr T (255 &&& (D ^^^ (-1))) (M5 94) p nd = fl_fr T (255 &&& (D ^^^ (-1))) (M3 78) 0 nd := fl_fr_eq (fun v hv => by rw [c11 p v hv, if_pos rfl, m4 78 (by decide) (by decide) (by decide), Nat.zero_mul, Nat.zero_add])
        rw [e1]
        refine fl_fr_agr (fun v hv hs hb => ?_)
        rcases z4 with z4 | z4
        · rw [z4] at hb
          exact g2' v hv hs (by rw [fl_bit_or _ _ hv, fl_bit_or _ _ hv, hb]; rfl)
        · rw [z4, hT.2.2 4 150 (by omega), fl_bit_0] at hb
          cases hb
      · rw [c5, if_pos rfl]
        exact b3
      · rw [c6, if_pos rfl]
        exact b4
    by_cases e2 : (P (q k).1).2.2.1 = 2
    · obtain ⟨z1, z2⟩ := kd2 e2
      have f := fin 2 _ (fun _ => 0) z1 z2 (by rw [if_neg (by decide)]; exact hjn) (Or.inl rfl)
      have y2 := e73.trans e2
      exact hK.1 [323] 40 290 _ _ _ _ _ ⟨fun z => absurd z (by decide), fun _ => ⟨vb, fun z => absurd y2 z, fun _ => f⟩⟩
    · have n2 : ¬ M4 73 (nI (q k).1).toNatClampNeg = 2 := fun z => e2 (e73.symm.trans z)
      cases op with
      | true =>
        obtain ⟨z1, z2⟩ := kd1 e2 rfl
        have f := fin 1 _ (fun _ => 0) z1 z2 (by rw [if_neg (by decide)]; exact hjn) (Or.inl rfl)
        exact hK.1 [323] 40 290 _ _ _ _ _ ⟨fun z => absurd z (by decide), fun _ => ⟨vb, fun _ => ⟨fun z => absurd z (by decide), fun _ => f⟩, fun z => absurd z n2⟩⟩
      | false =>
        obtain ⟨z1, z2⟩ := kd0 e2 rfl
        have f := fin 0 _ (fun _ => 0) z1 z2 (by rw [if_pos rfl]; exact Or.inl ⟨rfl, rfl⟩) (Or.inr rfl)
        exact hK.1 [323] 40 290 _ _ _ _ _ ⟨fun z => absurd z (by decide), fun _ => ⟨vb, fun _ => ⟨fun _ => f, fun z => absurd rfl z⟩, fun z => absurd z n2⟩⟩
end WK4
