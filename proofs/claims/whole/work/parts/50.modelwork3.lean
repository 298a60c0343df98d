/-! The model's work without writing; the chains of parts -/
section WK2
variable {g : mc_G} {d n : Nat} {M : mc_M} {L : mc_L} {Q : Option Value → mc_M → mc_L → Prop} {T : Nat → Nat → Int32} {m : Nat} {P : Nat → Blk} {K : mc_K}
theorem wk_asg0 (hK : mc_closed true tab0 n 0 none (shR_work g (d + 1)) Q (fun _ _ _ => False) tbR_work K) {D : Int32} (hT : nt_ok T m) (hR : mxR T m P D M) {k b : Nat} (hb : b < 16) {F : Nat → Int32}
    (h : ∀ i M2, (∀ c, c ≠ 78 → c ≠ 79 → M2 c = M c) → (∀ v, v < 8 → M2 78 v = F v) → K 158 [some (.ref 64), some (.int (nI k)), some (.int 0), some (.int (nI b)), some (.int i), none, none, none, none] [] n M2 L) :
    ∀ (r a : Nat) (i : Int32) (E : Nat → Int32) (M1 : mc_M), r + a = (P b).2.1.length → i = nI (b * 10 + a) → (∀ c, c ≠ 78 → c ≠ 79 → M1 c = M c) → (∀ v, v < 8 → M1 78 v = E v) → (sp_mixa T (255 &&& (D ^^^ (-1))) ((P b).2.1.drop a) E).1 = F → K 48 [some (.ref 64), some (.int (nI k)), some (.int 0), some (.int (nI b)), some (.int i), none, none, none, none] [] n M1 L := by
  have hm150 := hT.1
  obtain ⟨hN, hP, hJ, h21, hY⟩ := hR
  obtain ⟨p1, p2, p3⟩ := hP b hb
  have vb : vp_in (nI b) 16 := vp_in_nI hb (by decide)
  have eb : (nI b).toNatClampNeg = b := nI_clamp (by omega)
  have e10 : (10 : Int32) * nI b = nI (b * 10) := by rw [show (10 : Int32) = nI 10 from rfl, nI_mul, Nat.mul_comm]
  intro r
  induction r with
  | zero =>
    intro a i E M1 hr hi e1 e2 hF
    subst hi
    rw [List.drop_eq_nil_of_le (by omega)] at hF
    have c1 : 10 * nI b + M1 70 (nI b).toNatClampNeg ≤ nI (b * 10 + a) := by
      rw [e10, eb, e1 70 (by decide) (by decide), p1, nI_add]
      exact nI_le (by omega) (by omega)
    exact hK.1 [158] 40 48 _ _ _ _ _ ⟨vb, fun _ => h _ M1 e1 (fun v hv => by rw [e2 v hv, ← hF]; rfl), fun z => absurd c1 z⟩
  | succ r ih =>
    intro a i E M1 hr hi e1 e2 hF
    subst hi
    obtain ⟨v, nd, hv, hnd, hlk, m71, m72⟩ := p3 a (by omega)
    have hil := (List.getElem?_eq_some_iff.mp hlk).1
    have hdr : (P b).2.1.drop a = (v, nd, fun _ => 0) :: (P b).2.1.drop (a + 1) := by rw [List.drop_eq_getElem_cons hil, (List.getElem?_eq_some_iff.mp hlk).2]
    rw [hdr] at hF
    unfold sp_mixa at hF
    have c1 : ¬ 10 * nI b + M1 70 (nI b).toNatClampNeg ≤ nI (b * 10 + a) := by
      rw [e10, eb, e1 70 (by decide) (by decide), p1, nI_add]
      exact nI_ge (by omega) (by omega)
    have ei : (nI (b * 10 + a)).toNatClampNeg = b * 10 + a := nI_clamp (by omega)
    have vi : vp_in (nI (b * 10 + a)) 160 := vp_in_nI (by omega) (by decide)
    have e71 : M1 71 (nI (b * 10 + a)).toNatClampNeg = nI v := by rw [ei, e1 71 (by decide) (by decide), m71]
    have e72 : M1 72 (nI (b * 10 + a)).toNatClampNeg = nI nd := by rw [ei, e1 72 (by decide) (by decide), m72]
    have vv : vp_in (M1 71 (nI (b * 10 + a)).toNatClampNeg) 8 := by rw [e71]; exact vp_in_nI hv (by decide)
    have e21 : M1 64 21 = D := by rw [e1 64 (by decide) (by decide), h21]
    have hN1 : nt_R M1 T m := nt_R_to hN (by rw [e1 64 (by decide) (by decide)]) (fun c _ _ => e1 c (by omega) (by omega))
    have nx : nI (b * 10 + a) + 1 = nI (b * 10 + (a + 1)) := nI_1 _
    cases hD : fl_bit D v with
    | true =>
      have hb1 : (M1 64 21 >>> (M1 71 (nI (b * 10 + a)).toNatClampNeg &&& 31)) &&& 1 = 1 := by rw [e21, e71]; exact fl_bit_t.mp hD
      rw [st_bit D hv, hD, if_neg (by decide)] at hF
      refine hK.1 [48] 60 48 _ _ _ _ _ ⟨vb, fun z => absurd z c1, fun _ => ⟨vi, fun z => absurd hb1 z, fun _ => ⟨fun z => absurd z (by decide), fun _ => ⟨fun _ => ⟨fun _ => ?_, fun z => absurd z (by decide)⟩, fun z => absurd rfl z⟩⟩⟩⟩
      refine hK.2 [true, true, true, true, true, false, true, true, true] _ _ _ _ _ _ ?_
      exact ih (a + 1) _ E M1 (by omega) nx e1 e2 hF
    | false =>
      have hb1 : ¬ (M1 64 21 >>> (M1 71 (nI (b * 10 + a)).toNatClampNeg &&& 31)) &&& 1 = 1 := by
        rw [e21, e71]
        intro z
        rw [fl_bit_t.mpr z] at hD
        cases hD
      rw [st_bit D hv, hD, if_pos (by decide)] at hF
      refine hK.1 [48] 60 48 _ _ _ _ _ ⟨vb, fun z => absurd z c1, fun _ => ⟨vi, fun _ => ⟨fun _ => ⟨fun z => absurd rfl z, fun _ => ⟨vi, vi, cR_worthJ hT hN1 (Or.inr ⟨hnd, e72⟩) (fun u hu _ => e2 u hu) (by omega) (fun r' M2 hM hr' => ⟨vv, ?_⟩)⟩⟩, fun z => absurd rfl z⟩, fun z => absurd z hb1⟩⟩
      refine hK.2 [true, true, true, true, true, false, true, true, true] _ _ _ _ _ _ ?_
      rw [e71, nI_clamp (by omega)]
      refine ih (a + 1) _ (upd E v r') _ (by omega) nx (fun c h1 h2 => ?_) (fun u hu => ?_) (by rw [hr']; exact hF)
      · funext w
        rw [mc_put_at, if_neg (fun z => h1 z.1), hM c h2, e1 c h1 h2]
      · rw [mc_put_at]
        unfold upd
        by_cases e : u = v
        · rw [if_pos ⟨rfl, e⟩, if_pos e]
        · rw [if_neg (fun z => e z.2), if_neg e, hM 78 (by decide), e2 u hu]
theorem mst_to {kept : Nat → Int32} {q : Stt} {s : Nat} {M' : mc_M} (h : mst M kept q s) (h80 : M' 80 = M 80) (h81 : M' 81 = M 81) : mst M' kept q s := fun k hk => by
  rw [h80, h81]
  exact h k hk
theorem cR_work0 {D : Int32} {kept : Nat → Int32} {q : Stt} {s k : Nat} (hT : nt_ok T m) (hR : mxR T m P D M) (hkp : ∀ b, b < 16 → kept b = (255 &&& (D ^^^ (-1))) &&& sp_Y T P b) (hcl : ∀ b, b < 16 → scl T (255 &&& (D ^^^ (-1))) (P b).2.1) (hs : s ≤ 100) (hk : k < s) (h18 : M 64 18 = nI s) (hst : mst M kept q s) (hw : qwf kept q s) {x : Int32} (hx : x = nI k) (hd : 2 ≤ d)
    (h : (sp_blk T (255 &&& (D ^^^ (-1))) kept P (q, s, false) k).1.2.2 = false → ∀ M', w0fr M M' → M' 64 18 = nI (sp_blk T (255 &&& (D ^^^ (-1))) kept P (q, s, false) k).1.2.1 → mst M' kept (sp_blk T (255 &&& (D ^^^ (-1))) kept P (q, s, false) k).1.1 (sp_blk T (255 &&& (D ^^^ (-1))) kept P (q, s, false) k).1.2.1 → Q none M' L)
    (ho : (sp_blk T (255 &&& (D ^^^ (-1))) kept P (q, s, false) k).1.2.2 = true → ∀ M', w0fr M M' → M' 64 18 = nI 101 → Q none M' L) : ctR_work g d [.ref 64, .int x, .int 0] n M L Q := by
  obtain ⟨d, rfl⟩ := Nat.exists_eq_add_of_le' (show 2 ≤ d from hd)
  subst hx
  have hR' := hR
  obtain ⟨hN, hP, hJ, h21, hY⟩ := hR
  obtain ⟨s1, s2, s3⟩ := hst k hk
  have vk : vp_in (nI k) 101 := vp_in_nI (by omega) (by decide)
  have ek : (nI k).toNatClampNeg = k := nI_clamp (by omega)
  have e80 : M 80 (nI k).toNatClampNeg = nI (q k).1 := by rw [ek, s1]
  have hpt := pjR_pt hJ
  have hlt := pgR_lt hP
  have yb := Y_back hT hlt hpt s2
  have ag : agr (255 &&& (D ^^^ (-1))) (sp_Y T P (q k).1) (q k).2 (fun v => M 81 (k * 8 + v)) := fun v hv hs hy => (s3 v hv (by rw [hkp _ s2, fl_bit_and _ _ hv, hs, hy]; rfl)).symm
  rw [yb] at ag
  obtain ⟨-, g2⟩ := mixa_agr hT (P (q k).1).2.1 _ _ (hlt _ s2) (hcl _ s2) ag
  refine inR_work (Nat.le_of_ble_eq_true rfl) (fun K hK => hK.1 [10] 20 0 _ _ _ _ _ ⟨vk, wk_copy hK (by omega) e80 (fun i M1 e1 e2 => ?_) 8 0 0 M rfl rfl (fun _ _ => rfl) (fun u hu => absurd hu (Nat.not_lt_zero _))⟩)
  have hR1 : mxR T m P D M1 := mxR_to hR' (by rw [e1 64 (by decide)]) (by rw [e1 64 (by decide)]) (fun c _ _ _ h4 _ _ _ => e1 c h4)
  have e10 : (10 : Int32) * nI (q k).1 = nI ((q k).1 * 10 + 0) := by rw [show (10 : Int32) = nI 10 from rfl, nI_mul, Nat.mul_comm]; rfl
  refine hK.1 [48] 20 42 _ _ _ _ _ (wk_asg0 hK hT hR1 s2 (F := (sp_mixa T (255 &&& (D ^^^ (-1))) (P (q k).1).2.1 (fun v => M 81 (k * 8 + v))).1) (fun i2 M2 f1 f2 => ?_) (P (q k).1).2.1.length 0 _ (fun v => M 81 (k * 8 + v)) M1 rfl e10 (fun _ _ _ => rfl) (fun v hv => e2 v hv) rfl)
  have hR2 : mxR T m P D M2 := mxR_to hR1 (by rw [f1 64 (by decide) (by decide)]) (by rw [f1 64 (by decide) (by decide)]) (fun c _ _ _ h4 h5 _ _ => f1 c h4 h5)
  refine wk_158 hK hT hR2 s2 f2 (fun op ot M3 k1 hop hot => ?_)
  have hR3 : mxR T m P D M3 := mxR_to hR2 (by rw [k1 64 (by decide)]) (by rw [k1 64 (by decide)]) (fun c _ _ _ _ h5 _ _ => k1 c h5)
  have e78 : ∀ v, v < 8 → M3 78 v = (sp_mixa T (255 &&& (D ^^^ (-1))) (P (q k).1).2.1 (fun v => M 81 (k * 8 + v))).1 v := fun v hv => by rw [k1 78 (by decide), f2 v hv]
  have g2' : agr (255 &&& (D ^^^ (-1))) (T 4 (P (q k).1).2.2.2.1.1 ||| sp_at (sp_Y T P) (P (q k).1).2.2.2.2.1 ||| sp_at (sp_Y T P) (P (q k).1).2.2.2.2.2) (sp_mixa T (255 &&& (D ^^^ (-1))) (P (q k).1).2.1 (q k).2).1 (M3 78) := fun v hv hs hy => by rw [e78 v hv]; exact g2 v hv hs hy
  have all : ∀ c, c ≠ 78 → c ≠ 79 → M3 c = M c := fun c h1 h2 => by rw [k1 c h2, f1 c h1 h2, e1 c h1]
  refine wk_229 hK hT hR3 hkp s2 hs (by rw [all 64 (by decide) (by decide)]; exact h18) (mst_to hst (all 80 (by decide) (by decide)) (all 81 (by decide) (by decide))) hw g2' hop (hot.trans ?_) (fun one two M4 hJ => ?_)
  · rw [nd_val_env hT _ (fun v hv _ => (e78 v hv).symm)]
  · obtain ⟨j1, j2, j3⟩ := hJ
    have fr : w0fr M M4 := ⟨fun c h1 h2 h3 h4 h5 => (j1.1 c h1 h4 h5).trans (all c h2 h3), fun i hi => (j1.2 i hi).trans (by rw [all 64 (by decide) (by decide)])⟩
    cases hov : (sp_mixj T (255 &&& (D ^^^ (-1))) kept q s false (sp_mixa T (255 &&& (D ^^^ (-1))) (P (q k).1).2.1 (q k).2).1 (P (q k).1)).1.2.2 with
    | false =>
      obtain ⟨b1, b2, -, -⟩ := j2 hov
      exact hK.1 [] 20 290 _ _ _ _ _ ⟨fun _ => ⟨Nat.le_refl _, h hov M4 fr b1 b2⟩, fun z => absurd rfl z⟩
    | true => exact hK.1 [] 20 290 _ _ _ _ _ ⟨fun _ => ⟨Nat.le_refl _, ho hov M4 fr (j3 hov)⟩, fun z => absurd rfl z⟩
end WK2
/-! Chains of parts -/
def pch (N : Nat → Int32) : Int32 → List Nat → Prop
  | x, [] => x = -1
  | x, p :: r => x = nI p ∧ p < 1100 ∧ pch N (N p) r
theorem pch_lt {N : Nat → Int32} : ∀ {x : Int32} {l : List Nat}, pch N x l → ∀ s ∈ l, s < 1100
  | _, [], _, s, hs => absurd hs List.not_mem_nil
  | _, p :: r, h, s, hs => by
    rcases List.mem_cons.mp hs with hs | hs
    · rw [hs]
      exact h.2.1
    · exact pch_lt h.2.2 s hs
theorem pch_congr {N N' : Nat → Int32} : ∀ {x : Int32} {l : List Nat}, (∀ s ∈ l, N' s = N s) → pch N x l → pch N' x l
  | _, [], _, h => h
  | _, p :: r, e, h => ⟨h.1, h.2.1, by rw [e p List.mem_cons_self]; exact pch_congr (fun s hs => e s (List.mem_cons_of_mem _ hs)) h.2.2⟩
theorem pch_app {N N' : Nat → Int32} {lb : Nat} {y : Int32} {r : List Nat} (hr : pch N' y r) (hy : N' lb = y) (hN : ∀ s, s ≠ lb → s ∉ r → N' s = N s) : ∀ {x : Int32} {l : List Nat}, l.getLast? = some lb → l.Nodup → (∀ s ∈ l, s ∉ r) → pch N x l → pch N' x (l ++ r)
  | x, [], h, _, _, _ => by cases h
  | x, [t], h, _, _, hp => by
    have e : t = lb := by simpa using h
    subst e
    exact ⟨hp.1, hp.2.1, by rw [hy]; exact hr⟩
  | x, t :: t' :: l, h, hn, hd, hp => by
    have h' : (t' :: l).getLast? = some lb := by simpa using h
    have hmem : lb ∈ t' :: l := List.mem_of_getLast? h'
    have hne : t ≠ lb := fun z => by
      rw [z] at hn
      exact (List.nodup_cons.mp hn).1 hmem
    refine ⟨hp.1, hp.2.1, ?_⟩
    rw [hN t hne (hd t List.mem_cons_self)]
    exact pch_app hr hy hN h' (List.nodup_cons.mp hn).2 (fun s hs => hd s (List.mem_cons_of_mem _ hs)) hp.2.2
