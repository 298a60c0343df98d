/-! The model's write -/
section WT
variable {g : mc_G} {d n : Nat} {M : mc_M} {L : mc_L} {Q : Option Value → mc_M → mc_L → Prop} {T : Nat → Nat → Int32} {m : Nat}
theorem len_l {a b c : List Int32} (h : a ++ b = c) : a.length ≤ c.length := by rw [← h, List.length_append]; omega
theorem spf_N {M' : mc_M} (hN : nt_R M T m) (h : spf M M') : nt_R M' T m := nt_R_to hN (h.2 1 (by decide)) (fun c _ _ => h.1 c (by omega) (by omega) (by omega) (by omega) (by omega))
theorem wrt_parts (hT : nt_ok T m) (hN : nt_R M T m) {D : Int32} (h24 : M 64 24 = D) (hd : 3 ≤ d) {tF : List Int32} (hF : tF.length + 12 < 2 ^ 31) (K : mc_K) (hK : mc_closed true tab0 n 0 none (shR_write g d) Q (fun _ _ _ => False) tbR_write K) {b : Nat} {tail : List Int32}
    (h : ∀ M1 t1 y, spf M M1 → txR M1 t1 → t1 ++ tail = tF → K 78 [some (.ref 64), some (.int (nI b)), some (.int y)] [] n M1 L) :
    ∀ (ps : List Nat) (x : Int32) (t1 : List Int32) (M1 : mc_M), pch (M 91) x ps → (∀ s ∈ ps, mp_ok M m s) → spf M M1 → txR M1 t1 → t1 ++ (sp_tl T (255 &&& (D ^^^ (-1))) (ps.map (mp_as T (255 &&& (D ^^^ (-1))) M)) ++ tail) = tF → K 33 [some (.ref 64), some (.int (nI b)), some (.int x)] [] n M1 L := by
  have hm := hT.1
  intro ps
  induction ps with
  | nil =>
    intro x t1 M1 hp _ hf ht hF'
    have hx : x = -1 := hp
    exact hK.1 [78] 20 33 _ _ _ _ _ ⟨fun _ => h M1 t1 x hf ht hF', fun z => absurd hx z⟩
  | cons p ps ih =>
    intro x t1 M1 hp hok hf ht hF'
    obtain ⟨hx, hp1, hp2⟩ := hp
    subst hx
    obtain ⟨v, k, hv, hk, q1, q2⟩ := hok p List.mem_cons_self
    have n1 : ¬ nI p = -1 := nI_ne_m1 (by omega)
    have vp : vp_in (nI p) 1100 := vp_in_nI hp1 (by decide)
    have ep : (nI p).toNatClampNeg = p := nI_clamp (by omega)
    have m1 : ∀ M2, spf M M2 → ∀ c, 91 ≤ c → c ≤ 94 → M2 c = M c := fun M2 hf c _ _ => hf.1 c (by omega) (by omega) (by omega) (by omega) (by omega)
    have e92 : 97 + M1 92 (nI p).toNatClampNeg = nI (97 + v) := by rw [m1 M1 hf 92 (by decide) (by decide), ep, q1]; exact nI_add 97 v
    have as1 : mp_as T (255 &&& (D ^^^ (-1))) M p = (v, k, fl_fr T (255 &&& (D ^^^ (-1))) (M 94) p k) := by
      unfold mp_as
      rw [q1, q2, nI_clamp (by omega), nI_clamp (by omega)]
    have hF2 : t1 ++ (nI (97 + v) :: 61 :: (sp_pt T (255 &&& (D ^^^ (-1))) (fl_fr T (255 &&& (D ^^^ (-1))) (M 94) p k) (k + 1) k ++ (59 :: (sp_tl T (255 &&& (D ^^^ (-1))) (ps.map (mp_as T (255 &&& (D ^^^ (-1))) M)) ++ tail)))) = tF := by
      rw [← hF', List.map_cons, as1]
      show _ = t1 ++ ((nI (97 + v) :: 61 :: (sp_pt T (255 &&& (D ^^^ (-1))) (fl_fr T (255 &&& (D ^^^ (-1))) (M 94) p k) (k + 1) k ++ [59]) ++ sp_tl T (255 &&& (D ^^^ (-1))) (ps.map (mp_as T (255 &&& (D ^^^ (-1))) M))) ++ tail)
      simp
    have l1 := len_l hF2
    refine hK.1 [33] 60 33 _ _ _ _ _ ⟨fun z => absurd z n1, fun _ => ⟨vp, cR_put ht (by omega) (by omega) (fun M2 a1 a2 => ?_)⟩⟩
    rw [e92] at a1
    have hF3 : (t1 ++ [nI (97 + v)]) ++ (61 :: (sp_pt T (255 &&& (D ^^^ (-1))) (fl_fr T (255 &&& (D ^^^ (-1))) (M 94) p k) (k + 1) k ++ (59 :: (sp_tl T (255 &&& (D ^^^ (-1))) (ps.map (mp_as T (255 &&& (D ^^^ (-1))) M)) ++ tail)))) = tF := by
      rw [← hF2]
      simp
    have l2 := len_l hF3
    refine cR_put a1 (by omega) (by omega) (fun M3 b1 b2 => ?_)
    have hf3 := spf_tr (spf_tr hf (spf_t a2)) (spf_t b2)
    have e93 : M3 93 = M 93 := m1 M3 hf3 93 (by decide) (by decide)
    have e94 : M3 94 = M 94 := m1 M3 hf3 94 (by decide) (by decide)
    have hF4 : (t1 ++ [nI (97 + v)] ++ [61] ++ sp_pt T (255 &&& (D ^^^ (-1))) (fl_fr T (255 &&& (D ^^^ (-1))) (M 94) p k) (k + 1) k) ++ (59 :: (sp_tl T (255 &&& (D ^^^ (-1))) (ps.map (mp_as T (255 &&& (D ^^^ (-1))) M)) ++ tail)) = tF := by
      rw [← hF2]
      simp
    have l4 := len_l hF4
    refine cR_spell hT (spf_N hN hf3) (by rw [hf3.2 24 (by decide), h24]) rfl hp1 (nd := k) (by rw [e93]; exact Or.inr ⟨hk, q2⟩) b1 (by omega) (by rw [e94]; omega) (fun M4 c1 c2 => ?_)
    rw [e94] at c2
    have hf4 := spf_tr hf3 c1
    refine cR_put c2 (by omega) (by omega) (fun M5 d1 d2 => ⟨vp, ?_⟩)
    have hf5 := spf_tr hf4 (spf_t d2)
    rw [m1 M5 hf5 91 (by decide) (by decide), ep]
    refine ih (M 91 p) _ M5 hp2 (fun s hs => hok s (List.mem_cons_of_mem _ hs)) hf5 d1 ?_
    rw [← hF4]
    simp
theorem cR_write (hT : nt_ok T m) (hN : nt_R M T m) {D : Int32} (h24 : M 64 24 = D) {nb pb : Nat} (h23 : M 64 23 = nI nb) (hnb : nb ≤ 100) {R : Nat → Blk} (hR : ∀ b, b < nb → ∃ ps, mblk T m (255 &&& (D ^^^ (-1))) M pb b (R b) ps) (hk : ∀ b, b < nb → (R b).2.2.1 = 0 ∨ (R b).2.2.1 = 1 ∨ (R b).2.2.1 = 2) (hF : (sp_tx T (255 &&& (D ^^^ (-1))) nb R).length + 12 < 2 ^ 31) (hd : 4 ≤ d)
    (h : ∀ M', spf M M' → txR M' (sp_tx T (255 &&& (D ^^^ (-1))) nb R) → Q none M' L) : ctR_write g d [.ref 64] n M L Q := by
  obtain ⟨d, rfl⟩ := Nat.exists_eq_add_of_le' (show 1 ≤ d by omega)
  have hm := hT.1
  generalize htF : sp_tx T (255 &&& (D ^^^ (-1))) nb R = tF at h hF
  have lp : ∀ (K : mc_K), mc_closed true tab0 n 0 none (shR_write g d) Q (fun _ _ _ => False) tbR_write K → ∀ (r b : Nat) (i : Int32) (t1 : List Int32) (M1 : mc_M), r + b = nb → i = nI b → spf M M1 → txR M1 t1 → t1 ++ sp_tr T (255 &&& (D ^^^ (-1))) R r b = tF → K 7 [some (.ref 64), some (.int i), none] [] n M1 L := by
    intro K hK r
    induction r with
    | zero =>
      intro b i t1 M1 hr hi hf ht hF'
      subst hi
      have c1 : M1 64 23 ≤ nI b := by rw [hf.2 23 (by decide), h23]; exact nI_le (by omega) (by omega)
      have q := h M1 hf (by rw [← hF']; show txR M1 (t1 ++ []); rw [List.append_nil]; exact ht)
      exact hK.1 [] 20 7 _ _ _ _ _ ⟨fun _ => ⟨Nat.le_refl _, q⟩, fun z => absurd c1 z⟩
    | succ r ih =>
      intro b i t1 M1 hr hi hf ht hF'
      subst hi
      have hb : b < nb := by omega
      have c1 : ¬ M1 64 23 ≤ nI b := by rw [hf.2 23 (by decide), h23]; exact nI_ge (by omega) (by omega)
      have vb : vp_in (nI b) 100 := vp_in_nI (by omega) (by decide)
      have eb : (nI b).toNatClampNeg = b := nI_clamp (by omega)
      obtain ⟨ps, hB⟩ := hR b hb
      obtain ⟨a1, a2, a3, a4, a5, a6, a7, ⟨j, nd, b1, b2, b3, b4, b5⟩, a9, a10⟩ := hB
      have m1 : ∀ M2, spf M M2 → ∀ c, 83 ≤ c → c ≤ 94 → M2 c = M c := fun M2 hf c _ _ => hf.1 c (by omega) (by omega) (by omega) (by omega) (by omega)
      have hF2 : t1 ++ (sp_num (nI b) ++ (58 :: (sp_tl T (255 &&& (D ^^^ (-1))) (R b).2.1 ++ (sp_tj T (255 &&& (D ^^^ (-1))) (R b).2.2 ++ (59 :: sp_tr T (255 &&& (D ^^^ (-1))) R r (b + 1)))))) = tF := by
        rw [← hF']
        show _ = t1 ++ ((sp_num (nI b) ++ (58 :: (sp_tl T (255 &&& (D ^^^ (-1))) (R b).2.1 ++ (sp_tj T (255 &&& (D ^^^ (-1))) (R b).2.2 ++ [59])))) ++ sp_tr T (255 &&& (D ^^^ (-1))) R r (b + 1))
        simp
      have l1 := len_l hF2
      refine hK.1 [33] 60 7 _ _ _ _ _ ⟨fun z => absurd z c1, fun _ => cR_number ht (by omega) (by omega) (fun M2 d1 d2 => ?_)⟩
      have hF3 : (t1 ++ sp_num (nI b)) ++ (58 :: (sp_tl T (255 &&& (D ^^^ (-1))) (R b).2.1 ++ (sp_tj T (255 &&& (D ^^^ (-1))) (R b).2.2 ++ (59 :: sp_tr T (255 &&& (D ^^^ (-1))) R r (b + 1))))) = tF := by
        rw [← hF2]
        simp
      have l2 := len_l hF3
      refine cR_put d1 (by omega) (by omega) (fun M3 e1 e2 => ⟨vb, ?_⟩)
      have hf3 := spf_tr (spf_tr hf (spf_t d2)) (spf_t e2)
      rw [m1 M3 hf3 85 (by decide) (by decide), eb]
      refine wrt_parts hT hN h24 (by omega) hF K hK (tail := sp_tj T (255 &&& (D ^^^ (-1))) (R b).2.2 ++ (59 :: sp_tr T (255 &&& (D ^^^ (-1))) R r (b + 1))) (fun M4 t4 y f4 x4 hF4 => ?_) ps (M 85 b) _ M3 a2 (fun s hs => (a5 s hs).2) hf3 e1 (by rw [← a6, ← hF3]; simp)
      have e87 : ∀ M2, spf M M2 → M2 87 (nI b).toNatClampNeg = (R b).2.2.1 := fun M2 hf => by rw [m1 M2 hf 87 (by decide) (by decide), eb, a7]
      have e88 : ∀ M2, spf M M2 → M2 88 (nI b).toNatClampNeg = (R b).2.2.2.2.1 := fun M2 hf => by rw [m1 M2 hf 88 (by decide) (by decide), eb, a9]
      have e89 : ∀ M2, spf M M2 → M2 89 (nI b).toNatClampNeg = (R b).2.2.2.2.2 := fun M2 hf => by rw [m1 M2 hf 89 (by decide) (by decide), eb, a10]
      have e90 : ∀ M2, spf M M2 → M2 90 (nI b).toNatClampNeg = nI j := fun M2 hf => by rw [m1 M2 hf 90 (by decide) (by decide), eb, b3]
      have l4 := len_l hF4
      have fin : ∀ M5 t5 q, spf M M5 → txR M5 t5 → t5 ++ (59 :: sp_tr T (255 &&& (D ^^^ (-1))) R r (b + 1)) = tF → K 196 [some (.ref 64), some (.int (nI b)), q] [] n M5 L := fun M5 t5 q f5 x5 hF5 => by
        have l5 := len_l hF5
        refine hK.1 [7] 20 196 _ _ _ _ _ (cR_put x5 (by omega) (by omega) (fun M6 g1 g2 => ?_))
        refine hK.2 [true, true, false] _ _ _ _ _ _ ?_
        refine ih (b + 1) _ _ M6 (by omega) (nI_1 b) (spf_tr f5 (spf_t g2)) g1 ?_
        rw [← hF5]
        simp
      have spl : ∀ {Q' : Option Value → mc_M → mc_L → Prop} {x : Int32} {M5 : mc_M} {t5 : List Int32}, x = nI j → spf M M5 → txR M5 t5 → (t5 ++ sp_pt T (255 &&& (D ^^^ (-1))) (R b).2.2.2.1.2 ((R b).2.2.2.1.1 + 1) (R b).2.2.2.1.1).length + 12 < 2 ^ 31 → (∀ M6, spf M M6 → txR M6 (t5 ++ sp_pt T (255 &&& (D ^^^ (-1))) (R b).2.2.2.1.2 ((R b).2.2.2.1.1 + 1) (R b).2.2.2.1.1) → Q' none M6 L) → ctR_spell g d [.ref 64, .int x] n M5 L Q' := fun {Q'} {x} {M5} {t5} hx f5 x5 hl hq => by
        rw [b5] at hl hq
        have e94 : M5 94 = M 94 := m1 M5 f5 94 (by decide) (by decide)
        refine cR_spell hT (spf_N hN f5) (by rw [f5.2 24 (by decide), h24]) hx b2 (nd := nd) (by rw [m1 M5 f5 93 (by decide) (by decide)]; exact b4) x5 (by omega) (by rw [e94]; exact hl) (fun M6 g1 g2 => hq M6 (spf_tr f5 g1) (by rw [e94] at g2; exact g2))
      rcases hk b hb with k0 | k0 | k0
      · have y0 : ∀ M2, spf M M2 → M2 87 (nI b).toNatClampNeg = 0 := fun M2 hf => (e87 M2 hf).trans k0
        have hF5 : t4 ++ (94 :: (sp_num (R b).2.2.2.2.1 ++ (59 :: sp_tr T (255 &&& (D ^^^ (-1))) R r (b + 1)))) = tF := by
          rw [← hF4]
          unfold sp_tj
          rw [if_pos k0]
          simp
        refine hK.1 [196] 120 78 _ _ _ _ _ ⟨vb, fun z => absurd (y0 M4 f4) z, fun _ => cR_put x4 (by omega) (by omega) (fun M5 g1 g2 => ?_)⟩
        have f5 := spf_tr f4 (spf_t g2)
        have hF6 : (t4 ++ [94]) ++ (sp_num (R b).2.2.2.2.1 ++ (59 :: sp_tr T (255 &&& (D ^^^ (-1))) R r (b + 1))) = tF := by rw [← hF5]; simp
        have l6 := len_l hF6
        refine ⟨vb, fun _ => ⟨vb, fun z => absurd (y0 M5 f5) z, fun _ => ⟨vb, cR_number g1 (by omega) (by omega) (fun M6 i1 i2 => ?_)⟩⟩, fun z => absurd (show M5 87 (nI b).toNatClampNeg ≤ 0 by rw [y0 M5 f5]; decide) z⟩
        rw [e88 M5 f5] at i1
        exact fin M6 _ _ (spf_tr f5 (spf_t i2)) i1 (by rw [← hF6]; simp)
      · have y1 : ∀ M2, spf M M2 → M2 87 (nI b).toNatClampNeg = 1 := fun M2 hf => (e87 M2 hf).trans k0
        have n0 : ∀ M2, spf M M2 → ¬ M2 87 (nI b).toNatClampNeg = 0 := fun M2 hf => by rw [y1 M2 hf]; decide
        have np : ∀ M2, spf M M2 → ¬ M2 87 (nI b).toNatClampNeg ≤ 0 := fun M2 hf => by rw [y1 M2 hf]; decide
        have hF5 : t4 ++ (63 :: (sp_pt T (255 &&& (D ^^^ (-1))) (R b).2.2.2.1.2 ((R b).2.2.2.1.1 + 1) (R b).2.2.2.1.1 ++ (44 :: (sp_num (R b).2.2.2.2.1 ++ (44 :: (sp_num (R b).2.2.2.2.2 ++ (59 :: sp_tr T (255 &&& (D ^^^ (-1))) R r (b + 1)))))))) = tF := by
          rw [← hF4]
          unfold sp_tj
          rw [if_neg (by rw [k0]; decide), if_pos k0]
          simp
        refine hK.1 [196] 140 78 _ _ _ _ _ ⟨vb, fun _ => ⟨vb, fun z => absurd (y1 M4 f4) z, fun _ => cR_put x4 (by omega) (by omega) (fun M5 g1 g2 => ?_)⟩, fun z => absurd z (n0 M4 f4)⟩
        have f5 := spf_tr f4 (spf_t g2)
        have hF6 : (t4 ++ [63] ++ sp_pt T (255 &&& (D ^^^ (-1))) (R b).2.2.2.1.2 ((R b).2.2.2.1.1 + 1) (R b).2.2.2.1.1) ++ (44 :: (sp_num (R b).2.2.2.2.1 ++ (44 :: (sp_num (R b).2.2.2.2.2 ++ (59 :: sp_tr T (255 &&& (D ^^^ (-1))) R r (b + 1)))))) = tF := by rw [← hF5]; simp
        have l6 := len_l hF6
        refine ⟨vb, fun z => absurd z (np M5 f5), fun _ => ⟨vb, spl (e90 M5 f5) f5 g1 (by omega) (fun M6 f6 x6 => ?_)⟩⟩
        refine ⟨vb, fun _ => ⟨vb, fun z => absurd (y1 M6 f6) z, fun _ => cR_put x6 (by omega) (by omega) (fun M7 i1 i2 => ?_)⟩, fun z => absurd z (n0 M6 f6)⟩
        have f7 := spf_tr f6 (spf_t i2)
        have hF7 : (t4 ++ [63] ++ sp_pt T (255 &&& (D ^^^ (-1))) (R b).2.2.2.1.2 ((R b).2.2.2.1.1 + 1) (R b).2.2.2.1.1 ++ [44]) ++ (sp_num (R b).2.2.2.2.1 ++ (44 :: (sp_num (R b).2.2.2.2.2 ++ (59 :: sp_tr T (255 &&& (D ^^^ (-1))) R r (b + 1))))) = tF := by rw [← hF6]; simp
        have l7 := len_l hF7
        refine ⟨vb, cR_number i1 (by omega) (by omega) (fun M8 j1 j2 => ?_)⟩
        rw [e88 M7 f7] at j1
        have f8 := spf_tr f7 (spf_t j2)
        have hF8 : (t4 ++ [63] ++ sp_pt T (255 &&& (D ^^^ (-1))) (R b).2.2.2.1.2 ((R b).2.2.2.1.1 + 1) (R b).2.2.2.1.1 ++ [44] ++ sp_num (R b).2.2.2.2.1) ++ (44 :: (sp_num (R b).2.2.2.2.2 ++ (59 :: sp_tr T (255 &&& (D ^^^ (-1))) R r (b + 1)))) = tF := by rw [← hF7]; simp
        have l8 := len_l hF8
        refine cR_put j1 (by omega) (by omega) (fun M9 o1 o2 => ?_)
        have f9 := spf_tr f8 (spf_t o2)
        have hF9 : (t4 ++ [63] ++ sp_pt T (255 &&& (D ^^^ (-1))) (R b).2.2.2.1.2 ((R b).2.2.2.1.1 + 1) (R b).2.2.2.1.1 ++ [44] ++ sp_num (R b).2.2.2.2.1 ++ [44]) ++ (sp_num (R b).2.2.2.2.2 ++ (59 :: sp_tr T (255 &&& (D ^^^ (-1))) R r (b + 1))) = tF := by rw [← hF8]; simp
        have l9 := len_l hF9
        refine ⟨vb, cR_number o1 (by omega) (by omega) (fun M10 u1 u2 => ?_)⟩
        rw [e89 M9 f9] at u1
        exact fin M10 _ _ (spf_tr f9 (spf_t u2)) u1 (by rw [← hF9]; simp)
      · have y2 : ∀ M2, spf M M2 → M2 87 (nI b).toNatClampNeg = 2 := fun M2 hf => (e87 M2 hf).trans k0
        have n0 : ∀ M2, spf M M2 → ¬ M2 87 (nI b).toNatClampNeg = 0 := fun M2 hf => by rw [y2 M2 hf]; decide
        have n1 : ∀ M2, spf M M2 → ¬ M2 87 (nI b).toNatClampNeg = 1 := fun M2 hf => by rw [y2 M2 hf]; decide
        have np : ∀ M2, spf M M2 → ¬ M2 87 (nI b).toNatClampNeg ≤ 0 := fun M2 hf => by rw [y2 M2 hf]; decide
        have hF5 : t4 ++ (33 :: (sp_pt T (255 &&& (D ^^^ (-1))) (R b).2.2.2.1.2 ((R b).2.2.2.1.1 + 1) (R b).2.2.2.1.1 ++ (59 :: sp_tr T (255 &&& (D ^^^ (-1))) R r (b + 1)))) = tF := by
          rw [← hF4]
          unfold sp_tj
          rw [if_neg (by rw [k0]; decide), if_neg (by rw [k0]; decide)]
          simp
        refine hK.1 [196] 140 78 _ _ _ _ _ ⟨vb, fun _ => ⟨vb, fun _ => cR_put x4 (by omega) (by omega) (fun M5 g1 g2 => ?_), fun z => absurd z (n1 M4 f4)⟩, fun z => absurd z (n0 M4 f4)⟩
        have f5 := spf_tr f4 (spf_t g2)
        have hF6 : (t4 ++ [33] ++ sp_pt T (255 &&& (D ^^^ (-1))) (R b).2.2.2.1.2 ((R b).2.2.2.1.1 + 1) (R b).2.2.2.1.1) ++ (59 :: sp_tr T (255 &&& (D ^^^ (-1))) R r (b + 1)) = tF := by rw [← hF5]; simp
        have l6 := len_l hF6
        refine ⟨vb, fun z => absurd z (np M5 f5), fun _ => ⟨vb, spl (e90 M5 f5) f5 g1 (by omega) (fun M6 f6 x6 => ?_)⟩⟩
        exact ⟨vb, fun _ => ⟨vb, fun _ => fin M6 _ _ f6 x6 hF6, fun z => absurd z (n1 M6 f6)⟩, fun z => absurd z (n0 M6 f6)⟩
  have tf0 : spf M (mc_put M 64 42 0) := ⟨fun c h1 _ _ _ _ => by
    funext l
    rw [mc_put_at, if_neg (fun z => h1 z.1)], fun i hi => by rw [mc_put_at, if_neg (fun z => hi z.2)]⟩
  have tx0 : txR (mc_put M 64 42 0) [] := ⟨by
    rw [mc_put_at, if_pos ⟨rfl, rfl⟩]
    rfl, fun i hi c hc => by cases hc⟩
  exact inR_write (Nat.le_of_ble_eq_true rfl) (fun K hK => hK.1 [7] 20 0 _ _ _ _ _ (lp K hK nb 0 0 [] _ rfl rfl tf0 tx0 (by rw [← htF]; rfl)))
end WT
