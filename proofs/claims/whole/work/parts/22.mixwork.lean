/-! Mixer.mixJump -/
theorem mxs_low {M M' : mc_M} {f s : Nat} {kept : Nat → Int32} {q : Stt} {ov : Bool} {E : Nat → Int32} (h : mxs M kept q s ov E) (hf : 30 < f) (hM : ∀ c, c < f → M' c = M c) : mxs M' kept q s ov E := by
  unfold mxs
  rw [hM 25 (by omega), hM 26 (by omega), hM 27 (by omega), hM 28 (by omega), hM 29 (by omega)]
  exact h
section MW
variable {g : mc_G} {d n f : Nat} {M0 M : mc_M} {L : mc_L} {Q : Option Value → mc_M → mc_L → Prop} {T : Nat → Nat → Int32} {m : Nat}
theorem cX_mixJump (hf : rs_is f) (hT : nt_ok T m) (hN : nt_C M0 T m) {S : Int32} (hS : M0 f 1 = S) {k s b j : Nat} {kept : Nat → Int32} {q : Stt} {ov : Bool} {E : Nat → Int32} {B : Blk} {ss : List Nat} (hB : fl_blk T m 0 M0 7 16 b B ss j) (hb : b < 16) (htg : B.2.2.1 = 2 ∨ ((∃ t, t < 16 ∧ B.2.2.2.2.1 = nI t) ∧ (B.2.2.1 = 0 ∨ ∃ t, t < 16 ∧ B.2.2.2.2.2 = nI t))) (hk : k < s) (hqb : (q k).1 = b) {x : Int32} (hx : x = nI k) {l : List Asg}
    (hM : mfr f k M0 M) (hs : mxs M kept q s ov E) (hr : rblk T m S M f k l) (h5 : M (f + 5) k = nI k) (h7 : M (f + 7) k = -1) (h8 : M (f + 8) k = -1) (hd : 34 ≤ d) (h : ∀ M', mfr f k M0 M' → M' (f + 1) = M (f + 1) → mxs M' kept (sp_mixj T S kept q s ov E B).1.1 (sp_mixj T S kept q s ov E B).1.2.1 (sp_mixj T S kept q s ov E B).1.2.2 E → rblk T m S M' f k l → rjmp T m S M' f k (sp_mixj T S kept q s ov E B).2 → Q none M' L) : ctX_mixJump g d [.ref 25, .ref 1, .ref 7, .ref f, .int x] n M L Q := by
  obtain ⟨d, rfl⟩ := Nat.exists_eq_add_of_le' (show 1 ≤ d by omega)
  subst hx
  have hs100 := hs.1
  have hm150 := hT.1
  obtain ⟨-, -, -, -, -, -, hj, hjw, hq, ⟨jk, hjk, hjkr, hjn⟩, hone, hoth⟩ := hB
  have hf30 : 30 < f := by rcases hf with rfl | rfl <;> decide
  have hfl : fl_is f 100 := by
    rcases hf with rfl | rfl
    · exact Or.inr (Or.inl ⟨rfl, rfl⟩)
    · exact Or.inr (Or.inr ⟨rfl, rfl⟩)
  have ek : (nI k).toNatClampNeg = k := nI_clamp (by omega)
  have vk : vp_in (nI k) 100 := vp_in_nI (by omega) (by decide)
  have eb : (nI b).toNatClampNeg = b := nI_clamp (by omega)
  have ej : (nI j).toNatClampNeg = j := nI_clamp (by omega)
  have vb : vp_in (nI b) 16 := vp_in_nI hb (by decide)
  have vj : vp_in (nI j) 16 := vp_in_nI hjw (by decide)
  have r12 : M 12 b = nI j := by rw [mfr_low hf hM (Or.inl (by decide))]; exact hj
  have r13 : M 13 j = B.2.2.1 := by rw [mfr_low hf hM (Or.inl (by decide))]; exact hq
  have r17 : M 17 (j * 11 + 10) = nI jk := by rw [mfr_low hf hM (Or.inl (by decide))]; exact hjkr
  have hN' : nt_C M T m := nt_C_to hN (fun c h1 h2 => mfr_low hf hM (Or.inl (by omega)))
  have hS' : M f 1 = S := by rw [mfr_low hf hM (Or.inr (Or.inr rfl)), hS]
  have jn1 : B.2.2.2.1.1 = jk := by rw [hjn]
  have go155 : ∀ (K : mc_K), mc_closed true tab0 n 0 none (shX_mixJump g d) Q (fun _ _ _ => False) tbX_mixJump K → ¬ B.2.2.1 = 2 → ¬ (B.2.2.1 = 1 ∧ ¬ (T 4 B.2.2.2.1.1 &&& (S ^^^ (-1))) = 0) → ∀ M1, M1 = mc_set M (f + 12) (va_cpy (M 29) (M (f + 12)) 0 ((k * 11 + 10) * 8) 8) → ∀ y, K 155 [some (.ref 25), some (.ref 1), some (.ref 7), some (.ref f), some (.int (nI k)), some (.int (nI b)), some (.int (nI j)), some (.int B.2.2.1), some (.int (nI jk)), y, none, none] [] n M1 L := by
    intro K hK n2 n1 M1 z1 y
    have w1 : ∀ c, c < f → M1 c = M c := fun c hc => by rw [z1, mc_set_n (by omega)]
    have hN1 : nt_C M1 T m := nt_C_to hN' (fun c a1 a2 => w1 c (by omega))
    have m5 : M1 (f + 5) k = nI k := by rw [z1, mc_set_n (by omega), h5]
    rcases htg with htg | ⟨⟨t1, ht1, ht1e⟩, htg2⟩
    · exact absurd htg n2
    have fin : ∀ (tt : Nat) (ti : Int32), tt < 16 → ti = nI tt → (if B.2.2.1 = 0 ∨ ¬ nd_val (T 0) (T 1) (T 2) E B.2.2.2.1.1 = 0 then B.2.2.2.2.1 else B.2.2.2.2.2) = nI tt → ∀ M2, M2 = mc_put (mc_put M1 (f + 6) k 0) (f + 10) (k * 11 + 10) 150 → mxs M2 kept q s ov E ∧ ∀ r M3, r = (sp_come kept q s ov E tt).2 → mx_fr M2 M3 → mxs M3 kept (sp_come kept q s ov E tt).1.1 (sp_come kept q s ov E tt).1.2.1 (sp_come kept q s ov E tt).1.2.2 E → M3 (f + 5) k = nI k ∧ ∀ M4, M4 = mc_put (mc_put M3 (f + 7) k r) (f + 8) k (-1) → Q none M4 L := fun tt ti htt hti hte M2 z2 => by
      obtain ⟨p1, p2, p3, p4, p5, pf1⟩ := rj_mk (nd := 150) (E := E) hf (by omega) hr h5 hs.2.2.2.2.2 rfl z1 z2
      refine ⟨mxs_low hs hf30 p3, fun r M3 hr3 hf3 hs3 => ?_⟩
      have p6 := rj_fr hf p1 hf3
      refine ⟨p6.2.1, fun M4 z4 => ?_⟩
      obtain ⟨o1, o2, o3, o4, o5, of1⟩ := rj_tg p6 z4
      obtain ⟨o6, o7⟩ := rjmp_of o1 (Or.inr rfl)
      have hj2 : sp_mixj T S kept q s ov E B = ((sp_come kept q s ov E tt).1, (0, (150, fl_fr T S E 0 150), (sp_come kept q s ov E tt).2, -1)) := by
        unfold sp_mixj
        rw [if_neg n2, if_neg n1, hte, nI_clamp (by omega)]
      rw [hj2] at h
      refine h M4 (mfr_tr hM (mfr_tr p2 (mfr_tr (mfr_fr hf3) o2))) (of1.trans ((hf3 _ (by omega) (by omega) (by omega) (by omega)).trans pf1)) (mxs_low hs3 hf30 o5) o6 ?_
      rw [o3, o4, hr3] at o7
      exact o7
    have cond0 : B.2.2.1 = 0 → (if B.2.2.1 = 0 ∨ ¬ nd_val (T 0) (T 1) (T 2) E B.2.2.2.1.1 = 0 then B.2.2.2.2.1 else B.2.2.2.2.2) = nI t1 := fun z => by rw [if_pos (Or.inl z), ht1e]
    have cond1 : ∀ r, r = nd_val (T 0) (T 1) (T 2) (M1 29) jk → ¬ r = 0 → (if B.2.2.1 = 0 ∨ ¬ nd_val (T 0) (T 1) (T 2) E B.2.2.2.1.1 = 0 then B.2.2.2.2.1 else B.2.2.2.2.2) = nI t1 := fun r hr z => by
      rw [w1 29 (by omega), nd_val_env hT (E' := E) jk (fun u hu _ => hs.2.2.2.2.2 u hu)] at hr
      rw [if_pos (Or.inr (by rw [jn1, ← hr]; exact z)), ht1e]
    have cond2 : ¬ B.2.2.1 = 0 → ∀ r, r = nd_val (T 0) (T 1) (T 2) (M1 29) jk → r = 0 → ∃ t2, t2 < 16 ∧ B.2.2.2.2.2 = nI t2 ∧ (if B.2.2.1 = 0 ∨ ¬ nd_val (T 0) (T 1) (T 2) E B.2.2.2.1.1 = 0 then B.2.2.2.2.1 else B.2.2.2.2.2) = nI t2 := fun z0 r hr z => by
      rw [w1 29 (by omega), nd_val_env hT (E' := E) jk (fun u hu _ => hs.2.2.2.2.2 u hu)] at hr
      rcases htg2 with y | ⟨t2, y1, y2⟩
      · exact absurd y z0
      · exact ⟨t2, y1, y2, by rw [if_neg (fun w => w.elim z0 (fun w => w (by rw [jn1, ← hr]; exact z))), y2]⟩
    have m14 : ∀ M2, M2 = mc_put (mc_put M1 (f + 6) k 0) (f + 10) (k * 11 + 10) 150 → M2 14 (nI j).toNatClampNeg = B.2.2.2.2.1 ∧ M2 15 (nI j).toNatClampNeg = B.2.2.2.2.2 := fun M2 z2 => by
      have w2 : ∀ c, c < f → M2 c = M c := fun c hc => by
        funext x
        rw [z2, mc_put_at, if_neg (by omega), mc_put_at, if_neg (by omega), w1 c hc]
      rw [ej, w2 14 (by omega), w2 15 (by omega), mfr_low hf hM (Or.inl (by decide)), mfr_low hf hM (Or.inl (by decide))]
      exact ⟨hone, hoth⟩
    have toOne : (if B.2.2.1 = 0 ∨ ¬ nd_val (T 0) (T 1) (T 2) E B.2.2.2.1.1 = 0 then B.2.2.2.2.1 else B.2.2.2.2.2) = nI t1 → K 181 [some (.ref 25), some (.ref 1), some (.ref 7), some (.ref f), some (.int (nI k)), some (.int (nI b)), some (.int (nI j)), some (.int B.2.2.1), some (.int (nI jk)), none, some (.int 1), none] [] n M1 L := fun hte => by
      have fin' := fin t1 (nI t1) ht1 rfl hte
      rcases hf with rfl | rfl <;>
      exact hK.1 [] 60 181 _ _ _ _ _ (cF_setJump hfl (by omega) rfl (by omega) m5 (by omega) (fun M2 z2 => ⟨fun z => absurd z (by decide), fun _ => ⟨vj, cX_comeTo ((m14 M2 z2).1.trans ht1e) ht1 (fin' M2 z2).1 (by omega) (fun r M3 hr3 hf3 hs3 => cF_setTargets hfl (by omega) rfl (by omega) ((fin' M2 z2).2 r M3 hr3 hf3 hs3).1 (by omega) (fun M4 z4 => ⟨Nat.le_refl _, ((fin' M2 z2).2 r M3 hr3 hf3 hs3).2 M4 z4⟩))⟩⟩))
    have toOther : ∀ t2, t2 < 16 → B.2.2.2.2.2 = nI t2 → (if B.2.2.1 = 0 ∨ ¬ nd_val (T 0) (T 1) (T 2) E B.2.2.2.1.1 = 0 then B.2.2.2.2.1 else B.2.2.2.2.2) = nI t2 → K 181 [some (.ref 25), some (.ref 1), some (.ref 7), some (.ref f), some (.int (nI k)), some (.int (nI b)), some (.int (nI j)), some (.int B.2.2.1), some (.int (nI jk)), none, some (.int 0), none] [] n M1 L := fun t2 ht2 ht2e hte => by
      have fin' := fin t2 (nI t2) ht2 rfl hte
      rcases hf with rfl | rfl <;>
      exact hK.1 [] 60 181 _ _ _ _ _ (cF_setJump hfl (by omega) rfl (by omega) m5 (by omega) (fun M2 z2 => ⟨fun _ => ⟨vj, cX_comeTo ((m14 M2 z2).2.trans ht2e) ht2 (fin' M2 z2).1 (by omega) (fun r M3 hr3 hf3 hs3 => cF_setTargets hfl (by omega) rfl (by omega) ((fin' M2 z2).2 r M3 hr3 hf3 hs3).1 (by omega) (fun M4 z4 => ⟨Nat.le_refl _, ((fin' M2 z2).2 r M3 hr3 hf3 hs3).2 M4 z4⟩))⟩, fun z => absurd rfl z⟩))
    refine hK.2 [true, true, true, true, true, true, true, true, true, false, true, true] _ _ _ _ _ _ ?_
    exact hK.1 [181] 40 155 _ _ _ _ _ ⟨fun z => toOne (cond0 z), fun z => cN_value hT hN1 (Or.inr (Or.inl rfl)) rfl hjk (by omega) (fun r hr => ⟨fun z2 => (cond2 z r hr z2).elim (fun t2 h2 => toOther t2 h2.1 h2.2.1 h2.2.2), fun z2 => toOne (cond1 r hr z2)⟩)⟩
  have go64 : ∀ (K : mc_K), mc_closed true tab0 n 0 none (shX_mixJump g d) Q (fun _ _ _ => False) tbX_mixJump K → ∀ y, (y = 1 ∧ (T 4 jk &&& (S ^^^ (-1))) = 0) ∨ (y = 0 ∧ ¬ (T 4 jk &&& (S ^^^ (-1))) = 0) → K 64 [some (.ref 25), some (.ref 1), some (.ref 7), some (.ref f), some (.int (nI k)), some (.int (nI b)), some (.int (nI j)), some (.int B.2.2.1), some (.int (nI jk)), some (.int y), none, none] [] n M L := by
    intro K hK y hy
    have m5 : ∀ M1, M1 = mc_set M (f + 12) (va_cpy (M 29) (M (f + 12)) 0 ((k * 11 + 10) * 8) 8) → M1 (f + 5) k = nI k := fun M1 z1 => by rw [z1, mc_set_n (by omega), h5]
    have ret : B.2.2.1 = 2 → ∀ M1, M1 = mc_set M (f + 12) (va_cpy (M 29) (M (f + 12)) 0 ((k * 11 + 10) * 8) 8) → ∀ M2, M2 = mc_put (mc_put M1 (f + 6) k 2) (f + 10) (k * 11 + 10) (nI jk) → Q none M2 L := fun z M1 z1 M2 z2 => by
      obtain ⟨p1, p2, p3, p4, p5, pf1⟩ := rj_mk (nd := jk) (E := E) hf (by omega) hr h5 hs.2.2.2.2.2 rfl z1 z2
      obtain ⟨o6, o7⟩ := rjmp_of p1 hjk
      have hj2 : sp_mixj T S kept q s ov E B = ((q, s, ov), (2, (jk, fl_fr T S E 0 jk), -1, -1)) := by
        unfold sp_mixj
        rw [if_pos z, jn1]
      rw [hj2] at h
      rw [p4, p5, h7, h8] at o7
      exact h M2 (mfr_tr hM p2) pf1 (mxs_low hs hf30 p3) o6 o7
    have opn : ¬ B.2.2.1 = 2 → B.2.2.1 = 1 → ¬ (T 4 jk &&& (S ^^^ (-1))) = 0 → ∃ t1 t2, t1 < 16 ∧ t2 < 16 ∧ B.2.2.2.2.1 = nI t1 ∧ B.2.2.2.2.2 = nI t2 ∧ ∀ M1, M1 = mc_set M (f + 12) (va_cpy (M 29) (M (f + 12)) 0 ((k * 11 + 10) * 8) 8) → ∀ M2, M2 = mc_put (mc_put M1 (f + 6) k 1) (f + 10) (k * 11 + 10) (nI jk) → M2 14 (nI j).toNatClampNeg = nI t1 ∧ mxs M2 kept q s ov E ∧ ∀ r1 M3, r1 = (sp_come kept q s ov E t1).2 → mx_fr M2 M3 → mxs M3 kept (sp_come kept q s ov E t1).1.1 (sp_come kept q s ov E t1).1.2.1 (sp_come kept q s ov E t1).1.2.2 E → M3 15 (nI j).toNatClampNeg = nI t2 ∧ ∀ r2 M4, r2 = (sp_come kept (sp_come kept q s ov E t1).1.1 (sp_come kept q s ov E t1).1.2.1 (sp_come kept q s ov E t1).1.2.2 E t2).2 → mx_fr M3 M4 → mxs M4 kept (sp_come kept (sp_come kept q s ov E t1).1.1 (sp_come kept q s ov E t1).1.2.1 (sp_come kept q s ov E t1).1.2.2 E t2).1.1 (sp_come kept (sp_come kept q s ov E t1).1.1 (sp_come kept q s ov E t1).1.2.1 (sp_come kept q s ov E t1).1.2.2 E t2).1.2.1 (sp_come kept (sp_come kept q s ov E t1).1.1 (sp_come kept q s ov E t1).1.2.1 (sp_come kept q s ov E t1).1.2.2 E t2).1.2.2 E → M4 (f + 5) k = nI k ∧ ∀ M5, M5 = mc_put (mc_put M4 (f + 7) k r1) (f + 8) k r2 → Q none M5 L := fun n2 e1 ho => by
      rcases htg with htg | ⟨⟨t1, ht1, ht1e⟩, htg2⟩
      · exact absurd htg n2
      rcases htg2 with htg2 | ⟨t2, ht2, ht2e⟩
      · rw [e1] at htg2
        exact absurd htg2 (by decide)
      refine ⟨t1, t2, ht1, ht2, ht1e, ht2e, fun M1 z1 M2 z2 => ?_⟩
      obtain ⟨p1, p2, p3, p4, p5, pf1⟩ := rj_mk (nd := jk) (E := E) hf (by omega) hr h5 hs.2.2.2.2.2 rfl z1 z2
      refine ⟨?_, mxs_low hs hf30 p3, fun r1 M3 hr1 hf3 hs3 => ⟨?_, fun r2 M4 hr2 hf4 hs4 => ?_⟩⟩
      · rw [ej, p3 14 (by omega), mfr_low hf hM (Or.inl (by decide))]
        exact hone.trans ht1e
      · rw [ej, hf3 15 (by decide) (by decide) (by decide) (by decide), p3 15 (by omega), mfr_low hf hM (Or.inl (by decide))]
        exact hoth.trans ht2e
      · have p6 := rj_fr hf (rj_fr hf p1 hf3) hf4
        refine ⟨p6.2.1, fun M5 z5 => ?_⟩
        obtain ⟨o1, o2, o3, o4, o5, of1⟩ := rj_tg p6 z5
        obtain ⟨o6, o7⟩ := rjmp_of o1 hjk
        have hj2 : sp_mixj T S kept q s ov E B = ((sp_come kept (sp_come kept q s ov E t1).1.1 (sp_come kept q s ov E t1).1.2.1 (sp_come kept q s ov E t1).1.2.2 E t2).1, (1, (jk, fl_fr T S E 0 jk), (sp_come kept q s ov E t1).2, (sp_come kept (sp_come kept q s ov E t1).1.1 (sp_come kept q s ov E t1).1.2.1 (sp_come kept q s ov E t1).1.2.2 E t2).2)) := by
          unfold sp_mixj
          rw [if_neg n2, if_pos ⟨e1, by rw [jn1]; exact ho⟩, ht1e, ht2e, nI_clamp (by omega), nI_clamp (by omega), jn1]
        rw [hj2] at h
        refine h M5 (mfr_tr hM (mfr_tr p2 (mfr_tr (mfr_fr hf3) (mfr_tr (mfr_fr hf4) o2)))) (of1.trans ((hf4 _ (by omega) (by omega) (by omega) (by omega)).trans ((hf3 _ (by omega) (by omega) (by omega) (by omega)).trans pf1))) (mxs_low hs4 hf30 o5) o6 ?_
        rw [o3, o4, hr1, hr2] at o7
        exact o7
    rcases hy with ⟨rfl, hy⟩ | ⟨rfl, hy⟩
    · have nn : ¬ (B.2.2.1 = 1 ∧ ¬ (T 4 B.2.2.2.1.1 &&& (S ^^^ (-1))) = 0) := fun w => w.2 (by rw [jn1]; exact hy)
      rcases hf with rfl | rfl <;>
      exact hK.1 [155] 60 64 _ _ _ _ _ (cF_jumpStep hfl (by omega) rfl (by omega) h5 (fun st hst => cF_freeze hfl (by omega) hst (by omega) (fun M1 z1 => ⟨fun z => ⟨fun _ => go155 K hK z nn M1 z1 _, fun _ => ⟨fun _ => go155 K hK z nn M1 z1 _, fun w => absurd w (by decide)⟩⟩, fun z => cF_setJump hfl (by omega) rfl (by omega) (m5 M1 z1) (by omega) (fun M2 z2 => ⟨Nat.le_refl _, ret z M1 z1 M2 z2⟩)⟩)))
    · have nn : ¬ B.2.2.1 = 1 → ¬ (B.2.2.1 = 1 ∧ ¬ (T 4 B.2.2.2.1.1 &&& (S ^^^ (-1))) = 0) := fun z w => z w.1
      rcases hf with rfl | rfl <;>
      exact hK.1 [155] 80 64 _ _ _ _ _ (cF_jumpStep hfl (by omega) rfl (by omega) h5 (fun st hst => cF_freeze hfl (by omega) hst (by omega) (fun M1 z1 => ⟨fun z => ⟨fun w => go155 K hK z (nn w) M1 z1 _, fun w => ⟨fun u => absurd rfl u, fun _ => (opn z w hy).elim (fun t1 u => u.elim (fun t2 o => cF_setJump hfl (by omega) rfl (by omega) (m5 M1 z1) (by omega) (fun M2 z2 => ⟨vj, cX_comeTo (o.2.2.2.2 M1 z1 M2 z2).1 o.1 (o.2.2.2.2 M1 z1 M2 z2).2.1 (by omega) (fun r1 M3 hr1 hf3 hs3 => ⟨vj, cX_comeTo ((o.2.2.2.2 M1 z1 M2 z2).2.2 r1 M3 hr1 hf3 hs3).1 o.2.1 hs3 (by omega) (fun r2 M4 hr2 hf4 hs4 => cF_setTargets hfl (by omega) rfl (by omega) (((o.2.2.2.2 M1 z1 M2 z2).2.2 r1 M3 hr1 hf3 hs3).2 r2 M4 hr2 hf4 hs4).1 (by omega) (fun M5 z5 => ⟨Nat.le_refl _, (((o.2.2.2.2 M1 z1 M2 z2).2.2 r1 M3 hr1 hf3 hs3).2 r2 M4 hr2 hf4 hs4).2 M5 z5⟩))⟩)⟩)))⟩⟩, fun z => cF_setJump hfl (by omega) rfl (by omega) (m5 M1 z1) (by omega) (fun M2 z2 => ⟨Nat.le_refl _, ret z M1 z1 M2 z2⟩)⟩)))
  have t4 : M 6 (nI jk).toNatClampNeg = T 4 jk := by
    rw [nI_clamp (by omega)]
    exact hN'.2 4 (by decide) jk hjk
  have vjk : vp_in (nI jk) 151 := vp_in_nI (by omega) (by decide)
  have cnd : (M 6 (nI jk).toNatClampNeg &&& (M f 1 ^^^ (-1))) = (T 4 jk &&& (S ^^^ (-1))) := by rw [t4, hS']
  have go40 : ∀ (K : mc_K), mc_closed true tab0 n 0 none (shX_mixJump g d) Q (fun _ _ _ => False) tbX_mixJump K → K 40 [some (.ref 25), some (.ref 1), some (.ref 7), some (.ref f), some (.int (nI k)), some (.int (nI b)), some (.int (nI j)), some (.int B.2.2.1), some (.int (nI jk)), none, none, none] [] n M L := by
    intro K hK
    have g0 := go64 K hK 0
    have g1 := go64 K hK 1
    rcases hf with rfl | rfl <;>
    exact hK.1 [64] 40 40 _ _ _ _ _ ⟨vjk, fun z => g0 (Or.inr ⟨rfl, fun w => z (cnd.trans w)⟩), fun z => g1 (Or.inl ⟨rfl, cnd.symm.trans z⟩)⟩
  have vst : ∀ st, st = nI (j * 11 + 10) → vp_in st 176 ∧ M 17 st.toNatClampNeg = nI jk := fun st hst => by
    rw [hst, nI_clamp (by omega)]
    exact ⟨vp_in_nI (by omega) (by decide), r17⟩
  have go27 : ∀ (K : mc_K), mc_closed true tab0 n 0 none (shX_mixJump g d) Q (fun _ _ _ => False) tbX_mixJump K → K 27 [some (.ref 25), some (.ref 1), some (.ref 7), some (.ref f), some (.int (nI k)), some (.int (nI b)), some (.int (nI j)), some (.int B.2.2.1), none, none, none, none] [] n M L := by
    intro K hK
    have g1 : ∀ st, st = nI (j * 11 + 10) → K 40 [some (.ref 25), some (.ref 1), some (.ref 7), some (.ref f), some (.int (nI k)), some (.int (nI b)), some (.int (nI j)), some (.int B.2.2.1), some (.int (M 17 st.toNatClampNeg)), none, none, none] [] n M L := fun st hst => by
      rw [(vst st hst).2]
      exact go40 K hK
    exact hK.1 [40] 40 27 _ _ _ _ _ (cF_jumpStep (f := 7) (w := 16) (Or.inl ⟨rfl, rfl⟩) (by omega) rfl hb r12 (fun st hst => ⟨(vst st hst).1, g1 st hst⟩))
  have hqk := hs.2.2.2.1 k hk
  have bb : M 26 (nI k).toNatClampNeg = nI b := by rw [ek, hqk.1, hqb]
  have jj : M 12 (M 26 (nI k).toNatClampNeg).toNatClampNeg = nI j := by rw [bb, eb, r12]
  have kk : M 13 (M 12 (M 26 (nI k).toNatClampNeg).toNatClampNeg).toNatClampNeg = B.2.2.1 := by rw [jj, ej, r13]
  have g0 : ∀ (K : mc_K), mc_closed true tab0 n 0 none (shX_mixJump g d) Q (fun _ _ _ => False) tbX_mixJump K → K 27 [some (.ref 25), some (.ref 1), some (.ref 7), some (.ref f), some (.int (nI k)), some (.int (M 26 (nI k).toNatClampNeg)), some (.int (M 12 (M 26 (nI k).toNatClampNeg).toNatClampNeg)), some (.int (M 13 (M 12 (M 26 (nI k).toNatClampNeg).toNatClampNeg).toNatClampNeg)), none, none, none, none] [] n M L := fun K hK => by
    rw [kk, jj, bb]
    exact go27 K hK
  exact inX_mixJump (Nat.le_of_ble_eq_true rfl) (fun K hK => hK.1 [27] 40 0 _ _ _ _ _ ⟨vk, by rw [bb]; exact vb, by rw [jj]; exact vj, g0 K hK⟩)
end MW
