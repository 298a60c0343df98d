/-! Mixer.work -/
def sp_blk (T : Nat → Nat → Int32) (S : Int32) (kept : Nat → Int32) (P : Nat → Blk) (st : Stt × Nat × Bool) (k : Nat) : (Stt × Nat × Bool) × Blk :=
  ((sp_mixj T S kept st.1 st.2.1 st.2.2 (sp_mixa T S (P (st.1 k).1).2.1 (st.1 k).2).1 (P (st.1 k).1)).1, (nI (st.1 k).1, (sp_mixa T S (P (st.1 k).1).2.1 (st.1 k).2).2, (sp_mixj T S kept st.1 st.2.1 st.2.2 (sp_mixa T S (P (st.1 k).1).2.1 (st.1 k).2).1 (P (st.1 k).1)).2))
def sp_mx (T : Nat → Nat → Int32) (S : Int32) (kept : Nat → Int32) (P : Nat → Blk) : Nat → Nat → (Stt × Nat × Bool) → (Nat → Blk) → (Stt × Nat × Bool) × (Nat → Blk)
  | 0, _, st, R => (st, R)
  | fu + 1, k, st, R => if k < st.2.1 ∧ st.2.2 = false then sp_mx T S kept P fu (k + 1) (sp_blk T S kept P st k).1 (fun i => if i = k then (sp_blk T S kept P st k).2 else R i) else (st, R)
def rdone (T : Nat → Nat → Int32) (m : Nat) (S : Int32) (M : mc_M) (f k : Nat) (B : Blk) : Prop := M (f + 1) k = B.1 ∧ rblk T m S M f k B.2.1 ∧ rjmp T m S M f k B.2.2
theorem rjmp_to {T : Nat → Nat → Int32} {m : Nat} {S : Int32} {M M' : mc_M} {f k b : Nat} {J : Jmp} (h : rjmp T m S M f b J) (hM : mfr f k M M') (hf : 30 < f) (hbk : b ≠ k) : rjmp T m S M' f b J := by
  obtain ⟨h1, h2, ⟨nd, h3, h4, h5⟩, h6, h7⟩ := h
  have e5 : M' (f + 5) b = M (f + 5) b := hM _ _ (by unfold tch; omega)
  have e6 : M' (f + 6) b = M (f + 6) b := hM _ _ (by unfold tch; omega)
  have e7 : M' (f + 7) b = M (f + 7) b := hM _ _ (by unfold tch; omega)
  have e8 : M' (f + 8) b = M (f + 8) b := hM _ _ (by unfold tch; omega)
  have e10 : M' (f + 10) (b * 11 + 10) = M (f + 10) (b * 11 + 10) := hM _ _ (by unfold tch; omega)
  have e12 : ∀ v, v < 8 → M' (f + 12) ((b * 11 + 10) * 8 + v) = M (f + 12) ((b * 11 + 10) * 8 + v) := fun v hv => hM _ _ (by unfold tch; omega)
  refine ⟨by rw [e5]; exact h1, by rw [e6]; exact h2, ⟨nd, h3, by rw [e10]; exact h4, ?_⟩, by rw [e7]; exact h6, by rw [e8]; exact h7⟩
  rw [h5]
  congr 1
  funext v
  unfold fl_fr
  by_cases hv : v < 8 ∧ fl_bit S v = true ∧ fl_bit (T 4 nd) v = true
  · rw [if_pos hv, if_pos hv, e12 v hv.1]
  · rw [if_neg hv, if_neg hv]
theorem rdone_to {T : Nat → Nat → Int32} {m : Nat} {S : Int32} {M M' : mc_M} {f k b : Nat} {B : Blk} (h : rdone T m S M f b B) (hM : mfr f k M M') (hf : 30 < f) (hbk : b ≠ k) : rdone T m S M' f b B :=
  ⟨by rw [hM (f + 1) b (by unfold tch; omega)]; exact h.1, rblk_to h.2.1 hM hf hbk, rjmp_to h.2.2 hM hf hbk⟩
theorem fl_empty_mk {T : Nat → Nat → Int32} {m : Nat} {S : Int32} {M M' : mc_M} {f k : Nat} {o : Int32} (h : M' = fl_empty M f k o) : rblk T m S M' f k [] ∧ M' (f + 5) k = nI k ∧ M' (f + 7) k = -1 ∧ M' (f + 8) k = -1 ∧ M' (f + 1) k = o ∧ mfr f k M M' ∧ ∀ c, c < f → M' c = M c := by
  unfold fl_empty at h
  have a : ∀ c x, M' c x = if c = f + 8 ∧ x = k then -1 else if c = f + 7 ∧ x = k then -1 else if c = f + 10 ∧ x = k * 11 + 10 then 150 else if c = f + 6 ∧ x = k then 2 else if c = f + 5 ∧ x = k then nI k else if c = f + 2 ∧ x = k then 0 else if c = f + 1 ∧ x = k then o else M c x := fun c x => by
    rw [h]
    simp only [mc_put_at]
  refine ⟨⟨?_, by simp, fun z => absurd z (by simp), fun i hi => absurd hi (by simp), fun i hi => absurd hi (by simp)⟩, ?_, ?_, ?_, ?_, fun c x z => ?_, fun c hc => ?_⟩
  · rw [a, if_neg (by omega), if_neg (by omega), if_neg (by omega), if_neg (by omega), if_neg (by omega), if_pos ⟨rfl, rfl⟩]
    rfl
  · rw [a, if_neg (by omega), if_neg (by omega), if_neg (by omega), if_neg (by omega), if_pos ⟨rfl, rfl⟩]
  · rw [a, if_neg (by omega), if_pos ⟨rfl, rfl⟩]
  · rw [a, if_pos ⟨rfl, rfl⟩]
  · rw [a, if_neg (by omega), if_neg (by omega), if_neg (by omega), if_neg (by omega), if_neg (by omega), if_neg (by omega), if_pos ⟨rfl, rfl⟩]
  · unfold tch at z
    rw [a, if_neg (by omega), if_neg (by omega), if_neg (by omega), if_neg (by omega), if_neg (by omega), if_neg (by omega), if_neg (by omega)]
  · funext x
    rw [a, if_neg (by omega), if_neg (by omega), if_neg (by omega), if_neg (by omega), if_neg (by omega), if_neg (by omega), if_neg (by omega)]
/-- what Mixer.work leaves as it was -/
def wfr (f : Nat) (M M' : mc_M) : Prop := ∀ c, (c < 25 ∨ 30 < c) → (c < f ∨ f + 12 < c) → M' c = M c
theorem wfr_mfr {f k : Nat} {M M' M'' : mc_M} (hf : 30 < f) (h : wfr f M M') (h' : mfr f k M' M'') : wfr f M M'' := fun c h1 h2 => by
  rw [← h c h1 h2]
  funext l
  exact h' c l (by unfold tch; omega)
theorem sp_mixj_lt {T : Nat → Nat → Int32} {S : Int32} {kept : Nat → Int32} {q : Stt} {s : Nat} {ov : Bool} {E : Nat → Int32} {B : Blk} : ∀ k, k < s → (sp_mixj T S kept q s ov E B).1.1 k = q k := by
  have come : ∀ (q : Stt) (s : Nat) (ov : Bool) (b : Nat), s ≤ (sp_come kept q s ov E b).1.2.1 ∧ ∀ k, k < s → (sp_come kept q s ov E b).1.1 k = q k := by
    intro q s ov b
    unfold sp_come
    split
    · exact ⟨Nat.le_refl _, fun _ _ => rfl⟩
    · split
      · exact ⟨Nat.le_succ _, fun k hk => if_neg (by omega)⟩
      · exact ⟨Nat.le_refl _, fun _ _ => rfl⟩
  intro k hk
  unfold sp_mixj
  split
  · rfl
  · split
    · show (sp_come kept _ _ _ E _).1.1 k = q k
      rw [(come _ _ _ _).2 k (Nat.lt_of_lt_of_le hk (come q s ov _).1), (come q s ov _).2 k hk]
    · exact (come q s ov _).2 k hk
section WK
variable {g : mc_G} {d n f : Nat} {M : mc_M} {L : mc_L} {Q : Option Value → mc_M → mc_L → Prop} {T : Nat → Nat → Int32} {m : Nat} {P : Nat → Blk}
theorem cX_work (hf : rs_is f) (hT : nt_ok T m) (hN : nt_C M T m) {S : Int32} (hS : M f 1 = S) (hP : prg T m M P) (hP10 : ∀ b, b < 16 → (P b).2.1.length ≤ 10) (htg : tg_ok P 16) {kept : Nat → Int32} (hkept : ∀ b, b < 16 → S &&& M 22 b = kept b) {R0 : Nat → Blk} {r : (Stt × Nat × Bool) × (Nat → Blk)} (hr : r = sp_mx T S kept P 100 0 (sp_come kept (fun _ => (0, fun _ => 0)) 0 false (M 20) 0).1 R0) (hd : 35 ≤ d)
    (h1 : r.1.2.2 = false → ∀ M', wfr f M M' → M' f 1 = S → M' f 0 = nI r.1.2.1 → r.1.2.1 ≤ 100 → (∀ i, i < r.1.2.1 → rdone T m S M' f i (r.2 i)) → Q (some (.int 1)) M' L) (h0 : r.1.2.2 = true → ∀ M', wfr f M M' → Q (some (.int 0)) M' L) : ctX_work g d [.ref 25, .ref 1, .ref 7, .ref 22, .ref 20, .ref f] n M L Q := by
  obtain ⟨d, rfl⟩ := Nat.exists_eq_add_of_le' (show 1 ≤ d by omega)
  have hm150 := hT.1
  have hf30 : 30 < f := by rcases hf with rfl | rfl <;> decide
  have hfl : fl_is f 100 := by
    rcases hf with rfl | rfl
    · exact Or.inr (Or.inl ⟨rfl, rfl⟩)
    · exact Or.inr (Or.inr ⟨rfl, rfl⟩)
  have fin : ∀ (K : mc_K), mc_closed true tab0 n 0 (some .boolean) (shX_work g d) Q (fun _ _ _ => False) tbX_work K → ∀ (E : Nat → Int32) (M1 : mc_M), wfr f M M1 → M1 f 1 = S → mxs M1 kept r.1.1 r.1.2.1 r.1.2.2 E → (r.1.2.2 = false → ∀ i, i < r.1.2.1 → rdone T m S M1 f i (r.2 i)) → ∀ i, K 147 [some (.ref 25), some (.ref 1), some (.ref 7), some (.ref 22), some (.ref 20), some (.ref f), some (.int i)] [] n M1 L := by
    intro K hK E M1 hw hS1 hs hR i
    have a : ∀ c x, c ≠ f → mc_put M1 f 0 (M1 25 5) c x = M1 c x := fun c x hc => by rw [mc_put_at, if_neg (fun y => hc y.1)]
    have w2 : wfr f M (mc_put M1 f 0 (M1 25 5)) := fun c b1 b2 => by
      funext x
      rw [a c x (by omega), hw c b1 b2]
    have q1 : r.1.2.2 = false → Q (some (.int 1)) (mc_put M1 f 0 (M1 25 5)) L := fun z => by
      refine h1 z _ w2 (by rw [mc_put_at, if_neg (by omega), hS1]) (by rw [mc_put_at, if_pos ⟨rfl, rfl⟩, hs.2.1]) hs.1 (fun i hi => ?_)
      have e : ∀ y, mc_put M1 f 0 (M1 25 5) (f + (y + 1)) = M1 (f + (y + 1)) := fun y => funext fun x => a _ x (by omega)
      have t := hR z i hi
      unfold rdone rjmp rblk fl_sv fl_as at t ⊢
      rw [e 0, e 1, e 2, e 3, e 4, e 5, e 6, e 7, e 8, e 9, e 10, e 11]
      exact t
    have o6 : mc_put M1 f 0 (M1 25 5) 25 6 = bI r.1.2.2 := by rw [mc_put_at, if_neg (by omega), hs.2.2.1]
    cases hov : r.1.2.2 with
    | false =>
      rw [hov] at o6
      have q1' := q1 hov
      rcases hf with rfl | rfl <;>
      exact hK.1 [] 30 147 _ _ _ _ _ ⟨fun z => absurd o6 z, fun _ => ⟨Or.inr rfl, Nat.le_refl _, q1'⟩⟩
    | true =>
      rw [hov] at o6
      have q0 := h0 hov _ w2
      rcases hf with rfl | rfl <;>
      exact hK.1 [] 30 147 _ _ _ _ _ ⟨fun _ => ⟨Or.inl rfl, Nat.le_refl _, q0⟩, fun z => absurd (o6.symm.trans z) (by decide)⟩
  have lp : ∀ (K : mc_K), mc_closed true tab0 n 0 (some .boolean) (shX_work g d) Q (fun _ _ _ => False) tbX_work K → ∀ (fu k : Nat) (i : Int32) (st : Stt × Nat × Bool) (R : Nat → Blk) (E : Nat → Int32) (M1 : mc_M), fu + k = 100 → i = nI k → wfr f M M1 → M1 f 1 = S → mxs M1 kept st.1 st.2.1 st.2.2 E → (∀ i, i < k → rdone T m S M1 f i (R i)) → r = sp_mx T S kept P fu k st R → K 65 [some (.ref 25), some (.ref 1), some (.ref 7), some (.ref 22), some (.ref 20), some (.ref f), some (.int i)] [] n M1 L := by
    intro K hK fu
    induction fu with
    | zero =>
      intro k i st R E M1 hk hi hw hS1 hs hR hr
      subst hi
      have hr' : r = (st, R) := hr
      have f1 := fin K hK E M1 hw hS1 (by rw [hr']; exact hs) (fun _ i hi => by rw [hr'] at hi ⊢; exact hR i (by have := hs.1; have hi' : i < st.2.1 := hi; omega)) (nI k)
      have c1 : M1 25 5 ≤ nI k := by rw [hs.2.1]; exact nI_le (by have := hs.1; omega) (by omega)
      rcases hf with rfl | rfl <;>
      exact hK.1 [147] 30 65 _ _ _ _ _ ⟨fun _ => f1, fun z => absurd c1 z⟩
    | succ fu ih =>
      intro k i st R E M1 hk hi hw hS1 hs hR hr
      subst hi
      have hs100 := hs.1
      by_cases hcond : k < st.2.1 ∧ st.2.2 = false
      · unfold sp_mx at hr
        rw [if_pos hcond] at hr
        obtain ⟨hks, hov⟩ := hcond
        obtain ⟨b1, b2, b3⟩ := hs.2.2.2.1 k hks
        have ek : (nI k).toNatClampNeg = k := nI_clamp (by omega)
        have vk : vp_in (nI k) 100 := vp_in_nI (by omega) (by decide)
        have ek8 : (nI k * 8).toNatClampNeg = k * 8 := by
          rw [show nI k * 8 = nI (k * 8) from nI_mul k 8, nI_clamp (by omega)]
        have nk8 : ¬ nI k * 8 < 0 := by
          rw [show nI k * 8 = nI (k * 8) from nI_mul k 8]
          exact nI_pos (by omega)
        have l800 : (nI k * 8).toNatClampNeg + (8 : Int32).toNatClampNeg ≤ 800 := by
          rw [ek8]
          show k * 8 + 8 ≤ 800
          omega
        have lowM : ∀ c, c < 25 → M1 c = M c := fun c hc => hw c (Or.inl hc) (Or.inl (by omega))
        have hN1 : nt_C M1 T m := nt_C_to hN (fun c a1 a2 => lowM c (by omega))
        have hP1 : prg T m M1 P := prg_to hP (fun c a1 a2 => lowM c (by omega))
        obtain ⟨ss, j, hB⟩ := hP1.2.2 (st.1 k).1 b2
        have hss : ss.length ≤ 10 := by
          have := hP10 (st.1 k).1 b2
          rw [hB.2.2.2.2.2.1, List.length_map] at this
          exact this
        have bo : M1 26 (nI k).toNatClampNeg = nI (st.1 k).1 := by rw [ek, b1]
        have cs : ¬ M1 25 5 ≤ nI k := by rw [hs.2.1]; exact nI_ge hks (by omega)
        have c100 : ¬ (100 : Int32) ≤ nI k := nI_ge (b := 100) (by omega) (by decide)
        have ov0 : M1 25 6 = 0 := by rw [hs.2.2.1, hov]; rfl
        have mk : ∀ M2, M2 = fl_empty M1 f k (M1 26 (nI k).toNatClampNeg) → ∀ M3, M3 = mc_set M2 29 (va_cpy (M2 27) (M2 29) (nI k * 8).toNatClampNeg (0 : Int32).toNatClampNeg (8 : Int32).toNatClampNeg) → mfr f k M1 M3 ∧ mxs M3 kept st.1 st.2.1 st.2.2 (st.1 k).2 ∧ rblk T m S M3 f k [] ∧ M3 (f + 5) k = nI k ∧ M3 (f + 7) k = -1 ∧ M3 (f + 8) k = -1 ∧ M3 (f + 1) k = nI (st.1 k).1 := fun M2 z2 M3 z3 => by
          obtain ⟨e1, e2, e3, e4, e5, e6, e7⟩ := fl_empty_mk (T := T) (m := m) (S := S) z2
          have w3 : ∀ c, c ≠ 29 → M3 c = M2 c := fun c hc => by rw [z3, mc_set_n hc]
          have rowf : ∀ i, M3 (f + i) = M2 (f + i) := fun i => w3 _ (by omega)
          refine ⟨fun c x y => ?_, ⟨hs100, ?_, ?_, fun u hu => ?_, fun u hu => ?_, fun u hu => ?_⟩, ?_, ?_, ?_, ?_, ?_⟩
          · rw [w3 c (fun y' => y (by unfold tch; omega))]
            exact e6 c x y
          · rw [w3 25 (by decide), e7 25 (by omega), hs.2.1]
          · rw [w3 25 (by decide), e7 25 (by omega), hs.2.2.1]
          · rw [w3 26 (by decide), w3 27 (by decide), e7 26 (by omega), e7 27 (by omega)]
            exact hs.2.2.2.1 u hu
          · rw [w3 28 (by decide), e7 28 (by omega), hs.2.2.2.2.1 u hu]
          · rw [z3, mc_set_s, ek8, e7 27 (by omega)]
            show (if 0 ≤ u ∧ u < 0 + 8 then M1 27 (k * 8 + (u - 0)) else _) = _
            rw [if_pos (by omega), Nat.sub_zero, b3 u hu]
          · unfold rblk fl_sv fl_as at e1 ⊢
            rw [rowf 2, rowf 3, rowf 4, rowf 9, rowf 10, rowf 11, rowf 12]
            exact e1
          · rw [rowf 5, e2]
          · rw [rowf 7, e3]
          · rw [rowf 8, e4]
          · rw [rowf 1, e5, bo]
        have nxt : ∀ M4 M5, mfr f k M1 M4 → M4 (f + 1) k = nI (st.1 k).1 → mfr f k M1 M5 → M5 (f + 1) k = nI (st.1 k).1 → mxs M5 kept (sp_blk T S kept P st k).1.1 (sp_blk T S kept P st k).1.2.1 (sp_blk T S kept P st k).1.2.2 (sp_mixa T S (P (st.1 k).1).2.1 (st.1 k).2).1 → rblk T m S M5 f k (sp_blk T S kept P st k).2.2.1 → rjmp T m S M5 f k (sp_blk T S kept P st k).2.2.2 → K 65 [some (.ref 25), some (.ref 1), some (.ref 7), some (.ref 22), some (.ref 20), some (.ref f), some (.int (nI k + 1))] [] n M5 L := fun M4 M5 _ _ y5 o5 s5 rb rj5 => by
          refine ih (k + 1) _ _ _ _ M5 (by omega) (nI_1 k) (wfr_mfr hf30 hw y5) (by rw [mfr_low hf y5 (Or.inr (Or.inr rfl)), hS1]) s5 (fun i hi => ?_) hr
          show rdone T m S M5 f i (if i = k then _ else _)
          by_cases hik : i = k
          · rw [if_pos hik, hik]
            exact ⟨o5, rb, rj5⟩
          · rw [if_neg hik]
            exact rdone_to (hR i (by omega)) y5 hf30 hik
        have cJ : ∀ M3, mfr f k M1 M3 → rblk T m S M3 f k [] → M3 (f + 5) k = nI k → M3 (f + 7) k = -1 → M3 (f + 8) k = -1 → M3 (f + 1) k = nI (st.1 k).1 → ∀ M4, mfr f k M1 M4 → kp5 f M3 M4 → M4 (f + 5) k = nI k ∧ M4 (f + 7) k = -1 ∧ M4 (f + 8) k = -1 ∧ M4 (f + 1) k = nI (st.1 k).1 := fun M3 y1 y3 y4 y5 y6 y7 M4 z1 z2 => by
          rw [z2.1, z2.2.1, z2.2.2.1, z2.2.2.2]
          exact ⟨y4, y5, y6, y7⟩
        have htb := htg (st.1 k).1 b2
        rcases hf with rfl | rfl <;>
        exact hK.1 [65] 80 65 _ _ _ _ _ ⟨fun z => absurd z cs, fun _ => ⟨fun z => absurd z c100, fun _ => ⟨fun z => absurd ov0 z, fun _ => ⟨vk, cF_makeEmpty hfl (by omega) rfl (by omega) (fun M2 z2 => ⟨nk8, by decide, by decide, l800, by decide, cX_mixAssignments (by first | exact Or.inl rfl | exact Or.inr rfl) hT hN1 hS1 hB b2 hss hks rfl rfl (mk M2 z2 _ rfl).1 (mk M2 z2 _ rfl).2.1 (mk M2 z2 _ rfl).2.2.1 (by omega) (fun M4 y1 y2 y3 y4 => cX_mixJump (by first | exact Or.inl rfl | exact Or.inr rfl) hT hN1 hS1 hB b2 htb hks rfl rfl y1 y3 y4 (cJ _ (mk M2 z2 _ rfl).1 (mk M2 z2 _ rfl).2.2.1 (mk M2 z2 _ rfl).2.2.2.1 (mk M2 z2 _ rfl).2.2.2.2.1 (mk M2 z2 _ rfl).2.2.2.2.2.1 (mk M2 z2 _ rfl).2.2.2.2.2.2 M4 y1 y2).1 (cJ _ (mk M2 z2 _ rfl).1 (mk M2 z2 _ rfl).2.2.1 (mk M2 z2 _ rfl).2.2.2.1 (mk M2 z2 _ rfl).2.2.2.2.1 (mk M2 z2 _ rfl).2.2.2.2.2.1 (mk M2 z2 _ rfl).2.2.2.2.2.2 M4 y1 y2).2.1 (cJ _ (mk M2 z2 _ rfl).1 (mk M2 z2 _ rfl).2.2.1 (mk M2 z2 _ rfl).2.2.2.1 (mk M2 z2 _ rfl).2.2.2.2.1 (mk M2 z2 _ rfl).2.2.2.2.2.1 (mk M2 z2 _ rfl).2.2.2.2.2.2 M4 y1 y2).2.2.1 (by omega) (fun M5 x1 x2 x3 x4 x5 => nxt M4 M5 y1 (cJ _ (mk M2 z2 _ rfl).1 (mk M2 z2 _ rfl).2.2.1 (mk M2 z2 _ rfl).2.2.2.1 (mk M2 z2 _ rfl).2.2.2.2.1 (mk M2 z2 _ rfl).2.2.2.2.2.1 (mk M2 z2 _ rfl).2.2.2.2.2.2 M4 y1 y2).2.2.2 x1 ((congrFun x2 k).trans (cJ _ (mk M2 z2 _ rfl).1 (mk M2 z2 _ rfl).2.2.1 (mk M2 z2 _ rfl).2.2.2.1 (mk M2 z2 _ rfl).2.2.2.2.1 (mk M2 z2 _ rfl).2.2.2.2.2.1 (mk M2 z2 _ rfl).2.2.2.2.2.2 M4 y1 y2).2.2.2) x3 x4 x5))⟩)⟩⟩⟩⟩
      · unfold sp_mx at hr
        rw [if_neg hcond] at hr
        have f1 := fun z => fin K hK E M1 hw hS1 (by rw [hr]; exact hs) z (nI k)
        have f2 : (st.2.2 = false → ¬ k < st.2.1) := fun z y => hcond ⟨y, z⟩
        have f3 := f1 (fun z i hi => by
          rw [hr] at z hi ⊢
          exact hR i (by have := f2 z; have hi' : i < st.2.1 := hi; omega))
        have z9 : ¬ M1 25 5 ≤ nI k → ¬ M1 25 6 = 0 := fun z y => hcond (by
          rw [hs.2.1] at z
          refine ⟨Nat.lt_of_not_le (fun w => z (nI_le w (by omega))), ?_⟩
          rw [hs.2.2.1] at y
          cases hov : st.2.2 with
          | false => rfl
          | true =>
            rw [hov] at y
            exact absurd y (by decide))
        rcases hf with rfl | rfl <;>
        exact hK.1 [147] 30 65 _ _ _ _ _ ⟨fun _ => f3, fun z => ⟨fun _ => f3, fun _ => ⟨fun _ => f3, fun y => absurd y (z9 z)⟩⟩⟩
  have go33 : ∀ (K : mc_K), mc_closed true tab0 n 0 (some .boolean) (shX_work g d) Q (fun _ _ _ => False) tbX_work K → ∀ M1, M1 = mc_set M 28 (fun b => if b < 16 then S &&& M 22 b else M 28 b) → ∀ i, K 33 [some (.ref 25), some (.ref 1), some (.ref 7), some (.ref 22), some (.ref 20), some (.ref f), some (.int i)] [] n M1 L := by
    intro K hK M1 z1 i
    have a1 : ∀ c, c ≠ 28 → M1 c = M c := fun c hc => by rw [z1, mc_set_n hc]
    have ini : ∀ M2, M2 = mc_set M1 29 (va_cpy (M1 20) (M1 29) (0 : Int32).toNatClampNeg (0 : Int32).toNatClampNeg (8 : Int32).toNatClampNeg) → mxs (mc_put (mc_put M2 25 5 0) 25 6 0) kept (fun _ => (0, fun _ => 0)) 0 false (M 20) ∧ wfr f M (mc_put (mc_put M2 25 5 0) 25 6 0) ∧ (mc_put (mc_put M2 25 5 0) 25 6 0) f 1 = S := fun M2 z2 => by
      have a2 : ∀ c, c ≠ 29 → M2 c = M1 c := fun c hc => by rw [z2, mc_set_n hc]
      have a3 : ∀ c x, c ≠ 25 → (mc_put (mc_put M2 25 5 0) 25 6 0) c x = M2 c x := fun c x hc => by rw [mc_put_at, if_neg (fun y => hc y.1), mc_put_at, if_neg (fun y => hc y.1)]
      refine ⟨⟨by omega, ?_, ?_, fun u hu => absurd hu (Nat.not_lt_zero _), fun u hu => ?_, fun u hu => ?_⟩, fun c b1 b2 => ?_, ?_⟩
      · rw [mc_put_at, if_neg (by decide), mc_put_at, if_pos ⟨rfl, rfl⟩]
        rfl
      · rw [mc_put_at, if_pos ⟨rfl, rfl⟩]
        rfl
      · rw [a3 28 u (by decide), a2 28 (by decide), z1, mc_set_s, if_pos hu, hkept u hu]
      · rw [a3 29 u (by decide), z2, mc_set_s, a1 20 (by decide)]
        show (if 0 ≤ u ∧ u < 0 + 8 then M 20 (0 + (u - 0)) else _) = _
        rw [if_pos (by omega), Nat.zero_add, Nat.sub_zero]
      · funext x
        rw [a3 c x (by omega), a2 c (by omega), a1 c (by omega)]
      · rw [a3 f 1 (by omega), a2 f (by omega), a1 f (by omega), hS]
    have nx : ∀ M2, M2 = mc_set M1 29 (va_cpy (M1 20) (M1 29) (0 : Int32).toNatClampNeg (0 : Int32).toNatClampNeg (8 : Int32).toNatClampNeg) → ∀ M5, mx_fr (mc_put (mc_put M2 25 5 0) 25 6 0) M5 → mxs M5 kept (sp_come kept (fun _ => (0, fun _ => 0)) 0 false (M 20) 0).1.1 (sp_come kept (fun _ => (0, fun _ => 0)) 0 false (M 20) 0).1.2.1 (sp_come kept (fun _ => (0, fun _ => 0)) 0 false (M 20) 0).1.2.2 (M 20) → K 65 [some (.ref 25), some (.ref 1), some (.ref 7), some (.ref 22), some (.ref 20), some (.ref f), some (.int 0)] [] n M5 L := fun M2 z2 M5 hfr hs5 => by
      obtain ⟨-, i2, i3⟩ := ini M2 z2
      refine lp K hK 100 0 0 _ R0 (M 20) M5 rfl rfl (fun c b1 b2 => ?_) ?_ hs5 (fun i hi => absurd hi (Nat.not_lt_zero _)) hr
      · rw [hfr c (by omega) (by omega) (by omega) (by omega)]
        exact i2 c b1 b2
      · rw [hfr f (by omega) (by omega) (by omega) (by omega)]
        exact i3
    rcases hf with rfl | rfl <;>
    exact hK.1 [65] 60 33 _ _ _ _ _ ⟨by decide, by decide, by decide, by decide, by decide, Or.inl rfl, cX_comeTo rfl (by decide) (ini _ rfl).1 (by omega) (fun r1 M5 _ hfr hs5 => nx _ rfl M5 hfr hs5)⟩
  have l0 : ∀ (K : mc_K), mc_closed true tab0 n 0 (some .boolean) (shX_work g d) Q (fun _ _ _ => False) tbX_work K → ∀ (r k : Nat) (i : Int32) (M1 : mc_M), r + k = 16 → i = nI k → M1 = mc_set M 28 (fun b => if b < k then S &&& M 22 b else M 28 b) → K 3 [some (.ref 25), some (.ref 1), some (.ref 7), some (.ref 22), some (.ref 20), some (.ref f), some (.int i)] [] n M1 L := by
    intro K hK r
    induction r with
    | zero =>
      intro k i M1 hk hi z1
      subst hi
      have hk' : k = 16 := by omega
      subst hk'
      have g1 := go33 K hK M1 z1 (nI 16)
      rcases hf with rfl | rfl <;>
      exact hK.1 [33] 20 3 _ _ _ _ _ ⟨fun _ => g1, fun z => absurd (nI_le (a := 16) (b := 16) (Nat.le_refl _) (by decide)) z⟩
    | succ r ih =>
      intro k i M1 hk hi z1
      subst hi
      have c1 : ¬ (16 : Int32) ≤ nI k := nI_ge (b := 16) (by omega) (by decide)
      have ek : (nI k).toNatClampNeg = k := nI_clamp (by omega)
      have vk : vp_in (nI k) 16 := vp_in_nI (by omega) (by decide)
      have a1 : ∀ c, c ≠ 28 → M1 c = M c := fun c hc => by rw [z1, mc_set_n hc]
      have nx := ih (k + 1) (nI k + 1) (mc_put M1 28 (nI k).toNatClampNeg (M1 f 1 &&& M1 22 (nI k).toNatClampNeg)) (by omega) (nI_1 k) (by
        funext c x
        rw [mc_put_at, ek, a1 f (by omega), a1 22 (by decide), hS, z1, mc_set_at, mc_set_at]
        by_cases hj : c = 28
        · rw [if_pos hj, if_pos hj]
          by_cases hl : x = k
          · rw [if_pos ⟨hj, hl⟩, if_pos (by omega), hl]
          · rw [if_neg (fun z => hl z.2)]
            by_cases hlk : x < k
            · rw [if_pos hlk, if_pos (by omega)]
            · rw [if_neg hlk, if_neg (by omega)]
        · rw [if_neg (fun z => hj z.1), if_neg hj, if_neg hj])
      rcases hf with rfl | rfl <;>
      exact hK.1 [3] 30 3 _ _ _ _ _ ⟨fun z => absurd z c1, fun _ => ⟨vk, vk, nx⟩⟩
  have l0' := fun K hK => l0 K hK 16 0 0 M rfl rfl (by
    have : (fun b => if b < 0 then S &&& M 22 b else M 28 b) = M 28 := by
      funext b
      rw [if_neg (by omega)]
    rw [this, mc_set_id])
  rcases hf with rfl | rfl <;>
  exact inX_work (Nat.le_of_ble_eq_true rfl) (fun K hK => hK.1 [3] 20 0 _ _ _ _ _ (l0' K hK))
end WK
