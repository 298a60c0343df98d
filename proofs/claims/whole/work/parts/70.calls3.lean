/-! FlowMixer's mix and about -/
section AM
variable {g : mc_G} {d n f : Nat} {M : mc_M} {L : mc_L} {Q : Option Value → mc_M → mc_L → Prop} {Qt : Nat → mc_M → mc_L → Prop} {T : Nat → Nat → Int32} {m : Nat} {P : Nat → Blk} {S : Int32} {nb : Nat} {R : Nat → Blk} {SS : Nat → List Nat} {J : Nat → Nat}
def mxC0 (fs : Nat) (M M' : mc_M) : Prop := ∀ c, c ≠ 22 → (c < 25 ∨ 30 < c) → (c < fs ∨ fs + 12 < c) → M' c = M c
def mxC (fs f : Nat) (M M' : mc_M) : Prop := (∀ c, c ≠ 0 → c ≠ 22 → (c < 25 ∨ 30 < c) → c ≠ 35 → (c < fs ∨ fs + 12 < c) → M' c = M c) ∧ M' 0 8 = nI fs ∧ M' 0 9 = nI f ∧ (∀ i, i ≠ 8 → i ≠ 9 → M' 0 i = M 0 i) ∧ M' 35 3 = 1 ∧ ∀ i, i ≠ 3 → M' 35 i = M 35 i
/-- a block as it is held by rows that are the same -/
theorem rdone_eq {M M' : mc_M} {fs i : Nat} {B : Blk} (h : rdone T m S M fs i B) (e : ∀ j, 1 ≤ j → j ≤ 12 → M' (fs + j) = M (fs + j)) : rdone T m S M' fs i B := by
  obtain ⟨c1, c2, c3⟩ := h
  refine ⟨by rw [e 1 (by omega) (by omega)]; exact c1, ?_, ?_⟩
  · unfold rblk fl_sv fl_as at c2 ⊢
    rw [e 2 (by omega) (by omega), e 3 (by omega) (by omega), e 4 (by omega) (by omega), e 9 (by omega) (by omega), e 10 (by omega) (by omega), e 11 (by omega) (by omega), e 12 (by omega) (by omega)]
    exact c2
  · unfold rjmp at c3 ⊢
    rw [e 5 (by omega) (by omega), e 6 (by omega) (by omega), e 7 (by omega) (by omega), e 8 (by omega) (by omega), e 10 (by omega) (by omega), e 12 (by omega) (by omega)]
    exact c3
theorem mix_fin {fs : Nat} (hf : rs_is f) (hfs : rs_is fs) {x : Int32} (K : mc_K) (hK : mc_closed true tab0 n 1 (some .int) (sxA_mix g d) Q Qt tbA_mix K) {M3 : mc_M} (b8 : M3 0 8 = nI f) (b9 : M3 0 9 = nI fs)
    (h0 : ∀ M', (∀ c, c ≠ 0 → c ≠ 35 → M' c = M3 c) → M' 0 8 = nI fs → M' 0 9 = nI f → (∀ i, i ≠ 8 → i ≠ 9 → M' 0 i = M3 0 i) → M' 35 3 = 1 → (∀ i, i ≠ 3 → M' 35 i = M3 35 i) → Q (some (.int (M' fs 0))) M' L) : K 90 [some (.ref 0), some (.int x), none] [] n M3 L := by
  obtain ⟨p1, p2, p3⟩ := rs_clamp hf b8
  obtain ⟨p4, p5, p6⟩ := rs_clamp hfs b9
  have nz : ∀ k, rs_is k → Int32.ofNat k ≠ 0 ∧ (Int32.ofNat k).toNatClampNeg = k := fun k hk => by
    obtain ⟨y1, y2, -⟩ := rs_clamp hk (x := nI k) rfl
    exact ⟨y1, y2⟩
  have z9 := nz (M3 0 9).toNatClampNeg (by rw [p5]; exact hfs)
  have z8 := nz (M3 0 8).toNatClampNeg (by rw [p2]; exact hf)
  have e8 : Int32.ofNat (M3 0 9).toNatClampNeg = nI fs := by rw [p5]; rfl
  have e9 : Int32.ofNat (M3 0 8).toNatClampNeg = nI f := by rw [p2]; rfl
  have q1 : ∀ y : Int32, y = nI fs → ∀ M4, M4 = mc_put (mc_put (mc_put M3 0 8 (Int32.ofNat (M3 0 9).toNatClampNeg)) 0 9 (Int32.ofNat (M3 0 8).toNatClampNeg)) 35 3 1 → K 120 [some (.ref 0), some (.int x), some (.ref (M3 0 8).toNatClampNeg)] [.ref y.toNatClampNeg] n M4 L := fun y hy M4 hM4 => by
    obtain ⟨-, y2, -⟩ := rs_clamp hfs hy
    rw [y2, p2]
    rw [e8, e9] at hM4
    have qq : Q (some (.int (M4 fs 0))) M4 L := by
      refine h0 M4 (fun c h1 h2 => ?_) ?_ ?_ (fun i z1 z2 => ?_) ?_ (fun i z => ?_)
      · funext w
        rw [hM4, mc_put_at, if_neg (fun z => h2 z.1), mc_put_at, if_neg (fun z => h1 z.1), mc_put_at, if_neg (fun z => h1 z.1)]
      · rw [hM4, mc_put_at, if_neg (by omega), mc_put_at, if_neg (by omega), mc_put_at, if_pos ⟨rfl, rfl⟩]
      · rw [hM4, mc_put_at, if_neg (by omega), mc_put_at, if_pos ⟨rfl, rfl⟩]
      · rw [hM4, mc_put_at, if_neg (by omega), mc_put_at, if_neg (by omega), mc_put_at, if_neg (by omega)]
      · rw [hM4, mc_put_at, if_pos ⟨rfl, rfl⟩]
      · rw [hM4, mc_put_at, if_neg (fun w => z w.2), mc_put_at, if_neg (by omega), mc_put_at, if_neg (by omega)]
    rcases hfs with rfl | rfl
    · exact hK.1 [] 20 120 _ _ _ _ _ ⟨Nat.le_succ _, qq⟩
    · exact hK.1 [] 20 120 _ _ _ _ _ ⟨Nat.le_succ _, qq⟩
  have w8 : mc_put (mc_put (mc_put M3 0 8 (Int32.ofNat (M3 0 9).toNatClampNeg)) 0 9 (Int32.ofNat (M3 0 8).toNatClampNeg)) 35 3 1 0 8 = nI fs := by
    rw [mc_put_at, if_neg (by omega), mc_put_at, if_neg (by omega), mc_put_at, if_pos ⟨rfl, rfl⟩, e8]
  have w8' : mc_put (mc_put (mc_put M3 0 8 (Int32.ofNat (M3 0 9).toNatClampNeg)) 0 9 (Int32.ofNat (M3 0 8).toNatClampNeg)) 35 3 1 0 8 ≠ 0 := by
    rw [w8, ← e8]
    exact z9.1
  exact hK.1 [120] 60 90 _ _ _ _ _ ⟨p1, p4, z9.1, z9.2, z8.1, z8.2, Or.inr rfl, w8', q1 _ w8 _ rfl⟩
theorem mix_52 (hT : nt_ok T m) {fs : Nat} (hfs : rs_is fs) {x : Int32} (hd : 35 ≤ d) (K : mc_K) (hK : mc_closed true tab0 n 1 (some .int) (sxA_mix g d) Q Qt tbA_mix K) {M1 : mc_M} (hN : nt_C M1 T m) (hP : prg T m M1 P) (hP10 : ∀ b, b < 16 → (P b).2.1.length ≤ 10) (htg : tg_ok P 16) (b9 : M1 0 9 = nI fs) {kept : Nat → Int32} (hk : ∀ b, b < 16 → S &&& M1 22 b = kept b) {R0 : Nat → Blk} {r : (Stt × Nat × Bool) × (Nat → Blk)} (hr : r = sp_mx T S kept P 100 0 (sp_come kept (fun _ => (0, fun _ => 0)) 0 false (M1 20) 0).1 R0)
    (h0 : r.1.2.2 = false → ∀ M3, wfr fs (mc_put M1 fs 1 S) M3 → M3 fs 1 = S → M3 fs 0 = nI r.1.2.1 → r.1.2.1 ≤ 100 → (∀ i, i < r.1.2.1 → rdone T m S M3 fs i (r.2 i)) → K 90 [some (.ref 0), some (.int x), none] [] n M3 L) (hov : r.1.2.2 = true → ∀ M3, wfr fs (mc_put M1 fs 1 S) M3 → Q (some (.int (-1))) M3 L) : K 52 [some (.ref 0), some (.int x), none] [.int S, .ref (M1 0 9).toNatClampNeg] n M1 L := by
  obtain ⟨-, e9, -⟩ := rs_clamp hfs b9
  have hfs37 : 37 < fs := by rcases hfs with rfl | rfl <;> decide
  rw [e9]
  have o : ∀ c, c ≠ fs → mc_put M1 fs 1 S c = M1 c := fun c hc => funext fun w => by rw [mc_put_at, if_neg (fun z => hc z.1)]
  have hN2 : nt_C (mc_put M1 fs 1 S) T m := nt_C_to hN (fun c _ _ => o c (by omega))
  have hP2 : prg T m (mc_put M1 fs 1 S) P := prg_to hP (fun c _ _ => o c (by omega))
  have hS2 : mc_put M1 fs 1 S fs 1 = S := by rw [mc_put_at, if_pos ⟨rfl, rfl⟩]
  have hk2 : ∀ b, b < 16 → S &&& mc_put M1 fs 1 S 22 b = kept b := fun b hb => by
    rw [o 22 (by omega)]
    exact hk b hb
  have h20 : mc_put M1 fs 1 S 20 = M1 20 := o 20 (by omega)
  rw [← h20] at hr
  have e92 : mc_put M1 fs 1 S 0 9 = nI fs := by rw [o 0 (by omega), b9]
  obtain ⟨w22, w23, -⟩ := rs_clamp hfs e92
  have wk : ∀ (Q' : Option Value → mc_M → mc_L → Prop), (r.1.2.2 = false → ∀ M3, wfr fs (mc_put M1 fs 1 S) M3 → M3 fs 1 = S → M3 fs 0 = nI r.1.2.1 → r.1.2.1 ≤ 100 → (∀ i, i < r.1.2.1 → rdone T m S M3 fs i (r.2 i)) → Q' (some (.int 1)) M3 L) → (r.1.2.2 = true → ∀ M3, wfr fs (mc_put M1 fs 1 S) M3 → Q' (some (.int 0)) M3 L) → ctX_work g d [.ref 25, .ref 1, .ref 7, .ref 22, .ref 20, .ref (mc_put M1 fs 1 S 0 9).toNatClampNeg] n (mc_put M1 fs 1 S) L Q' := fun Q' a1 a2 => by
    rw [w23]
    exact cX_work hfs hT hN2 hS2 hP2 hP10 htg hk2 hr (by omega) a1 a2
  clear hr hk2 hN2 hP2 hS2
  rcases hfs with rfl | rfl
  · exact hK.1 [90] 60 52 _ _ _ _ _ ⟨w22, wk _ (fun ov M3 a1 a2 a3 a4 a5 => ⟨fun _ => h0 ov M3 a1 a2 a3 a4 a5, fun z => absurd z (by decide)⟩) (fun ov M3 a1 => ⟨fun z => absurd rfl z, fun _ => ⟨Nat.le_succ _, hov ov M3 a1⟩⟩)⟩
  · exact hK.1 [90] 60 52 _ _ _ _ _ ⟨w22, wk _ (fun ov M3 a1 a2 a3 a4 a5 => ⟨fun _ => h0 ov M3 a1 a2 a3 a4 a5, fun z => absurd z (by decide)⟩) (fun ov M3 a1 => ⟨fun z => absurd rfl z, fun _ => ⟨Nat.le_succ _, hov ov M3 a1⟩⟩)⟩
theorem cA_mix (hg : mc_S0 g) (hT : nt_ok T m) (hN : nt_C M T m) (hP : prg T m M P) (hP10 : ∀ b, b < 16 → (P b).2.1.length ≤ 10) (htg : tg_ok P 16) (hpt : pt_ok P 16) {fs : Nat} (hf : rs_is f) (hfs : rs_is fs) (h08 : M 0 8 = nI f) (h09 : M 0 9 = nI fs) {x D : Int32} (hD : D = sp_dit T P 8 (255 &&& (x ^^^ (-1)))) {kept : Nat → Int32} (hkp : kept = fun b => (255 &&& (D ^^^ (-1))) &&& sp_Y T P b) {R0 : Nat → Blk} {r : (Stt × Nat × Bool) × (Nat → Blk)} (hr : r = sp_mx T (255 &&& (D ^^^ (-1))) kept P 100 0 (sp_come kept (fun _ => (0, fun _ => 0)) 0 false (M 20) 0).1 R0) (hd : 37 ≤ d)
    (h1 : ¬ (0 ≤ x ∧ x ≤ 255) → Qt 2 M L) (hov : 0 ≤ x → x ≤ 255 → r.1.2.2 = true → ∀ M', mxC0 fs M M' → Q (some (.int (-1))) M' L)
    (h0 : 0 ≤ x → x ≤ 255 → r.1.2.2 = false → r.1.2.1 ≤ 100 → ∀ M', mxC fs f M M' → M' fs 0 = nI r.1.2.1 → M' fs 1 = 255 &&& (D ^^^ (-1)) → (∀ i, i < r.1.2.1 → rdone T m (255 &&& (D ^^^ (-1))) M' fs i (r.2 i)) → ∀ y, y = nI r.1.2.1 → Q (some (.int y)) M' L) : cxA_mix g d [.ref 0, .int x] n M L Q Qt := by
  obtain ⟨d, rfl⟩ := Nat.exists_eq_add_of_le' (show 1 ≤ d by omega)
  obtain ⟨ne9, e09, -⟩ := rs_clamp hfs h09
  have hfs37 : 37 < fs := by rcases hfs with rfl | rfl <;> decide
  generalize hS : (255 &&& (D ^^^ (-1)) : Int32) = S at *
  have h52 : ∀ (K : mc_K), mc_closed true tab0 n 1 (some .int) (sxA_mix g d) Q Qt tbA_mix K → 0 ≤ x → x ≤ 255 → ∀ M1, lvr M M1 (sp_Y T P) → K 52 [some (.ref 0), some (.int x), none] [.int S, .ref (M1 0 9).toNatClampNeg] n M1 L := fun K hK l0 l2 M1 hM1 => by
    have m1 : ∀ c, c ≠ 22 → M1 c = M c := hM1.1
    have h20 : M1 20 = M 20 := m1 20 (by decide)
    have o : ∀ c, c ≠ fs → mc_put M1 fs 1 S c = M1 c := fun c hc => funext fun w => by rw [mc_put_at, if_neg (fun z => hc z.1)]
    refine mix_52 (kept := kept) (r := r) (R0 := R0) hT hfs (by omega) K hK (nt_C_to hN (fun c _ _ => m1 c (by omega))) (prg_to hP (fun c _ _ => m1 c (by omega))) hP10 htg (by rw [m1 0 (by decide)]; exact h09) (fun b hb => by rw [hM1.2 b hb, hkp]) (by rw [h20]; exact hr) (fun ov M3 a1 a2 a3 a4 a5 => ?_) (fun ov M3 a1 => hov l0 l2 ov M3 (fun c z1 z2 z3 => by rw [a1 c z2 z3, o c (by omega), m1 c z1]))
    have b0 : M3 0 = M 0 := by rw [a1 0 (by omega) (by omega), o 0 (by omega), m1 0 (by decide)]
    refine mix_fin hf hfs K hK (by rw [b0]; exact h08) (by rw [b0]; exact h09) (fun M' c1 c2 c3 c4 c5 c6 => ?_)
    refine h0 l0 l2 ov a4 M' ⟨fun c z1 z2 z3 z4 z5 => ?_, c2, c3, fun i z1 z2 => ?_, c5, fun i z => ?_⟩ ?_ ?_ (fun i hi => rdone_eq (a5 i hi) (fun j _ _ => c1 _ (by omega) (by omega))) _ ?_
    · rw [c1 c z1 z4, a1 c z3 z5, o c (by omega), m1 c z2]
    · rw [c4 i z1 z2, b0]
    · rw [c6 i z, a1 35 (by omega) (by omega), o 35 (by omega), m1 35 (by decide)]
    · rw [c1 fs (by omega) (by omega), a3]
    · rw [c1 fs (by omega) (by omega), a2]
    · rw [c1 fs (by omega) (by omega), a3]
  refine ixA_mix hg (by omega) (Nat.le_of_ble_eq_true rfl) (fun K hK => hK.1 [52] 60 0 _ _ _ _ _ (cA_isVariableSet (by omega) (fun l0 l2 => ⟨fun _ => cY_findLives hT hN hP hpt (by omega) (fun M1 hM1 => ⟨?_, cY_findStatics hT (nt_C_to hN (fun c _ _ => hM1.1 c (by omega))) (prg_to hP (fun c _ _ => hM1.1 c (by omega))) (by omega) (fun rr hrr => ?_)⟩), fun w => absurd w (by decide)⟩) (fun w => ⟨fun u => absurd rfl u, fun _ => ⟨Nat.lt_succ_self _, h1 w⟩⟩)))
  · rw [hM1.1 0 (by decide)]
    exact ne9
  · have e : rr = S := by rw [hrr, ← hS, hD]
    rw [e]
    exact h52 K hK l0 l2 M1 hM1
theorem cA_about (hg : mc_S0 g) (hf : rs_is f) (h08 : M 0 8 = nI f) (hsz : M f 0 = nI nb) (hnb : nb ≤ 100) (hcr : crs T m S M f nb R (fun _ => false) SS J) {x y : Int32} (hd : 6 ≤ d) (h1 : ¬ (∃ b, b < nb ∧ x = nI b) → Qt 0 M L) (h2 : ∀ b, b < nb → x = nI b → ¬ (0 ≤ y ∧ y ≤ 4) → Qt 2 M L)
    (h0 : ∀ b, b < nb → x = nI b → 0 ≤ y → y ≤ 4 → ∀ r, r = (if y = 0 then (R b).1 else if y = 1 then nI (R b).2.1.length else if y = 2 then (R b).2.2.1 else if y = 3 then (R b).2.2.2.2.1 else (R b).2.2.2.2.2) → Q (some (.int r)) M L) : cxA_about g d [.ref 0, .int x, .int y] n M L Q Qt := by
  obtain ⟨d, rfl⟩ := Nat.exists_eq_add_of_le' (show 1 ≤ d by omega)
  obtain ⟨ne0, e08, -⟩ := rs_clamp hf h08
  have no : ¬ (∃ b, b < nb ∧ x = nI b) → ∀ (K : mc_K), mc_closed true tab0 n 1 (some .int) (sxA_about g d) Q Qt tbA_about K → K 15 [some (.ref 0), some (.int x), some (.int y), none] [] n M L := fun hn K hK => hK.1 [] 20 15 _ _ _ _ _ ⟨Nat.lt_succ_self _, h1 hn⟩
  have yes : ∀ (K : mc_K), mc_closed true tab0 n 1 (some .int) (sxA_about g d) Q Qt tbA_about K → ∀ b, b < nb → x = nI b → K 25 [some (.ref 0), some (.int x), some (.int y), none] [] n M L := fun K hK b hb hx => by
    have q0 := h0 b hb hx
    have q2 := h2 b hb hx
    obtain ⟨⟨a1, a2, -, -, -, a6, a7, a8, a9, -, a11, a12⟩, -, -⟩ := hcr.1 b hb rfl
    have len : (R b).2.1.length = (SS b).length := by rw [a6, List.length_map]
    have vx : vp_in x 100 := by rw [hx]; exact vp_in_nI (by omega) (by decide)
    have ex : x.toNatClampNeg = b := by rw [hx]; exact nI_clamp (by omega)
    have j5 : M (f + 5) x.toNatClampNeg = nI (J b) := by rw [ex, a7]
    have vj : vp_in (M (f + 5) x.toNatClampNeg) 100 := by rw [j5]; exact vp_in_nI a8 (by decide)
    have ej : (M (f + 5) x.toNatClampNeg).toNatClampNeg = J b := by rw [j5]; exact nI_clamp (by omega)
    have r1 : M (f + 1) x.toNatClampNeg = (R b).1 := by rw [ex, a1]
    have r2 : M (f + 2) x.toNatClampNeg = nI (R b).2.1.length := by rw [ex, a2, len]
    have r6 : M (f + 6) (M (f + 5) x.toNatClampNeg).toNatClampNeg = (R b).2.2.1 := by rw [ej, a9]
    have r7 : M (f + 7) (M (f + 5) x.toNatClampNeg).toNatClampNeg = (R b).2.2.2.2.1 := by rw [ej, a11]
    have r8 : M (f + 8) (M (f + 5) x.toNatClampNeg).toNatClampNeg = (R b).2.2.2.2.2 := by rw [ej, a12]
    have i0 : y = 0 → 0 ≤ y ∧ y ≤ 4 := fun z => by rw [z]; decide
    have i1 : y = 1 → 0 ≤ y ∧ y ≤ 4 := fun z => by rw [z]; decide
    have i2 : y = 2 → 0 ≤ y ∧ y ≤ 4 := fun z => by rw [z]; decide
    have i3 : y = 3 → 0 ≤ y ∧ y ≤ 4 := fun z => by rw [z]; decide
    have i4 : y = 4 → 0 ≤ y ∧ y ≤ 4 := fun z => by rw [z]; decide
    have out : ¬ y = 0 → ¬ y = 1 → ¬ y = 2 → ¬ y = 3 → ¬ y = 4 → ¬ (0 ≤ y ∧ y ≤ 4) := fun z0 z1 z2 z3 z4 w => by
      obtain ⟨j, hj, e⟩ := nI_lt_of (x := y) (m := 5) (by decide) (Int32.not_lt.mpr w.1) (fun z => absurd (Int32.le_trans z w.2) (by decide))
      have : j = 0 ∨ j = 1 ∨ j = 2 ∨ j = 3 ∨ j = 4 := by omega
      rcases this with rfl | rfl | rfl | rfl | rfl
      · exact z0 e
      · exact z1 e
      · exact z2 e
      · exact z3 e
      · exact z4 e
    have s0 : y = 0 → K 76 [some (.ref 0), some (.int x), some (.int y), some (.int (M (f + 5) x.toNatClampNeg))] [.ref (M 0 8).toNatClampNeg] n M L := fun z => by
      have q := q0 (i0 z).1 (i0 z).2 (M (f + 1) x.toNatClampNeg) (by rw [if_pos z]; exact r1)
      rw [e08]
      rcases hf with rfl | rfl
      · exact hK.1 [] 20 76 _ _ _ _ _ ⟨vx, Nat.le_succ _, q⟩
      · exact hK.1 [] 20 76 _ _ _ _ _ ⟨vx, Nat.le_succ _, q⟩
    have s1 : y = 1 → K 86 [some (.ref 0), some (.int x), some (.int y), some (.int (M (f + 5) x.toNatClampNeg))] [.ref (M 0 8).toNatClampNeg] n M L := fun z => by
      have q := q0 (i1 z).1 (i1 z).2 (M (f + 2) x.toNatClampNeg) (by rw [if_neg (by rw [z]; decide), if_pos z]; exact r2)
      rw [e08]
      rcases hf with rfl | rfl
      · exact hK.1 [] 20 86 _ _ _ _ _ ⟨vx, Nat.le_succ _, q⟩
      · exact hK.1 [] 20 86 _ _ _ _ _ ⟨vx, Nat.le_succ _, q⟩
    have s2 : y = 2 → K 96 [some (.ref 0), some (.int x), some (.int y), some (.int (M (f + 5) x.toNatClampNeg))] [.ref (M 0 8).toNatClampNeg] n M L := fun z => by
      have q := q0 (i2 z).1 (i2 z).2 (M (f + 6) (M (f + 5) x.toNatClampNeg).toNatClampNeg) (by rw [if_neg (by rw [z]; decide), if_neg (by rw [z]; decide), if_pos z]; exact r6)
      rw [e08]
      rcases hf with rfl | rfl
      · exact hK.1 [] 20 96 _ _ _ _ _ ⟨vj, Nat.le_succ _, q⟩
      · exact hK.1 [] 20 96 _ _ _ _ _ ⟨vj, Nat.le_succ _, q⟩
    have s3 : y = 3 → K 106 [some (.ref 0), some (.int x), some (.int y), some (.int (M (f + 5) x.toNatClampNeg))] [.ref (M 0 8).toNatClampNeg] n M L := fun z => by
      have q := q0 (i3 z).1 (i3 z).2 (M (f + 7) (M (f + 5) x.toNatClampNeg).toNatClampNeg) (by rw [if_neg (by rw [z]; decide), if_neg (by rw [z]; decide), if_neg (by rw [z]; decide), if_pos z]; exact r7)
      rw [e08]
      rcases hf with rfl | rfl
      · exact hK.1 [] 20 106 _ _ _ _ _ ⟨vj, Nat.le_succ _, q⟩
      · exact hK.1 [] 20 106 _ _ _ _ _ ⟨vj, Nat.le_succ _, q⟩
    have s4 : y = 4 → K 116 [some (.ref 0), some (.int x), some (.int y), some (.int (M (f + 5) x.toNatClampNeg))] [.ref (M 0 8).toNatClampNeg] n M L := fun z => by
      have q := q0 (i4 z).1 (i4 z).2 (M (f + 8) (M (f + 5) x.toNatClampNeg).toNatClampNeg) (by rw [if_neg (by rw [z]; decide), if_neg (by rw [z]; decide), if_neg (by rw [z]; decide), if_neg (by rw [z]; decide)]; exact r8)
      rw [e08]
      rcases hf with rfl | rfl
      · exact hK.1 [] 20 116 _ _ _ _ _ ⟨vj, Nat.le_succ _, q⟩
      · exact hK.1 [] 20 116 _ _ _ _ _ ⟨vj, Nat.le_succ _, q⟩
    have k35 : K 35 [some (.ref 0), some (.int x), some (.int y), some (.int (M (f + 5) x.toNatClampNeg))] [] n M L := hK.1 [76, 86, 96, 106, 116] 30 35 _ _ _ _ _ ⟨fun z => ⟨ne0, s0 z⟩, fun z0 => ⟨fun z => ⟨ne0, s1 z⟩, fun z1 => ⟨fun z => ⟨ne0, s2 z⟩, fun z2 => ⟨fun z => ⟨ne0, s3 z⟩, fun z3 => ⟨fun z => ⟨ne0, s4 z⟩, fun z4 => ⟨trivial, Nat.lt_succ_self _, q2 (out z0 z1 z2 z3 z4)⟩⟩⟩⟩⟩⟩
    have k29 : K 29 [some (.ref 0), some (.int x), some (.int y), none] [.ref (M 0 8).toNatClampNeg] n M L := by
      rw [e08]
      rcases hf with rfl | rfl
      · exact hK.1 [35] 20 29 _ _ _ _ _ ⟨vx, k35⟩
      · exact hK.1 [35] 20 29 _ _ _ _ _ ⟨vx, k35⟩
    exact hK.1 [29] 20 25 _ _ _ _ _ ⟨ne0, k29⟩
  have k9 : ∀ (K : mc_K), mc_closed true tab0 n 1 (some .int) (sxA_about g d) Q Qt tbA_about K → ¬ x < 0 → K 9 [some (.ref 0), some (.int x), some (.int y), none] [.ref (M 0 8).toNatClampNeg, .int x] n M L := fun K hK z => by
    have lt : x < M f 0 → ∃ b, b < nb ∧ x = nI b := fun w => by
      rw [hsz] at w
      exact nI_lt_of (by omega) z (Int32.not_le.mpr w)
    have yy := fun w => yes K hK _ (lt w).choose_spec.1 (lt w).choose_spec.2
    have nn : ¬ x < M f 0 → K 15 [some (.ref 0), some (.int x), some (.int y), none] [] n M L := fun w => no (fun u => by
      obtain ⟨b, hb, e⟩ := u
      exact w (by rw [hsz, e]; exact nI_lt hb (by omega))) K hK
    rw [e08]
    rcases hf with rfl | rfl
    · exact hK.1 [15, 25] 20 9 _ _ _ _ _ ⟨fun w => yy w, fun w => nn w⟩
    · exact hK.1 [15, 25] 20 9 _ _ _ _ _ ⟨fun w => yy w, fun w => nn w⟩
  exact ixA_about hg (by omega) (Nat.le_of_ble_eq_true rfl) (fun K hK => hK.1 [9, 15] 60 0 _ _ _ _ _ ⟨fun z => no (fun u => by
    obtain ⟨b, hb, e⟩ := u
    rw [e] at z
    exact nI_pos (by omega) z) K hK, fun z => ⟨ne0, k9 K hK z⟩⟩)
end AM
