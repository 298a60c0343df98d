/-! Text.refresh; sign and count -/
section TR
variable {g : mc_G} {d n f : Nat} {M : mc_M} {L : mc_L} {Q : Option Value → mc_M → mc_L → Prop} {Qt : Nat → mc_M → mc_L → Prop} {T : Nat → Nat → Int32} {m : Nat} {S : Int32} {nb : Nat} {R : Nat → Blk} {SS : Nat → List Nat} {J : Nat → Nat}
theorem crs_len (hcr : crs T m S M f nb R (fun _ => false) SS J) : ∀ b, b < nb → (R b).2.1.length ≤ 1100 := fun b hb => by
  obtain ⟨⟨-, -, a3, -, -, a6, -⟩, -⟩ := hcr.1 b hb rfl
  rw [a6, List.length_map]
  exact a3
theorem cT_refresh (hp : PP g) (hf : rs_is f) (hT : nt_ok T m) (hN : nt_C M T m) (hS : M f 1 = S) (hsz : M f 0 = nI nb) (hnb : nb ≤ 100) (hcr : crs T m S M f nb R (fun _ => false) SS J) (htg : tgs R (fun _ => false) nb) (h3 : M 35 3 = 0 ∨ M 35 3 = 1) (ht : M 35 3 = 0 → txt M (sp_tx T S nb R)) (hd : 73 ≤ d) (h : ∀ M', (∀ c, c ≠ 35 → c ≠ 36 → c ≠ 37 → M' c = M c) → M' 35 3 = 0 → txt M' (sp_tx T S nb R) → Q none M' L) : ctT_refresh g d [.ref 35, .ref 1, .ref f] n M L Q := by
  obtain ⟨d, rfl⟩ := Nat.exists_eq_add_of_le' (show 1 ≤ d by omega)
  have hf37 : 37 < f := by rcases hf with rfl | rfl <;> decide
  rcases h3 with h3 | h3
  · have q := h M (fun _ _ _ _ => rfl) h3 (ht h3)
    rcases hf with rfl | rfl
    · exact inT_refresh (Nat.le_of_ble_eq_true rfl) (fun K hK => hK.1 [15] 60 0 _ _ _ _ _ ⟨fun z => absurd h3 z, fun _ => ⟨Nat.le_refl _, q⟩⟩)
    · exact inT_refresh (Nat.le_of_ble_eq_true rfl) (fun K hK => hK.1 [15] 60 0 _ _ _ _ _ ⟨fun z => absurd h3 z, fun _ => ⟨Nat.le_refl _, q⟩⟩)
  · have n3 : ¬ M 35 3 = 0 := by rw [h3]; decide
    have hF := sp_tx_len hT (S := S) hnb (crs_len hcr)
    generalize htF : sp_tx T S nb R = tF at h hF
    have c58 : vp_nar .char 58 = 58 := by decide +kernel
    have c59 : vp_nar .char 59 = 59 := by decide +kernel
    have lp : ∀ (K : mc_K), mc_closed true tab0 n 0 none (shT_refresh g d) Q (fun _ _ _ => False) tbT_refresh K → ∀ (r b : Nat) (i : Int32) (t1 : List Int32) (M1 : mc_M), r + b = nb → i = nI b → tnf M M1 → txt M1 t1 → t1 ++ sp_tr T S R r b = tF → K 15 [some (.ref 35), some (.ref 1), some (.ref f), some (.int i)] [] n M1 L := by
      intro K hK r
      induction r with
      | zero =>
        intro b i t1 M1 hr hi f1 x1 hF1
        subst hi
        have c1 : M1 f 0 ≤ nI b := by rw [f1.1 f (by omega) (by omega) (by omega), hsz]; exact nI_le (by omega) (by omega)
        have q : Q none (mc_put M1 35 3 0) L := by
          refine h _ (fun c q1 q2 q3 => ?_) ?_ ⟨?_, fun i hi c hc => ?_⟩
          · funext w
            rw [mc_put_at, if_neg (fun z => q1 z.1), f1.1 c q1 q2 q3]
          · rw [mc_put_at, if_pos ⟨rfl, rfl⟩]
          · rw [mc_put_at, if_neg (by omega), ← hF1]
            show M1 35 2 = nI (t1 ++ []).length
            rw [List.append_nil]
            exact x1.1
          · rw [mc_put_at, if_neg (by omega)]
            rw [← hF1] at hc
            have hc' : (t1 ++ [])[i]? = some c := hc
            rw [List.append_nil] at hc'
            exact x1.2 i hi c hc'
        rcases hf with rfl | rfl
        · exact hK.1 [] 20 15 _ _ _ _ _ ⟨fun _ => ⟨Or.inl rfl, Nat.le_refl _, q⟩, fun z => absurd c1 z⟩
        · exact hK.1 [] 20 15 _ _ _ _ _ ⟨fun _ => ⟨Or.inl rfl, Nat.le_refl _, q⟩, fun z => absurd c1 z⟩
      | succ r ih =>
        intro b i t1 M1 hr hi f1 x1 hF1
        subst hi
        have hb : b < nb := by omega
        have c1 : ¬ M1 f 0 ≤ nI b := by rw [f1.1 f (by omega) (by omega) (by omega), hsz]; exact nI_ge hb (by omega)
        have blk : ∀ M2, tnf M M2 → fl_blk T m S M2 f 100 b (R b) (SS b) (J b) := fun M2 f2 => ((crs_to hcr (fun i _ _ => f2.1 _ (by omega) (by omega) (by omega))).1 b hb rfl).1
        have hkd : (R b).2.2.1 = 0 ∨ (R b).2.2.1 = 1 ∨ (R b).2.2.1 = 2 := by
          rcases htg b hb rfl with z | z | z
          · exact Or.inr (Or.inr z.1)
          · exact Or.inl z.1
          · exact Or.inr (Or.inl z.1)
        have hF2 : t1 ++ (sp_num (nI b) ++ (58 :: (sp_tl T S (R b).2.1 ++ (sp_tj T S (R b).2.2 ++ (59 :: sp_tr T S R r (b + 1)))))) = tF := by
          rw [← hF1]
          show _ = t1 ++ ((sp_num (nI b) ++ (58 :: (sp_tl T S (R b).2.1 ++ (sp_tj T S (R b).2.2 ++ [59])))) ++ sp_tr T S R r (b + 1))
          simp
        have l1 := len_l hF2
        have l2 := len_l (show (t1 ++ sp_num (nI b)) ++ (58 :: (sp_tl T S (R b).2.1 ++ (sp_tj T S (R b).2.2 ++ (59 :: sp_tr T S R r (b + 1))))) = tF by rw [← hF2]; simp)
        have l3 := len_l (show (t1 ++ sp_num (nI b) ++ [58] ++ sp_tl T S (R b).2.1) ++ (sp_tj T S (R b).2.2 ++ (59 :: sp_tr T S R r (b + 1))) = tF by rw [← hF2]; simp)
        have hF4 : (t1 ++ sp_num (nI b) ++ [58] ++ sp_tl T S (R b).2.1 ++ sp_tj T S (R b).2.2) ++ (59 :: sp_tr T S R r (b + 1)) = tF := by rw [← hF2]; simp
        have l4 := len_l hF4
        have go : ∀ M5, txt M5 (t1 ++ sp_num (nI b) ++ [58] ++ sp_tl T S (R b).2.1 ++ sp_tj T S (R b).2.2 ++ [59]) → tnf M M5 → K 15 [some (.ref 35), some (.ref 1), some (.ref f), some (.int (nI b + 1))] [] n M5 L := fun M5 x5 f5 => ih (b + 1) _ _ M5 (by omega) (nI_1 b) f5 x5 (by rw [← hF4]; simp)
        have pa : ∀ (M2 : mc_M) (t2 : List Int32) (Q' : Option Value → mc_M → mc_L → Prop), tnf M M2 → txt M2 t2 → (t2 ++ sp_tl T S (R b).2.1).length + 12 < 2 ^ 31 → (∀ M3, txt M3 (t2 ++ sp_tl T S (R b).2.1) → tnf M M3 → Q' none M3 L) → ctT_putAssignments g d [.ref 35, .ref 1, .ref f, .int (nI b)] n M2 L Q' := fun M2 t2 Q' f2 x2 hl hq => cT_putAssignments (S := S) hp hf hT (tnf_N hN f2) (by rw [f2.1 f (by omega) (by omega) (by omega)]; exact hS) rfl (by omega) (blk M2 f2) x2 hl (by omega) (fun M3 a1 a2 => hq M3 a1 (tnf_tr f2 a2))
        have pj : ∀ (M2 : mc_M) (t2 : List Int32) (Q' : Option Value → mc_M → mc_L → Prop), tnf M M2 → txt M2 t2 → (t2 ++ sp_tj T S (R b).2.2).length + 12 < 2 ^ 31 → (∀ M3, txt M3 (t2 ++ sp_tj T S (R b).2.2) → tnf M M3 → Q' none M3 L) → ctT_putJump g d [.ref 35, .ref 1, .ref f, .int (nI b)] n M2 L Q' := fun M2 t2 Q' f2 x2 hl hq => cT_putJump (S := S) hp hf hT (tnf_N hN f2) (by rw [f2.1 f (by omega) (by omega) (by omega)]; exact hS) rfl (by omega) (blk M2 f2) hkd x2 hl (by omega) (fun M3 a1 a2 => hq M3 a1 (tnf_tr f2 a2))
        rcases hf with rfl | rfl
        · exact hK.1 [15] 80 15 _ _ _ _ _ ⟨fun z => absurd z c1, fun _ => cT_putNumber x1 (by omega) (by omega) (fun M2 a1 a2 => cT_put a1 c58 (by omega) (by omega) (fun M3 b1 b2 => pa M3 _ _ (tnf_tr (tnf_tr f1 (tnf_t a2)) (tnf_t b2)) b1 (by omega) (fun M4 d1 d2 => pj M4 _ _ d2 d1 (by omega) (fun M5 e1 e2 => cT_put e1 c59 (by omega) (by omega) (fun M6 g1 g2 => go M6 g1 (tnf_tr e2 (tnf_t g2)))))))⟩
        · exact hK.1 [15] 80 15 _ _ _ _ _ ⟨fun z => absurd z c1, fun _ => cT_putNumber x1 (by omega) (by omega) (fun M2 a1 a2 => cT_put a1 c58 (by omega) (by omega) (fun M3 b1 b2 => pa M3 _ _ (tnf_tr (tnf_tr f1 (tnf_t a2)) (tnf_t b2)) b1 (by omega) (fun M4 d1 d2 => pj M4 _ _ d2 d1 (by omega) (fun M5 e1 e2 => cT_put e1 c59 (by omega) (by omega) (fun M6 g1 g2 => go M6 g1 (tnf_tr e2 (tnf_t g2)))))))⟩
    have f0 : tnf M (mc_put M 35 2 0) := ⟨fun c q1 _ _ => funext fun w => by rw [mc_put_at, if_neg (fun z => q1 z.1)], by rw [mc_put_at, if_neg (by omega)]⟩
    have x0 : txt (mc_put M 35 2 0) [] := ⟨by
      rw [mc_put_at, if_pos ⟨rfl, rfl⟩]
      rfl, fun i hi c hc => by cases hc⟩
    have lp' := fun K hK => lp K hK nb 0 0 [] (mc_put M 35 2 0) rfl rfl f0 x0 (by rw [← htF]; rfl)
    rcases hf with rfl | rfl
    · exact inT_refresh (Nat.le_of_ble_eq_true rfl) (fun K hK => hK.1 [15] 60 0 _ _ _ _ _ ⟨fun _ => lp' K hK, fun z => absurd z n3⟩)
    · exact inT_refresh (Nat.le_of_ble_eq_true rfl) (fun K hK => hK.1 [15] 60 0 _ _ _ _ _ ⟨fun _ => lp' K hK, fun z => absurd z n3⟩)
theorem cA_sign (hg : mc_S0 g) (hp : PP g) (hf : rs_is f) (h08 : M 0 8 = nI f) (hT : nt_ok T m) (hN : nt_C M T m) (hS : M f 1 = S) (hsz : M f 0 = nI nb) (hnb : nb ≤ 100) (hcr : crs T m S M f nb R (fun _ => false) SS J) (htg : tgs R (fun _ => false) nb) (h3 : M 35 3 = 0 ∨ M 35 3 = 1) (ht : M 35 3 = 0 → txt M (sp_tx T S nb R)) {x : Int32} (hd : 74 ≤ d)
    (h1 : ¬ (∃ i, i < (sp_tx T S nb R).length ∧ i < 3000 ∧ x = nI i) → ∀ M', (∀ c, c ≠ 35 → c ≠ 36 → c ≠ 37 → M' c = M c) → M' 35 3 = 0 → txt M' (sp_tx T S nb R) → Qt 0 M' L)
    (h0 : ∀ i, i < (sp_tx T S nb R).length → i < 3000 → x = nI i → ∀ r, (sp_tx T S nb R)[i]? = some r → ∀ M', (∀ c, c ≠ 35 → c ≠ 36 → c ≠ 37 → M' c = M c) → M' 35 3 = 0 → txt M' (sp_tx T S nb R) → Q (some (.int r)) M' L) : cxA_sign g d [.ref 0, .int x] n M L Q Qt := by
  obtain ⟨d, rfl⟩ := Nat.exists_eq_add_of_le' (show 1 ≤ d by omega)
  obtain ⟨ne0, e08, -⟩ := rs_clamp hf h08
  have hlen := sp_tx_len hT (S := S) hnb (crs_len hcr)
  refine ixA_sign hg (by omega) (Nat.le_of_ble_eq_true rfl) (fun K hK => hK.1 [37] 60 0 _ _ _ _ _ ⟨ne0, ?_⟩)
  rw [e08]
  refine cT_refresh (S := S) hp hf hT hN hS hsz hnb hcr htg h3 ht (by omega) (fun M' a1 a2 a3 => ?_)
  have no : ¬ (∃ i, i < (sp_tx T S nb R).length ∧ i < 3000 ∧ x = nI i) → K 37 [some (.ref 0), some (.int x)] [] n M' L := fun hn => hK.1 [] 20 37 _ _ _ _ _ ⟨Nat.lt_succ_self _, h1 hn M' a1 a2 a3⟩
  refine ⟨fun w => no ?_, fun w => ⟨fun w1 => no ?_, fun w1 => ⟨fun w2 => ?_, fun w2 => no ?_⟩⟩⟩
  · rintro ⟨i, hi, hi2, e⟩
    rw [e] at w
    exact nI_pos (by omega) w
  · rintro ⟨i, hi, hi2, e⟩
    have w1' : M' 35 2 ≤ x := w1
    rw [e, a3.1] at w1'
    exact nI_ge hi (by omega) w1'
  · have w1' : ¬ M' 35 2 ≤ x := w1
    rw [a3.1] at w1'
    obtain ⟨i, hi, e⟩ := nI_lt_of (by omega) w w1'
    subst e
    have hi2 : i < 3000 := (nI_ltI (b := 3000) (by omega) (by decide)).mp w2
    have vi : vp_in (nI i) 3000 := vp_in_nI hi2 (by decide)
    have hg2 : (sp_tx T S nb R)[i]? = some ((sp_tx T S nb R)[i]'hi) := List.getElem?_eq_getElem hi
    have e36 : M' 36 (nI i).toNatClampNeg = (sp_tx T S nb R)[i]'hi := by
      rw [nI_clamp (by omega)]
      exact a3.2 i hi2 _ hg2
    exact ⟨vi, Nat.le_succ _, h0 i hi hi2 rfl _ (by rw [e36]; exact hg2) M' a1 a2 a3⟩
  · rintro ⟨i, hi, hi2, e⟩
    rw [e] at w2
    exact w2 (nI_lt (b := 3000) hi2 (by decide))
theorem cA_count (hg : mc_S0 g) (hp : PP g) (hf : rs_is f) (h08 : M 0 8 = nI f) (hT : nt_ok T m) (hN : nt_C M T m) (hS : M f 1 = S) (hsz : M f 0 = nI nb) (hnb : nb ≤ 100) (hcr : crs T m S M f nb R (fun _ => false) SS J) (htg : tgs R (fun _ => false) nb) (h3 : M 35 3 = 0 ∨ M 35 3 = 1) (ht : M 35 3 = 0 → txt M (sp_tx T S nb R)) {x : Int32} (hd : 74 ≤ d)
    (h1 : ¬ (0 ≤ x ∧ x ≤ 3) → Qt 2 M L) (h0 : 0 ≤ x → x ≤ 3 → ¬ x = 2 → ∀ r, r = (if x = 0 then nI m else if x = 1 then nI nb else M 1 6) → Q (some (.int r)) M L)
    (h2 : x = 2 → ∀ r M', r = nI (sp_tx T S nb R).length → (∀ c, c ≠ 35 → c ≠ 36 → c ≠ 37 → M' c = M c) → M' 35 3 = 0 → txt M' (sp_tx T S nb R) → Q (some (.int r)) M' L) : cxA_count g d [.ref 0, .int x] n M L Q Qt := by
  obtain ⟨d, rfl⟩ := Nat.exists_eq_add_of_le' (show 1 ≤ d by omega)
  obtain ⟨ne0, e08, -⟩ := rs_clamp hf h08
  have k44 : x = 1 → ∀ (K : mc_K), mc_closed true tab0 n 1 (some .int) (sxA_count g d) Q Qt tbA_count K → K 44 [some (.ref 0), some (.int x)] [.ref (M 0 8).toNatClampNeg] n M L := fun e K hK => by
    have q := h0 (by rw [e]; decide) (by rw [e]; decide) (by rw [e]; decide) (M f 0) (by rw [if_neg (by rw [e]; decide), if_pos e, hsz])
    rw [e08]
    rcases hf with rfl | rfl
    · exact hK.1 [] 20 44 _ _ _ _ _ ⟨Nat.le_succ _, q⟩
    · exact hK.1 [] 20 44 _ _ _ _ _ ⟨Nat.le_succ _, q⟩
  refine ixA_count hg (by omega) (Nat.le_of_ble_eq_true rfl) (fun K hK => hK.1 [44] 60 0 _ _ _ _ _ ⟨fun z => ⟨Nat.le_succ _, h0 (by rw [z]; decide) (by rw [z]; decide) (by rw [z]; decide) _ (by rw [if_pos z, hN.1])⟩, fun z0 => ⟨fun z => ⟨ne0, k44 z K hK⟩, fun z1 => ⟨fun z => ⟨ne0, ?_⟩, fun z2 => ⟨fun z => ⟨Nat.le_succ _, h0 (by rw [z]; decide) (by rw [z]; decide) z2 _ (by rw [if_neg z0, if_neg z1])⟩, fun z3 => ⟨trivial, Nat.lt_succ_self _, h1 (fun w => ?_)⟩⟩⟩⟩⟩)
  · rw [e08]
    exact cT_refresh (S := S) hp hf hT hN hS hsz hnb hcr htg h3 ht (by omega) (fun M' a1 a2 a3 => ⟨Nat.le_succ _, h2 z _ M' a3.1 a1 a2 a3⟩)
  · obtain ⟨j, hj, e⟩ := nI_lt_of (x := x) (m := 4) (by decide) (Int32.not_lt.mpr w.1) (fun z => absurd (Int32.le_trans z w.2) (by decide))
    have : j = 0 ∨ j = 1 ∨ j = 2 ∨ j = 3 := by omega
    rcases this with rfl | rfl | rfl | rfl
    · exact z0 e
    · exact z1 e
    · exact z2 e
    · exact z3 e
end TR
