/-! FlowMixer's calls with the residual program -/
theorem tgs_ok {R : Nat → Blk} {nb : Nat} (h : tgs R (fun _ => false) nb) : tg_ok R nb := fun b hb => by
  rcases h b hb rfl with z | ⟨z1, ⟨t, ht, -, z2⟩, z3⟩ | ⟨z1, ⟨t, ht, -, z2⟩, ⟨u, hu, -, z3⟩⟩
  · exact Or.inl z.1
  · exact Or.inr ⟨⟨t, ht, z2⟩, Or.inl z1⟩
  · exact Or.inr ⟨⟨t, ht, z2⟩, Or.inr ⟨u, hu, z3⟩⟩
theorem rs_clamp {f : Nat} (hf : rs_is f) {x : Int32} (h : x = nI f) : x ≠ 0 ∧ x.toNatClampNeg = f ∧ f < 100 := by
  subst h
  rcases hf with rfl | rfl
  · exact ⟨by decide, nI_clamp (by decide), by decide⟩
  · exact ⟨by decide, nI_clamp (by decide), by decide⟩
section AR
variable {g : mc_G} {d n f : Nat} {M : mc_M} {L : mc_L} {Q : Option Value → mc_M → mc_L → Prop} {Qt : Nat → mc_M → mc_L → Prop} {T : Nat → Nat → Int32} {m : Nat} {P : Nat → Blk} {S : Int32} {nb : Nat} {R : Nat → Blk} {SS : Nat → List Nat} {J : Nat → Nat}
theorem cA_follow (hg : mc_S0 g) (hT : nt_ok T m) (hN : nt_C M T m) (hf : rs_is f) (h08 : M 0 8 = nI f) (hS : M f 1 = S) (hsz : M f 0 = nI nb) (hnb : nb ≤ 100) (hcr : crs T m S M f nb R (fun _ => false) SS J) (htg : tgs R (fun _ => false) nb) {x : Int32} (hd : 37 ≤ d) (h1 : ¬ (0 ≤ x ∧ x ≤ 5000) → Qt 2 M L) (h2 : 0 ≤ x → x ≤ 5000 → nb = 0 → Qt 1 M L) (h0 : ∀ l, l ≤ 5000 → x = nI l → 0 < nb → ∀ M', tr_end M (sp_trav T S R l l 0 0 (M 20)) M' → Q (some (.int (bI (sp_trav T S R l l 0 0 (M 20)).1))) M' L) : cxA_follow g d [.ref 0, .int x] n M L Q Qt := by
  obtain ⟨d, rfl⟩ := Nat.exists_eq_add_of_le' (show 1 ≤ d by omega)
  obtain ⟨ne0, e08, -⟩ := rs_clamp hf h08
  have k21 : ∀ (K : mc_K), mc_closed true tab0 n 1 (some .boolean) (sxA_follow g d) Q Qt tbA_follow K → 0 ≤ x → x ≤ 5000 → K 21 [some (.ref 0), some (.int x)] [.ref (M 0 8).toNatClampNeg] n M L := fun K hK l0 l2 => by
    obtain ⟨l, hl, hx⟩ := nI_lt_of (x := x) (m := 5001) (by decide) (Int32.not_lt.mpr l0) (fun z => absurd (Int32.le_trans z l2) (by decide))
    have pos : ¬ M f 0 = 0 → 0 < nb := fun z => Nat.pos_of_ne_zero (fun w => z (by rw [hsz, w]; rfl))
    have zer : M f 0 = 0 → nb = 0 := fun z => (nI_eq (b := 0) (by omega) (by decide)).mp (hsz.symm.trans z)
    have tr : ¬ M f 0 = 0 → ctM_travel g d [.ref 23, .ref 1, .ref f, .ref 20, .int x] n M L (fun rv M' L' => mc_ri (some .boolean) (match rv with | some (.int y) => y | _ => 0) (n ≤ n + 1 ∧ Q rv M' L')) := fun z => by
      have hh := h0 l (by omega) hx (pos z)
      exact cM_travel (w := 100) (nb := nb) (by rcases hf with rfl | rfl; exact Or.inr (Or.inl ⟨rfl, rfl⟩); exact Or.inr (Or.inr ⟨rfl, rfl⟩)) hT hN hS (fun b hb => ⟨SS b, J b, (hcr.1 b hb rfl).1⟩) (pos z) (by omega) (tgs_ok htg) hx (by omega) (by omega) (fun e M' hM' => ⟨Or.inr rfl, Nat.le_succ _, by have q := hh M' hM'; rw [e] at q; exact q⟩) (fun e M' hM' => ⟨Or.inl rfl, Nat.le_succ _, by have q := hh M' hM'; rw [e] at q; exact q⟩)
    rw [e08]
    have hl2 := h2 l0 l2
    have hh0 := fun z => h0 l (by omega) hx (pos z)
    have tgo := tgs_ok htg
    rcases hf with rfl | rfl
    · exact hK.1 [] 40 21 _ _ _ _ _ ⟨fun z => ⟨ne0, by
        rw [e08]
        exact cM_travel (f := 38) (w := 100) (nb := nb) (Or.inr (Or.inl ⟨rfl, rfl⟩)) hT hN hS (fun b hb => ⟨SS b, J b, (hcr.1 b hb rfl).1⟩) (pos z) (by omega) tgo hx (by omega) (by omega) (fun e M' hM' => ⟨Or.inr rfl, Nat.le_succ _, by have q := hh0 z M' hM'; rw [e] at q; exact q⟩) (fun e M' hM' => ⟨Or.inl rfl, Nat.le_succ _, by have q := hh0 z M' hM'; rw [e] at q; exact q⟩)⟩, fun z => ⟨Nat.lt_succ_self _, hl2 (zer z)⟩⟩
    · exact hK.1 [] 40 21 _ _ _ _ _ ⟨fun z => ⟨ne0, by
        rw [e08]
        exact cM_travel (f := 51) (w := 100) (nb := nb) (Or.inr (Or.inr ⟨rfl, rfl⟩)) hT hN hS (fun b hb => ⟨SS b, J b, (hcr.1 b hb rfl).1⟩) (pos z) (by omega) tgo hx (by omega) (by omega) (fun e M' hM' => ⟨Or.inr rfl, Nat.le_succ _, by have q := hh0 z M' hM'; rw [e] at q; exact q⟩) (fun e M' hM' => ⟨Or.inl rfl, Nat.le_succ _, by have q := hh0 z M' hM'; rw [e] at q; exact q⟩)⟩, fun z => ⟨Nat.lt_succ_self _, hl2 (zer z)⟩⟩
  exact ixA_follow hg (by omega) (Nat.le_of_ble_eq_true rfl) (fun K hK => hK.1 [21] 60 0 _ _ _ _ _ (cA_isStepLimit (by omega) (fun l0 l2 => ⟨fun _ => ⟨ne0, k21 K hK l0 l2⟩, fun w => absurd w (by decide)⟩) (fun w => ⟨fun u => absurd rfl u, fun _ => ⟨Nat.lt_succ_self _, h1 w⟩⟩)))
theorem cA_compress (hg : mc_S0 g) (hf : rs_is f) (h08 : M 0 8 = nI f) (hsz : M f 0 = nI nb) (hnb : nb ≤ 100) (hcr : crs T m S M f nb R (fun _ => false) SS J) (htg : tgs R (fun _ => false) nb) (hd : 6 ≤ d) (h1 : nb = 0 → Qt 1 M L)
    (h0 : 0 < nb → ∀ M' SS' J', (∀ c, c ≠ 32 → c ≠ 33 → c ≠ 34 → c ≠ 35 → (c < f ∨ f + 12 < c) → M' c = M c) → M' 35 3 = 1 → (∀ i, i ≠ 3 → M' 35 i = M 35 i) → M' f 0 = nI (sp_comp nb R).1 → M' f 1 = M f 1 → (sp_comp nb R).1 ≤ nb → crs T m S M' f (sp_comp nb R).1 (sp_comp nb R).2 (fun _ => false) SS' J' → tgs (sp_comp nb R).2 (fun _ => false) (sp_comp nb R).1 → ∀ r, r = nI (sp_comp nb R).1 → Q (some (.int r)) M' L) : cxA_compress g d [.ref 0] n M L Q Qt := by
  obtain ⟨d, rfl⟩ := Nat.exists_eq_add_of_le' (show 1 ≤ d by omega)
  obtain ⟨ne0, e08, -⟩ := rs_clamp hf h08
  have hf35 : 35 < f := by rcases hf with rfl | rfl <;> decide
  have hf' := hf
  have zer : M f 0 = 0 → nb = 0 := fun z => (nI_eq (b := 0) (by omega) (by decide)).mp (hsz.symm.trans z)
  have k43 : ∀ (K : mc_K), mc_closed true tab0 n 1 (some .int) (sxA_compress g d) Q Qt tbA_compress K → ¬ M f 0 = 0 → ∀ M1 SS' J', ccf f M M1 → M1 f 0 = nI (sp_comp nb R).1 → M1 f 1 = M f 1 → (sp_comp nb R).1 ≤ nb → crs T m S M1 f (sp_comp nb R).1 (sp_comp nb R).2 (fun _ => false) SS' J' → tgs (sp_comp nb R).2 (fun _ => false) (sp_comp nb R).1 → M1 0 8 ≠ 0 ∧ K 43 [some (.ref 0)] [.ref (M1 0 8).toNatClampNeg] n (mc_put M1 35 3 1) L := fun K hK hz M1 SS' J' a1 a2 a3 a4 a5 a6 => by
    have e0 : M1 0 8 = M 0 8 := by rw [a1 0 (by decide) (by decide) (by decide) (by omega)]
    rw [e0]
    refine ⟨ne0, ?_⟩
    rw [e08]
    have o : ∀ c, c ≠ 35 → mc_put M1 35 3 1 c = M1 c := fun c hc => funext fun w => by rw [mc_put_at, if_neg (fun z => hc z.1)]
    have q : Q (some (.int (mc_put M1 35 3 1 f 0))) (mc_put M1 35 3 1) L := by
      refine h0 (Nat.pos_of_ne_zero (fun w => hz (by rw [hsz, w]; rfl))) _ SS' J' (fun c q1 q2 q3 q4 q5 => by rw [o c q4, a1 c q1 q2 q3 q5]) ?_ (fun i hi => ?_) ?_ ?_ a4 (crs_to a5 (fun i _ _ => o _ (by omega))) a6 _ ?_
      · rw [mc_put_at, if_pos ⟨rfl, rfl⟩]
      · rw [mc_put_at, if_neg (fun z => hi z.2), a1 35 (by decide) (by decide) (by decide) (by omega)]
      · rw [o f (by omega), a2]
      · rw [o f (by omega), a3]
      · rw [o f (by omega), a2]
    rcases hf with rfl | rfl
    · exact hK.1 [] 20 43 _ _ _ _ _ ⟨Nat.le_succ _, q⟩
    · exact hK.1 [] 20 43 _ _ _ _ _ ⟨Nat.le_succ _, q⟩
  have k4 : ∀ (K : mc_K), mc_closed true tab0 n 1 (some .int) (sxA_compress g d) Q Qt tbA_compress K → K 4 [some (.ref 0)] [.ref (M 0 8).toNatClampNeg] n M L := fun K hK => by
    have k := k43 K hK
    rw [e08]
    rcases hf with rfl | rfl
    · exact hK.1 [43] 60 4 _ _ _ _ _ ⟨fun z => ⟨ne0, by
        rw [e08]
        exact cC_comp hf' hnb hsz hcr htg (by omega) (fun M1 SS' J' a1 a2 a3 a4 a5 a6 => ⟨Or.inr rfl, k z M1 SS' J' a1 a2 a3 a4 a5 a6⟩)⟩, fun z => ⟨Nat.lt_succ_self _, h1 (zer z)⟩⟩
    · exact hK.1 [43] 60 4 _ _ _ _ _ ⟨fun z => ⟨ne0, by
        rw [e08]
        exact cC_comp hf' hnb hsz hcr htg (by omega) (fun M1 SS' J' a1 a2 a3 a4 a5 a6 => ⟨Or.inr rfl, k z M1 SS' J' a1 a2 a3 a4 a5 a6⟩)⟩, fun z => ⟨Nat.lt_succ_self _, h1 (zer z)⟩⟩
  exact ixA_compress hg (by omega) (Nat.le_of_ble_eq_true rfl) (fun K hK => hK.1 [4] 60 0 _ _ _ _ _ ⟨ne0, k4 K hK⟩)
end AR
