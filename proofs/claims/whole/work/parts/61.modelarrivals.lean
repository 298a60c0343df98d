/-! The model's jumpsTo and goesTo -/
def rrw (M : mc_M) (nb : Nat) (R : Nat → Blk) (gone : Nat → Bool) : Prop := ∀ b, b < nb → M 84 b = bI (gone b) ∧ (gone b = false → M 87 b = (R b).2.2.1 ∧ M 88 b = (R b).2.2.2.2.1 ∧ M 89 b = (R b).2.2.2.2.2)
def gto (R : Nat → Blk) (gone : Nat → Bool) (k b : Nat) : Prop := gone b = false ∧ b ≠ k ∧ (R b).2.2.1 = 0 ∧ (R b).2.2.2.2.1 = nI k
theorem fa_keep {R : Nat → Blk} {gone : Nat → Bool} {t : Nat} : ∀ (r b : Nat) (AG : (Nat → Int32) × (Nat → Int32)), r + b ≤ 100 → ¬ AG.2 t = -1 → ¬ (sp_fa R gone r b AG).2 t = -1
  | 0, _, _, _, h => h
  | r + 1, b, AG, hr, h => by
    unfold sp_fa
    refine fa_keep r (b + 1) _ (by omega) ?_
    unfold sp_fs
    split
    · exact h
    · split
      · exact h
      · show ¬ upd AG.2 _ _ t = -1
        unfold upd
        split
        · exact nI_ne_m1 (by omega)
        · exact h
theorem fa_set {R : Nat → Blk} {gone : Nat → Bool} {t c : Nat} (gc : gone c = false) (kc : (R c).2.2.1 = 0) (oc : (R c).2.2.2.2.1.toNatClampNeg = t) : ∀ (r b : Nat) (AG : (Nat → Int32) × (Nat → Int32)), r + b ≤ 100 → b ≤ c → c < b + r → ¬ (sp_fa R gone r b AG).2 t = -1
  | 0, b, _, _, h1, h2 => by omega
  | r + 1, b, AG, hr, h1, h2 => by
    unfold sp_fa
    by_cases e : b = c
    · subst e
      refine fa_keep r (b + 1) _ (by omega) ?_
      unfold sp_fs
      rw [if_neg (by rw [gc, kc]; simp), if_neg (by rw [kc]; decide)]
      show ¬ upd AG.2 _ _ t = -1
      unfold upd
      rw [if_pos oc.symm]
      exact nI_ne_m1 (by omega)
    · exact fa_set gc kc oc r (b + 1) _ (by omega) (by omega) (by omega)
theorem ag_A {R : Nat → Blk} {gone : Nat → Bool} {nb k : Nat} (hnb : nb ≤ 100) (htg : tgl R gone nb) (hk : k < nb) : (sp_ag R gone nb).1 k = nI (ar_s R gone k nb 0) := by
  unfold sp_ag
  rw [sp_fa_A hnb htg hk nb 0 _ rfl]
  show 0 + _ = _
  rw [Int32.zero_add]
theorem gto_ar {R : Nat → Blk} {gone : Nat → Bool} {k b : Nat} (h : gto R gone k b) : ar_n R gone b k = 1 := by
  obtain ⟨gb, -, kb, ob⟩ := h
  unfold ar_n
  rw [if_neg (by rw [gb, kb]; simp), if_pos ob, if_neg (by rw [kb]; exact fun z => absurd z.1 (by decide))]
/-- what the model looks for is what the class looks for -/
theorem low_iff {R : Nat → Blk} {gone : Nat → Bool} {nb k : Nat} (hnb : nb ≤ 100) (htg : tgl R gone nb) (hk : k < nb) : (gone k = false ∧ (sp_ag R gone nb).1 k = 1 ∧ ¬ (sp_ag R gone nb).2 k = -1 ∧ ¬ (sp_ag R gone nb).2 k = nI k) ↔ (gone k = false ∧ ar_s R gone k nb 0 = 1 ∧ ∃ b, b < nb ∧ gto R gone k b) := by
  have hle := ar_s_le R gone k nb 0
  have hA : (sp_ag R gone nb).1 k = 1 ↔ ar_s R gone k nb 0 = 1 := by
    rw [ag_A hnb htg hk]
    exact nI_eq (b := 1) (by omega) (by decide)
  have hG := sp_fa_G htg nb 0 (fun _ => 0, fun _ => -1) rfl (fun t => Or.inl rfl) k
  constructor
  · rintro ⟨h1, h2, h3, h4⟩
    refine ⟨h1, hA.mp h2, ?_⟩
    rcases hG with hG | ⟨b, hb, gb, kb, ob, hG⟩
    · exact absurd hG h3
    · refine ⟨b, hb, gb, fun z => h4 (by rw [← z]; rw [← z] at hG; exact hG), kb, ?_⟩
      rcases htg b hb gb with y | ⟨⟨t, ht, hte⟩, -⟩
      · rw [kb] at y
        exact absurd y (by decide)
      · rw [hte, nI_clamp (by omega)] at ob
        rw [hte, ob]
  · rintro ⟨h1, h2, b, hb, hg⟩
    have hab := gto_ar hg
    obtain ⟨gb, hbk, kb, ob⟩ := hg
    have n1 : ¬ (sp_ag R gone nb).2 k = -1 := fa_set gb kb (by rw [ob, nI_clamp (by omega)]) nb 0 _ (by omega) (by omega) (by omega)
    refine ⟨h1, hA.mpr h2, n1, fun z => ?_⟩
    rcases hG with hG | ⟨c, hc, gc, kc, oc, hG⟩
    · exact n1 hG
    · have ec : c = k := (nI_eq (by omega) (by omega)).mp (hG.symm.trans z)
      have oc' : (R c).2.2.2.2.1 = nI k := by
        rcases htg c hc gc with y | ⟨⟨t, ht, hte⟩, -⟩
        · rw [kc] at y
          exact absurd y (by decide)
        · rw [hte, nI_clamp (by omega)] at oc
          rw [hte, oc]
      have hac : ar_n R gone c k = 1 := by
        unfold ar_n
        rw [if_neg (by rw [gc, kc]; simp), if_pos oc', if_neg (by rw [kc]; exact fun z => absurd z.1 (by decide))]
      have ne : c ≠ b := fun z => hbk (z.symm.trans ec)
      rcases Nat.lt_or_gt_of_ne ne with hlt | hlt
      · have := ar_s_two R gone k nb 0 c b (by omega) hlt (by omega)
        omega
      · have := ar_s_two R gone k nb 0 b c (by omega) hlt (by omega)
        omega
/-- and the block that goes there is the only one -/
theorem gto_G {R : Nat → Blk} {gone : Nat → Bool} {nb k b : Nat} (hnb : nb ≤ 100) (htg : tgl R gone nb) (hk : k < nb) (hs : ar_s R gone k nb 0 = 1) (hb : b < nb) (hg : gto R gone k b) : (sp_ag R gone nb).2 k = nI b ∧ ∀ c, c < nb → c ≠ b → ar_n R gone c k = 0 := by
  have hab := gto_ar hg
  have un : ∀ c, c < nb → c ≠ b → ar_n R gone c k = 0 := fun c hc hcb => by
    rcases Nat.lt_or_gt_of_ne hcb with hlt | hlt
    · have := ar_s_two R gone k nb 0 c b (by omega) hlt (by omega)
      omega
    · have := ar_s_two R gone k nb 0 b c (by omega) hlt (by omega)
      omega
  refine ⟨?_, un⟩
  obtain ⟨gb, hbk, kb, ob⟩ := hg
  have n1 : ¬ (sp_ag R gone nb).2 k = -1 := fa_set gb kb (by rw [ob, nI_clamp (by omega)]) nb 0 _ (by omega) (by omega) (by omega)
  rcases sp_fa_G htg nb 0 (fun _ => 0, fun _ => -1) rfl (fun t => Or.inl rfl) k with hG | ⟨c, hc, gc, kc, oc, hG⟩
  · exact absurd hG n1
  · have oc' : (R c).2.2.2.2.1 = nI k := by
      rcases htg c hc gc with y | ⟨⟨t, ht, hte⟩, -⟩
      · rw [kc] at y
        exact absurd y (by decide)
      · rw [hte, nI_clamp (by omega)] at oc
        rw [hte, oc]
    have hac : ar_n R gone c k = 1 := by
      unfold ar_n
      rw [if_neg (by rw [gc, kc]; simp), if_pos oc', if_neg (by rw [kc]; exact fun z => absurd z.1 (by decide))]
    by_cases e : c = b
    · rw [← e]
      exact hG
    · have := un c hc e
      omega
section JT
variable {g : mc_G} {d n : Nat} {M : mc_M} {L : mc_L} {Q : Option Value → mc_M → mc_L → Prop}
theorem cR_jumpsTo {R : Nat → Blk} {gone : Nat → Bool} {nb k : Nat} (hnb : nb ≤ 100) (h23 : M 64 23 = nI nb) (hr : rrw M nb R gone) (htg : tgs R gone nb) {x : Int32} (hx : x = nI k) (hd : 1 ≤ d) (h : ∀ r, r = nI (ar_s R gone k nb 0) → Q (some (.int r)) M L) : ctR_jumpsTo g d [.ref 64, .int x] n M L Q := by
  obtain ⟨d, rfl⟩ := Nat.exists_eq_add_of_le' hd
  have lp : ∀ (K : mc_K), mc_closed true tab0 n 0 (some .int) (shR_jumpsTo g d) Q (fun _ _ _ => False) tbR_jumpsTo K → ∀ (r b c : Nat) (i y : Int32), r + b = nb → i = nI b → y = nI c → c + ar_s R gone k r b = ar_s R gone k nb 0 → K 4 [some (.ref 64), some (.int x), some (.int y), some (.int i)] [] n M L := by
    intro K hK r
    induction r with
    | zero =>
      intro b c i y hb hi hy hc
      subst hi
      have hc' : c = ar_s R gone k nb 0 := hc
      have c1 : M 64 23 ≤ nI b := by rw [h23]; exact nI_le (by omega) (by omega)
      exact hK.1 [] 20 4 _ _ _ _ _ ⟨fun _ => ⟨Nat.le_refl _, h _ (by rw [hy, hc'])⟩, fun z => absurd c1 z⟩
    | succ r ih =>
      intro b c i y hb hi hy hc
      subst hi
      have hb' : b < nb := by omega
      have c1 : ¬ M 64 23 ≤ nI b := by rw [h23]; exact nI_ge hb' (by omega)
      have vb : vp_in (nI b) 100 := vp_in_nI (by omega) (by decide)
      have eb : (nI b).toNatClampNeg = b := nI_clamp (by omega)
      obtain ⟨r1, r2⟩ := hr b hb'
      have hc' : c + (ar_n R gone b k + ar_s R gone k r (b + 1)) = ar_s R gone k nb 0 := hc
      have e84 : M 84 (nI b).toNatClampNeg = bI (gone b) := by rw [eb, r1]
      have nx : ∀ c' y', c' = c + ar_n R gone b k → y' = nI c' → K 4 [some (.ref 64), some (.int x), some (.int y'), some (.int (nI b + 1))] [] n M L := fun c' y' h1 h2 => ih (b + 1) c' _ _ (by omega) (nI_1 b) h2 (by omega)
      cases hg : gone b with
      | true =>
        have g1 : ¬ M 84 (nI b).toNatClampNeg = 0 := by rw [e84, hg]; decide
        have a0 : ar_n R gone b k = 0 := by
          unfold ar_n
          rw [if_pos (Or.inl hg)]
        exact hK.1 [4] 60 4 _ _ _ _ _ ⟨fun z => absurd z c1, fun _ => ⟨vb, fun _ => ⟨vb, fun _ => nx c y (by omega) hy, fun z => absurd z g1⟩, fun z => absurd z g1⟩⟩
      | false =>
        have g1 : M 84 (nI b).toNatClampNeg = 0 := by rw [e84, hg]; rfl
        obtain ⟨q1, q2, q3⟩ := r2 hg
        have e87 : M 87 (nI b).toNatClampNeg = (R b).2.2.1 := by rw [eb, q1]
        have e88 : M 88 (nI b).toNatClampNeg = (R b).2.2.2.2.1 := by rw [eb, q2]
        have e89 : M 89 (nI b).toNatClampNeg = (R b).2.2.2.2.2 := by rw [eb, q3]
        have y1 : y + 1 = nI (c + 1) := by rw [hy, nI_1]
        have y2 : y + 1 + 1 = nI (c + 2) := by rw [y1, nI_1]
        rcases htg b hb' hg with ⟨k0, -⟩ | ⟨k0, -⟩ | ⟨k0, -⟩
        · have w2 : (2 : Int32) ≤ M 87 (nI b).toNatClampNeg := by rw [e87, k0]; decide
          have n1 : ¬ M 87 (nI b).toNatClampNeg = 1 := by rw [e87, k0]; decide
          have a0 : ar_n R gone b k = 0 := by
            unfold ar_n
            rw [if_pos (Or.inr k0)]
          exact hK.1 [4] 60 4 _ _ _ _ _ ⟨fun z => absurd z c1, fun _ => ⟨vb, fun z => absurd g1 z, fun _ => ⟨vb, fun _ => ⟨vb, fun z => absurd g1 z, fun _ => ⟨vb, fun _ => nx c y (by omega) hy, fun z => absurd z n1⟩⟩, fun z => absurd w2 z⟩⟩⟩
        · have w2 : ¬ (2 : Int32) ≤ M 87 (nI b).toNatClampNeg := by rw [e87, k0]; decide
          have n1 : ¬ M 87 (nI b).toNatClampNeg = 1 := by rw [e87, k0]; decide
          have a0 : ar_n R gone b k = if (R b).2.2.2.2.1 = nI k then 1 else 0 := by
            unfold ar_n
            rw [if_neg (by rw [hg, k0]; simp), k0, if_neg (c := (0 : Int32) = 1 ∧ _) (fun z => absurd z.1 (by decide))]
            rfl
          exact hK.1 [4] 60 4 _ _ _ _ _ ⟨fun z => absurd z c1, fun _ => ⟨vb, fun z => absurd g1 z, fun _ => ⟨vb, fun z => absurd z w2, fun _ => ⟨vb, fun z => ⟨vb, fun z => absurd g1 z, fun _ => ⟨vb, fun _ => nx c y (by rw [e88, hx] at z; rw [a0, if_neg z]; rfl) hy, fun z => absurd z n1⟩⟩, fun z => ⟨vb, fun z => absurd g1 z, fun _ => ⟨vb, fun _ => nx (c + 1) _ (by rw [e88, hx] at z; rw [a0, if_pos z]) y1, fun z => absurd z n1⟩⟩⟩⟩⟩⟩
        · have w2 : ¬ (2 : Int32) ≤ M 87 (nI b).toNatClampNeg := by rw [e87, k0]; decide
          have z1 : M 87 (nI b).toNatClampNeg = 1 := by rw [e87, k0]
          have a0 : ar_n R gone b k = (if (R b).2.2.2.2.1 = nI k then 1 else 0) + (if (R b).2.2.2.2.2 = nI k then 1 else 0) := by
            unfold ar_n
            rw [if_neg (by rw [hg, k0]; simp)]
            congr 1
            by_cases e : (R b).2.2.2.2.2 = nI k
            · rw [if_pos ⟨k0, e⟩, if_pos e]
            · rw [if_neg (fun z => e z.2), if_neg e]
          exact hK.1 [4] 60 4 _ _ _ _ _ ⟨fun z => absurd z c1, fun _ => ⟨vb, fun z => absurd g1 z, fun _ => ⟨vb, fun z => absurd z w2, fun _ => ⟨vb,
            fun z => ⟨vb, fun z => absurd g1 z, fun _ => ⟨vb, fun z => absurd z1 z, fun _ => ⟨vb, fun w => nx c y (by rw [e88, hx] at z; rw [e89, hx] at w; rw [a0, if_neg z, if_neg w]; rfl) hy, fun w => nx (c + 1) _ (by rw [e88, hx] at z; rw [e89, hx] at w; rw [a0, if_neg z, if_pos w]) y1⟩⟩⟩,
            fun z => ⟨vb, fun z => absurd g1 z, fun _ => ⟨vb, fun z => absurd z1 z, fun _ => ⟨vb, fun w => nx (c + 1) _ (by rw [e88, hx] at z; rw [e89, hx] at w; rw [a0, if_pos z, if_neg w]) y1, fun w => nx (c + 2) _ (by rw [e88, hx] at z; rw [e89, hx] at w; rw [a0, if_pos z, if_pos w]) y2⟩⟩⟩⟩⟩⟩⟩
  exact inR_jumpsTo (Nat.le_of_ble_eq_true rfl) (fun K hK => hK.1 [4] 20 0 _ _ _ _ _ (lp K hK nb 0 0 0 0 rfl rfl rfl (by omega)))
theorem cR_goesTo {R : Nat → Blk} {gone : Nat → Bool} {nb k : Nat} (hnb : nb ≤ 100) (hk : k < 100) (h23 : M 64 23 = nI nb) (hr : rrw M nb R gone) {x : Int32} (hx : x = nI k) (hd : 1 ≤ d) (hf : ∀ b, b < nb → gto R gone k b → ∀ r, r = nI b → Q (some (.int r)) M L) (hn : (∀ b, b < nb → ¬ gto R gone k b) → Q (some (.int (-1))) M L) : ctR_goesTo g d [.ref 64, .int x] n M L Q := by
  obtain ⟨d, rfl⟩ := Nat.exists_eq_add_of_le' hd
  subst hx
  have lp : ∀ (K : mc_K), mc_closed true tab0 n 0 (some .int) (shR_goesTo g d) Q (fun _ _ _ => False) tbR_goesTo K → ∀ (r b : Nat) (i : Int32), r + b = nb → i = nI b → (∀ j, j < b → ¬ gto R gone k j) → K 2 [some (.ref 64), some (.int (nI k)), some (.int i)] [] n M L := by
    intro K hK r
    induction r with
    | zero =>
      intro b i hb hi hno
      subst hi
      have c1 : M 64 23 ≤ nI b := by rw [h23]; exact nI_le (by omega) (by omega)
      have q := hn (fun j hj => hno j (by omega))
      exact hK.1 [] 20 2 _ _ _ _ _ ⟨fun _ => ⟨Nat.le_refl _, q⟩, fun z => absurd c1 z⟩
    | succ r ih =>
      intro b i hb hi hno
      subst hi
      have hb' : b < nb := by omega
      have c1 : ¬ M 64 23 ≤ nI b := by rw [h23]; exact nI_ge hb' (by omega)
      have vb : vp_in (nI b) 100 := vp_in_nI (by omega) (by decide)
      have eb : (nI b).toNatClampNeg = b := nI_clamp (by omega)
      obtain ⟨r1, r2⟩ := hr b hb'
      have e84 : M 84 (nI b).toNatClampNeg = bI (gone b) := by rw [eb, r1]
      have nx : ¬ gto R gone k b → K 2 [some (.ref 64), some (.int (nI k)), some (.int (nI b + 1))] [] n M L := fun hno2 => ih (b + 1) _ (by omega) (nI_1 b) (fun j hj => by
        by_cases e : j = b
        · rw [e]
          exact hno2
        · exact hno j (by omega))
      cases hg : gone b with
      | true =>
        have g1 : ¬ M 84 (nI b).toNatClampNeg = 0 := by rw [e84, hg]; decide
        exact hK.1 [2] 60 2 _ _ _ _ _ ⟨fun z => absurd z c1, fun _ => ⟨vb, fun _ => nx (fun w => by have w1 := w.1; rw [hg] at w1; cases w1), fun z => absurd z g1⟩⟩
      | false =>
        have g1 : M 84 (nI b).toNatClampNeg = 0 := by rw [e84, hg]; rfl
        obtain ⟨q1, q2, -⟩ := r2 hg
        have e87 : M 87 (nI b).toNatClampNeg = (R b).2.2.1 := by rw [eb, q1]
        have e88 : M 88 (nI b).toNatClampNeg = (R b).2.2.2.2.1 := by rw [eb, q2]
        exact hK.1 [2] 60 2 _ _ _ _ _ ⟨fun z => absurd z c1, fun _ => ⟨vb, fun z => absurd g1 z, fun _ => ⟨fun z => nx (fun w => w.2.1 ((nI_eq (by omega) (by omega)).mp z)), fun z => ⟨vb, fun z2 => nx (fun w => z2 (e87.trans w.2.2.1)), fun z2 => ⟨vb, fun z3 => nx (fun w => z3 (e88.trans w.2.2.2)), fun z3 => ⟨Nat.le_refl _, hf b hb' ⟨hg, fun w => z (by rw [w]), e87.symm.trans z2, e88.symm.trans z3⟩ _ rfl⟩⟩⟩⟩⟩⟩
  exact inR_goesTo (Nat.le_of_ble_eq_true rfl) (fun K hK => hK.1 [2] 20 0 _ _ _ _ _ (lp K hK nb 0 0 rfl rfl (fun j hj => absurd hj (Nat.not_lt_zero _))))
end JT
