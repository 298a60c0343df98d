/-! Compressor.numberAnew -/
def nu (gone : Nat → Bool) : Nat → Nat
  | 0 => 0
  | b + 1 => if gone b = true then nu gone b else nu gone b + 1
theorem nu_le (gone : Nat → Bool) : ∀ b, nu gone b ≤ b
  | 0 => Nat.le_refl _
  | b + 1 => by
    have := nu_le gone b
    unfold nu
    split <;> omega
theorem nu_mono (gone : Nat → Bool) : ∀ {b c : Nat}, b ≤ c → nu gone b ≤ nu gone c
  | b, 0, h => by
    have : b = 0 := by omega
    rw [this]
    exact Nat.le_refl _
  | b, c + 1, h => by
    by_cases e : b = c + 1
    · rw [e]
      exact Nat.le_refl _
    · have := nu_mono gone (b := b) (c := c) (by omega)
      have h2 : nu gone c ≤ nu gone (c + 1) := by
        conv => rhs; unfold nu
        split <;> omega
      omega
theorem nu_lt {gone : Nat → Bool} {b c : Nat} (h : b < c) (g : gone b = false) : nu gone b < nu gone c := by
  have h1 : nu gone (b + 1) = nu gone b + 1 := by
    conv => lhs; unfold nu
    rw [g, if_neg (by decide)]
  have := nu_mono gone (b := b + 1) (c := c) h
  omega
def sp_tn (gone : Nat → Bool) (t : Int32) : Int32 := if t = -1 then -1 else nI (nu gone t.toNatClampNeg)
def sp_rn (gone : Nat → Bool) (B : Blk) : Blk := (B.1, B.2.1, B.2.2.1, B.2.2.2.1, sp_tn gone B.2.2.2.2.1, sp_tn gone B.2.2.2.2.2)
/-- targets that are there: none, or a block that is left -/
def tno (R : Nat → Blk) (gone : Nat → Bool) (nb : Nat) : Prop := ∀ b, b < nb → gone b = false → ((R b).2.2.2.2.1 = -1 ∨ ∃ t, t < nb ∧ gone t = false ∧ (R b).2.2.2.2.1 = nI t) ∧ ((R b).2.2.2.2.2 = -1 ∨ ∃ t, t < nb ∧ gone t = false ∧ (R b).2.2.2.2.2 = nI t)
def anew (M1 M2 : mc_M) (f nb b : Nat) (R : Nat → Blk) (gone : Nat → Bool) (J : Nat → Nat) : Prop :=
  (∀ c, (c < f + 1 ∨ f + 5 < c) → c ≠ f + 7 → c ≠ f + 8 → M2 c = M1 c) ∧ (∀ r, r < 5 → ∀ c, b ≤ c → c < nb → M2 (f + (r + 1)) c = M1 (f + (r + 1)) c) ∧ (∀ r, r < 5 → ∀ c, c < b → c < nb → gone c = false → M2 (f + (r + 1)) (nu gone c) = M1 (f + (r + 1)) c) ∧
  ∀ c, c < nb → gone c = false → M2 (f + 7) (J c) = (if c < b then sp_tn gone (R c).2.2.2.2.1 else M1 (f + 7) (J c)) ∧ M2 (f + 8) (J c) = (if c < b then sp_tn gone (R c).2.2.2.2.2 else M1 (f + 8) (J c))
section NA
variable {g : mc_G} {d n f : Nat} {M : mc_M} {L : mc_L} {Q : Option Value → mc_M → mc_L → Prop}
theorem cC_numberAnew (hf : rs_is f) {nb : Nat} {R : Nat → Blk} {gone : Nat → Bool} {J : Nat → Nat} (hnb : nb ≤ 100) (hsz : M f 0 = nI nb) (hgo : ∀ b, b < nb → if gone b = true then M 34 b = -1 else ¬ M 34 b = -1) (hJ : ∀ b, b < nb → gone b = false → J b < 100 ∧ M (f + 5) b = nI (J b) ∧ M (f + 7) (J b) = (R b).2.2.2.2.1 ∧ M (f + 8) (J b) = (R b).2.2.2.2.2) (hJd : ∀ b c, b < nb → c < nb → gone b = false → gone c = false → b ≠ c → J b ≠ J c) (htn : tno R gone nb) (hd : 2 ≤ d)
    (h : ∀ M1 M2, (∀ c, c ≠ 34 → M1 c = M c) → anew M1 M2 f nb nb R gone J → Q none (mc_put M2 f 0 (nI (nu gone nb))) L) : ctC_numberAnew g d [.ref 31, .ref f] n M L Q := by
  obtain ⟨d, rfl⟩ := Nat.exists_eq_add_of_le' (show 1 ≤ d by omega)
  have hf34 : 34 < f := by rcases hf with rfl | rfl <;> decide
  have hfl : fl_is f 100 := by
    rcases hf with rfl | rfl
    · exact Or.inr (Or.inl ⟨rfl, rfl⟩)
    · exact Or.inr (Or.inr ⟨rfl, rfl⟩)
  have l2 : ∀ (K : mc_K), mc_closed true tab0 n 0 none (shC_numberAnew g d) Q (fun _ _ _ => False) tbC_numberAnew K → ∀ M1, (∀ c, c ≠ 34 → M1 c = M c) → (∀ b, b < nb → M1 34 b = if gone b = true then -1 else nI (nu gone b)) → ∀ (r b : Nat) (i : Int32) (M2 : mc_M), r + b = nb → i = nI b → anew M1 M2 f nb b R gone J → K 40 [some (.ref 31), some (.ref f), some (.int (nI (nu gone nb))), some (.int i), none] [] n M2 L := by
    intro K hK M1 e1 e34 r
    induction r with
    | zero =>
      intro b i M2 hb hi hA
      subst hi
      have hbn : b = nb := by omega
      subst hbn
      have q := h M1 M2 e1 hA
      have c1 : M2 f 0 ≤ nI b := by
        rw [hA.1 f (Or.inl (by omega)) (by omega) (by omega), e1 f (by omega), hsz]
        exact nI_le (Nat.le_refl _) (by omega)
      rcases hf with rfl | rfl <;>
      exact hK.1 [] 30 40 _ _ _ _ _ ⟨fun _ => ⟨Nat.le_refl _, q⟩, fun z => absurd c1 z⟩
    | succ r ih =>
      intro b i M2 hb hi hA
      subst hi
      have hbn : b < nb := by omega
      have c1 : ¬ M2 f 0 ≤ nI b := by
        rw [hA.1 f (Or.inl (by omega)) (by omega) (by omega), e1 f (by omega), hsz]
        exact nI_ge (by omega) (by omega)
      have vb : vp_in (nI b) 100 := vp_in_nI (by omega) (by decide)
      have eb : (nI b).toNatClampNeg = b := nI_clamp (by omega)
      have m34 : M2 34 = M1 34 := hA.1 34 (Or.inl (by omega)) (by omega) (by omega)
      have nule := nu_le gone b
      by_cases hg : gone b = true
      · have g1 : M2 34 (nI b).toNatClampNeg = -1 := by rw [eb, m34, e34 b hbn, if_pos hg]
        have nx := ih (b + 1) (nI b + 1) M2 (by omega) (nI_1 b) ⟨hA.1, fun r hr c hc hc' => hA.2.1 r hr c (by omega) hc', fun r hr c hc hc' gc => hA.2.2.1 r hr c (by
          by_cases e : c = b
          · rw [e, hg] at gc
            cases gc
          · omega) hc' gc, fun c hc gc => by
          have e : c ≠ b := fun e => by
            rw [e, hg] at gc
            cases gc
          have := hA.2.2.2 c hc gc
          by_cases hcb : c < b
          · rw [if_pos hcb, if_pos hcb] at this
            rw [if_pos (by omega), if_pos (by omega)]
            exact this
          · rw [if_neg hcb, if_neg hcb] at this
            rw [if_neg (by omega), if_neg (by omega)]
            exact this⟩
        rcases hf with rfl | rfl <;>
        exact hK.1 [40] 40 40 _ _ _ _ _ ⟨fun z => absurd z c1, fun _ => ⟨vb, fun _ => nx, fun z => absurd g1 z⟩⟩
      · have hg' : gone b = false := by simpa using hg
        have g2 : M2 34 (nI b).toNatClampNeg = nI (nu gone b) := by rw [eb, m34, e34 b hbn, if_neg hg]
        have g1 : ¬ M2 34 (nI b).toNatClampNeg = -1 := by rw [g2]; exact nI_ne_m1 (by omega)
        obtain ⟨j1, j5, j7, j8⟩ := hJ b hbn hg'
        have a5 : M2 (f + 5) b = nI (J b) := by
          rw [hA.2.1 4 (by decide) b (Nat.le_refl _) hbn, e1 _ (by omega)]
          exact j5
        have b5 : M2 (f + 5) (nI b).toNatClampNeg = nI (J b) := by rw [eb, a5]
        have vj : vp_in (M2 (f + 5) (nI b).toNatClampNeg) 100 := by rw [b5]; exact vp_in_nI j1 (by decide)
        have ej : (nI (J b)).toNatClampNeg = J b := nI_clamp (by omega)
        obtain ⟨q7, q8⟩ := hA.2.2.2 b hbn hg'
        rw [if_neg (Nat.lt_irrefl _), e1 _ (by omega), j7] at q7
        rw [if_neg (Nat.lt_irrefl _), e1 _ (by omega), j8] at q8
        have b7 : M2 (f + 7) (M2 (f + 5) (nI b).toNatClampNeg).toNatClampNeg = (R b).2.2.2.2.1 := by rw [b5, ej, q7]
        have b8 : M2 (f + 8) (M2 (f + 5) (nI b).toNatClampNeg).toNatClampNeg = (R b).2.2.2.2.2 := by rw [b5, ej, q8]
        obtain ⟨t7, t8⟩ := htn b hbn hg'
        have num : ∀ t : Int32, (t = -1 ∨ ∃ u, u < nb ∧ gone u = false ∧ t = nI u) → (t = -1 ∨ ∃ u, u < nb ∧ t = nI u) ∧ (if t = -1 then -1 else M2 34 t.toNatClampNeg) = sp_tn gone t := fun t ht => by
          rcases ht with ht | ⟨u, hu, gu, ht⟩
          · refine ⟨Or.inl ht, ?_⟩
            unfold sp_tn
            rw [if_pos ht, if_pos ht]
          · refine ⟨Or.inr ⟨u, hu, ht⟩, ?_⟩
            unfold sp_tn
            rw [if_neg (by rw [ht]; exact nI_ne_m1 (by omega)), if_neg (by rw [ht]; exact nI_ne_m1 (by omega)), ht, nI_clamp (by omega), m34, e34 u hu, if_neg (by rw [gu]; decide)]
        have n7 := num _ t7
        have n8 := num _ t8
        have nx : ∀ r1 r2 M3 M4 y, r1 = sp_tn gone (R b).2.2.2.2.1 → r2 = sp_tn gone (R b).2.2.2.2.2 → M3 = mc_put (mc_put M2 (f + 7) (J b) r1) (f + 8) (J b) r2 → M4 = fl_rn M3 f b (nu gone b) → K 40 [some (.ref 31), some (.ref f), some (.int (nI (nu gone nb))), some (.int (nI b + 1)), y] [] n M4 L := fun r1 r2 M3 M4 y h1 h2 z3 z4 => by
          have w3 : ∀ c x, M3 c x = if c = f + 8 ∧ x = J b then r2 else if c = f + 7 ∧ x = J b then r1 else M2 c x := fun c x => by rw [z3, mc_put_at, mc_put_at]
          have w3' : ∀ c x, c ≠ f + 7 → c ≠ f + 8 → M3 c x = M2 c x := fun c x h7 h8 => by rw [w3, if_neg (fun w => h8 w.1), if_neg (fun w => h7 w.1)]
          have w4 : ∀ c x, M4 c x = if c = f + 5 ∧ x = nu gone b then M2 (f + 5) b else if c = f + 4 ∧ x = nu gone b then M2 (f + 4) b else if c = f + 3 ∧ x = nu gone b then M2 (f + 3) b else if c = f + 2 ∧ x = nu gone b then M2 (f + 2) b else if c = f + 1 ∧ x = nu gone b then M2 (f + 1) b else M3 c x := fun c x => by
            rw [z4]
            unfold fl_rn
            rw [w3' (f + 1) b (by omega) (by omega), w3' (f + 2) b (by omega) (by omega), w3' (f + 3) b (by omega) (by omega), w3' (f + 4) b (by omega) (by omega), w3' (f + 5) b (by omega) (by omega)]
            simp only [mc_put_at]
          have w5 : ∀ r, r < 5 → ∀ x, M4 (f + (r + 1)) x = if x = nu gone b then M2 (f + (r + 1)) b else M2 (f + (r + 1)) x := fun r hr x => by
            have hr5 : r = 0 ∨ r = 1 ∨ r = 2 ∨ r = 3 ∨ r = 4 := by omega
            rw [w4, w3' _ _ (by omega) (by omega)]
            rcases hr5 with rfl | rfl | rfl | rfl | rfl <;> simp
          have w6 : ∀ c x, (c < f + 1 ∨ f + 5 < c) → M4 c x = M3 c x := fun c x hc => by
            rw [w4, if_neg (by omega), if_neg (by omega), if_neg (by omega), if_neg (by omega), if_neg (by omega)]
          refine hK.2 [true, true, true, true, false] _ _ _ _ _ _ ?_
          refine ih (b + 1) _ M4 (by omega) (nI_1 b) ⟨fun c hc h7 h8 => ?_, fun r hr c hc hc' => ?_, fun r hr c hc hc' gc => ?_, fun c hc gc => ?_⟩
          · funext x
            rw [w6 c x hc, w3' c x h7 h8, hA.1 c hc h7 h8]
          · rw [w5 r hr, if_neg (by omega)]
            exact hA.2.1 r hr c (by omega) hc'
          · rw [w5 r hr]
            by_cases e : c = b
            · rw [e, if_pos rfl]
              exact hA.2.1 r hr b (Nat.le_refl _) hbn
            · have := nu_lt (gone := gone) (b := c) (c := b) (by omega) gc
              rw [if_neg (by omega)]
              exact hA.2.2.1 r hr c (by omega) hc' gc
          · rw [w6 _ _ (Or.inr (by omega)), w6 _ _ (Or.inr (by omega))]
            by_cases e : c = b
            · subst e
              rw [w3, w3, if_neg (by omega), if_pos ⟨rfl, rfl⟩, if_pos (by omega), if_pos ⟨rfl, rfl⟩, if_pos (by omega)]
              exact ⟨h1, h2⟩
            · have jd := hJd c b hc hbn gc hg' e
              have := hA.2.2.2 c hc gc
              have e7 : M3 (f + 7) (J c) = M2 (f + 7) (J c) := by rw [w3, if_neg (by omega), if_neg (fun w => jd w.2)]
              have e8 : M3 (f + 8) (J c) = M2 (f + 8) (J c) := by rw [w3, if_neg (fun w => jd w.2), if_neg (by omega)]
              rw [e7, e8]
              by_cases hcb : c < b
              · rw [if_pos hcb, if_pos hcb] at this
                rw [if_pos (by omega), if_pos (by omega)]
                exact this
              · rw [if_neg hcb, if_neg hcb] at this
                rw [if_neg (by omega), if_neg (by omega)]
                exact this
        have t34 : ∀ r1 r2 M3, M3 = mc_put (mc_put M2 (f + 7) (J b) r1) (f + 8) (J b) r2 → M3 34 (nI b).toNatClampNeg = nI (nu gone b) := fun r1 r2 M3 z3 => by
          rw [z3, mc_put_at, if_neg (by omega), mc_put_at, if_neg (by omega), g2]
        rcases hf with rfl | rfl <;>
        exact hK.1 [40] 60 40 _ _ _ _ _ ⟨fun z => absurd z c1, fun _ => ⟨vb, fun z => absurd z g1, fun _ => ⟨vb, vj, cC_numberOf hnb (by rw [b7]; exact n7.1) (by omega) (fun r1 h1 => ⟨vj, cC_numberOf hnb (by rw [b8]; exact n8.1) (by omega) (fun r2 h2 => cF_setTargets hfl (by omega) rfl (by omega) a5 j1 (fun M3 z3 => ⟨vb, cF_renumber (by first | exact Or.inl rfl | exact Or.inr rfl) rfl (t34 _ _ M3 z3) (by omega) (by omega) (by omega) (fun M4 z4 => nx r1 r2 M3 M4 _ (by rw [h1, b7]; exact n7.2) (by rw [h2, b8]; exact n8.2) z3 z4)⟩))⟩)⟩⟩⟩
  have l1 : ∀ (K : mc_K), mc_closed true tab0 n 0 none (shC_numberAnew g d) Q (fun _ _ _ => False) tbC_numberAnew K → ∀ (r b : Nat) (i y : Int32) (M1 : mc_M), r + b = nb → i = nI b → y = nI (nu gone b) → (∀ c, c ≠ 34 → M1 c = M c) → (∀ c, c < nb → M1 34 c = if c < b ∧ gone c = false then nI (nu gone c) else M 34 c) → K 4 [some (.ref 31), some (.ref f), some (.int y), some (.int i), none] [] n M1 L := by
    intro K hK r
    induction r with
    | zero =>
      intro b i y M1 hb hi hy e1 e34
      subst hi
      have hbn : b = nb := by omega
      subst hbn
      subst hy
      have c1 : M1 f 0 ≤ nI b := by
        rw [e1 f (by omega), hsz]
        exact nI_le (Nat.le_refl _) (by omega)
      have q := l2 K hK M1 e1 (fun c hc => by
        rw [e34 c hc]
        have := hgo c hc
        cases hg : gone c with
        | true =>
          rw [hg, if_pos rfl] at this
          rw [if_neg (fun w => by cases w.2), if_pos rfl, this]
        | false =>
          rw [if_pos ⟨hc, rfl⟩, if_neg (by decide)]) b 0 0 M1 rfl rfl ⟨fun c _ _ _ => rfl, fun r hr c _ _ => rfl, fun r hr c hc => absurd hc (Nat.not_lt_zero _), fun c hc gc => by rw [if_neg (Nat.not_lt_zero _), if_neg (Nat.not_lt_zero _)]; exact ⟨rfl, rfl⟩⟩
      rcases hf with rfl | rfl <;>
      exact hK.1 [40] 30 4 _ _ _ _ _ ⟨fun _ => q, fun z => absurd c1 z⟩
    | succ r ih =>
      intro b i y M1 hb hi hy e1 e34
      subst hi
      subst hy
      have hbn : b < nb := by omega
      have c1 : ¬ M1 f 0 ≤ nI b := by
        rw [e1 f (by omega), hsz]
        exact nI_ge (by omega) (by omega)
      have vb : vp_in (nI b) 100 := vp_in_nI (by omega) (by decide)
      have eb : (nI b).toNatClampNeg = b := nI_clamp (by omega)
      have m34 : M1 34 (nI b).toNatClampNeg = M 34 b := by rw [eb, e34 b hbn, if_neg (by omega)]
      have gb := hgo b hbn
      by_cases hg : gone b = true
      · rw [if_pos hg] at gb
        have nx := ih (b + 1) (nI b + 1) (nI (nu gone b)) M1 (by omega) (nI_1 b) (by conv => rhs; unfold nu; rw [if_pos hg]) e1 (fun c hc => by
          rw [e34 c hc]
          by_cases e : c = b
          · rw [e, if_neg (by omega), if_neg (fun w => by rw [hg] at w; cases w.2)]
          · by_cases hcb : c < b ∧ gone c = false
            · rw [if_pos hcb, if_pos ⟨by omega, hcb.2⟩]
            · rw [if_neg hcb, if_neg (fun w => hcb ⟨by omega, w.2⟩)])
        have g1 := m34.trans gb
        rcases hf with rfl | rfl <;>
        exact hK.1 [4] 30 4 _ _ _ _ _ ⟨fun z => absurd z c1, fun _ => ⟨vb, fun _ => nx, fun z => absurd g1 z⟩⟩
      · rw [if_neg hg] at gb
        have hg' : gone b = false := by simpa using hg
        have nx := ih (b + 1) (nI b + 1) (nI (nu gone b) + 1) (mc_put M1 34 (nI b).toNatClampNeg (nI (nu gone b))) (by omega) (nI_1 b) (by conv => rhs; unfold nu; rw [if_neg hg, ← nI_1]) (fun c hc => by
          funext x
          rw [mc_put_at, if_neg (fun w => hc w.1), e1 c hc]) (fun c hc => by
          rw [mc_put_at, eb, e34 c hc]
          by_cases e : c = b
          · rw [e, if_pos ⟨rfl, rfl⟩, if_pos ⟨by omega, hg'⟩]
          · rw [if_neg (fun w => e w.2)]
            by_cases hcb : c < b ∧ gone c = false
            · rw [if_pos hcb, if_pos ⟨by omega, hcb.2⟩]
            · rw [if_neg hcb, if_neg (fun w => hcb ⟨by omega, w.2⟩)])
        have g1 : ¬ M1 34 (nI b).toNatClampNeg = -1 := fun z => gb (m34.symm.trans z)
        rcases hf with rfl | rfl <;>
        exact hK.1 [4] 30 4 _ _ _ _ _ ⟨fun z => absurd z c1, fun _ => ⟨vb, fun z => absurd z g1, fun _ => ⟨vb, nx⟩⟩⟩
  have l1' := fun K hK => l1 K hK nb 0 0 0 M rfl rfl rfl (fun c _ => rfl) (fun c hc => by rw [if_neg (fun w => absurd w.1 (Nat.not_lt_zero _))])
  rcases hf with rfl | rfl <;>
  exact inC_numberAnew (Nat.le_of_ble_eq_true rfl) (fun K hK => hK.1 [4] 20 0 _ _ _ _ _ (l1' K hK))
end NA
