/-! Compressor.work -/
def tgs (R : Nat → Blk) (gone : Nat → Bool) (nb : Nat) : Prop := ∀ b, b < nb → gone b = false → ((R b).2.2.1 = 2 ∧ (R b).2.2.2.2.1 = -1 ∧ (R b).2.2.2.2.2 = -1) ∨ ((R b).2.2.1 = 0 ∧ (∃ t, t < nb ∧ gone t = false ∧ (R b).2.2.2.2.1 = nI t) ∧ (R b).2.2.2.2.2 = -1) ∨ ((R b).2.2.1 = 1 ∧ (∃ t, t < nb ∧ gone t = false ∧ (R b).2.2.2.2.1 = nI t) ∧ ∃ t, t < nb ∧ gone t = false ∧ (R b).2.2.2.2.2 = nI t)
theorem tgs_l {R : Nat → Blk} {gone : Nat → Bool} {nb : Nat} (h : tgs R gone nb) : tgl R gone nb := fun b hb gb => by
  rcases h b hb gb with ⟨y, -⟩ | ⟨y, ⟨t, ht, -, hte⟩, -⟩ | ⟨y, ⟨t, ht, -, hte⟩, t', ht', -, hte'⟩
  · exact Or.inl y
  · exact Or.inr ⟨⟨t, ht, hte⟩, Or.inl y⟩
  · exact Or.inr ⟨⟨t, ht, hte⟩, Or.inr ⟨y, t', ht', hte'⟩⟩
theorem tgs_n {R : Nat → Blk} {gone : Nat → Bool} {nb : Nat} (h : tgs R gone nb) : tno R gone nb := fun b hb gb => by
  rcases h b hb gb with ⟨-, y1, y2⟩ | ⟨-, y1, y2⟩ | ⟨-, y1, y2⟩
  · exact ⟨Or.inl y1, Or.inl y2⟩
  · exact ⟨Or.inr y1, Or.inl y2⟩
  · exact ⟨Or.inr y1, Or.inr y2⟩
theorem sp_gn_f {gone : Nat → Bool} {k c : Nat} (h : sp_gn gone k c = false) : c ≠ k ∧ gone c = false := by
  unfold sp_gn at h
  by_cases hck : c = k
  · rw [if_pos hck] at h
    cases h
  · rw [if_neg hck] at h
    exact ⟨hck, h⟩
theorem sp_gn_of {gone : Nat → Bool} {k c : Nat} (h : c ≠ k) (g : gone c = false) : sp_gn gone k c = false := by
  unfold sp_gn
  rw [if_neg h, g]
theorem tgs_jn {R : Nat → Blk} {gone : Nat → Bool} {nb b k : Nat} (h : tgs R gone nb) (hnb : nb ≤ 100) (hk : k < nb) (gk : gone k = false) (hbk : b ≠ k) (har : ∀ c, c < nb → c ≠ b → ar_n R gone c k = 0) : tgs (sp_jn R b k) (sp_gn gone k) nb := by
  have key : ∀ c, c < nb → c ≠ b → gone c = false → ((R c).2.2.1 = 2 ∧ (R c).2.2.2.2.1 = -1 ∧ (R c).2.2.2.2.2 = -1) ∨ ((R c).2.2.1 = 0 ∧ (∃ t, t < nb ∧ sp_gn gone k t = false ∧ (R c).2.2.2.2.1 = nI t) ∧ (R c).2.2.2.2.2 = -1) ∨ ((R c).2.2.1 = 1 ∧ (∃ t, t < nb ∧ sp_gn gone k t = false ∧ (R c).2.2.2.2.1 = nI t) ∧ ∃ t, t < nb ∧ sp_gn gone k t = false ∧ (R c).2.2.2.2.2 = nI t) := by
    intro c hc hcb gc
    have a := har c hc hcb
    unfold ar_n at a
    rcases h c hc gc with y | ⟨y, ⟨t, ht, gt, hte⟩, y2⟩ | ⟨y, ⟨t, ht, gt, hte⟩, t', ht', gt', hte'⟩
    · exact Or.inl y
    · rw [if_neg (by rw [gc, y]; simp)] at a
      have ntk : t ≠ k := fun z => by
        rw [if_pos (by rw [hte, z])] at a
        omega
      exact Or.inr (Or.inl ⟨y, ⟨t, ht, sp_gn_of ntk gt, hte⟩, y2⟩)
    · rw [if_neg (by rw [gc, y]; simp)] at a
      have ntk : t ≠ k := fun z => by
        rw [if_pos (by rw [hte, z])] at a
        omega
      have ntk' : t' ≠ k := fun z => by
        have : (R c).2.2.1 = 1 ∧ (R c).2.2.2.2.2 = nI k := ⟨y, by rw [hte', z]⟩
        rw [if_pos this] at a
        omega
      exact Or.inr (Or.inr ⟨y, ⟨t, ht, sp_gn_of ntk gt, hte⟩, t', ht', sp_gn_of ntk' gt', hte'⟩)
  intro c hc gc
  obtain ⟨hck, gc⟩ := sp_gn_f gc
  unfold sp_jn
  by_cases hcb : c = b
  · rw [if_pos hcb]
    exact key k hk (Ne.symm hbk) gk
  · rw [if_neg hcb]
    exact key c hc hcb gc
theorem crs_to {T : Nat → Nat → Int32} {m : Nat} {S : Int32} {M M' : mc_M} {f nb : Nat} {R : Nat → Blk} {gone : Nat → Bool} {SS : Nat → List Nat} {J : Nat → Nat} (h : crs T m S M f nb R gone SS J) (hM : ∀ i, 1 ≤ i → i ≤ 12 → M' (f + i) = M (f + i)) : crs T m S M' f nb R gone SS J := by
  unfold crs fl_blk fl_sv fl_as at h ⊢
  rw [hM 1 (by decide) (by decide), hM 2 (by decide) (by decide), hM 3 (by decide) (by decide), hM 4 (by decide) (by decide), hM 5 (by decide) (by decide), hM 6 (by decide) (by decide), hM 7 (by decide) (by decide), hM 8 (by decide) (by decide), hM 9 (by decide) (by decide), hM 10 (by decide) (by decide), hM 11 (by decide) (by decide), hM 12 (by decide) (by decide)]
  exact h
def sp_cw (nb : Nat) : Nat → (Nat → Blk) × (Nat → Bool) → (Nat → Blk) × (Nat → Bool)
  | 0, p => p
  | fu + 1, p => match sp_low p.2 (sp_ag p.1 p.2 nb).1 (sp_ag p.1 p.2 nb).2 (nb - 1) 1 with
    | none => p
    | some k => sp_cw nb fu (sp_jn p.1 ((sp_ag p.1 p.2 nb).2 k).toNatClampNeg k, sp_gn p.2 k)
/-- what Compressor.work leaves as it was -/
def cfr (f : Nat) (M M' : mc_M) : Prop := ∀ c, c ≠ 32 → c ≠ 33 → c ≠ 34 → (c < f + 2 ∨ f + 5 < c) → c ≠ f + 11 → M' c = M c
section CW
variable {g : mc_G} {d n f : Nat} {M : mc_M} {L : mc_L} {Q : Option Value → mc_M → mc_L → Prop} {T : Nat → Nat → Int32} {m : Nat} {S : Int32}
theorem cC_work (hf : rs_is f) {nb : Nat} {R : Nat → Blk} {SS : Nat → List Nat} {J : Nat → Nat} (hnb : nb ≤ 100) (hsz : M f 0 = nI nb) (hcr : crs T m S M f nb R (fun _ => false) SS J) (htg : tgs R (fun _ => false) nb) (hd : 3 ≤ d)
    (h : ∀ M0 M1 M2 SS' J', cfr f M M0 → crs T m S M0 f nb (sp_cw nb nb (R, fun _ => false)).1 (sp_cw nb nb (R, fun _ => false)).2 SS' J' → tgs (sp_cw nb nb (R, fun _ => false)).1 (sp_cw nb nb (R, fun _ => false)).2 nb → (∀ c, c ≠ 34 → M1 c = M0 c) → anew M1 M2 f nb nb (sp_cw nb nb (R, fun _ => false)).1 (sp_cw nb nb (R, fun _ => false)).2 J' → Q none (mc_put M2 f 0 (nI (nu (sp_cw nb nb (R, fun _ => false)).2 nb))) L) : ctC_work g d [.ref 31, .ref f] n M L Q := by
  obtain ⟨d, rfl⟩ := Nat.exists_eq_add_of_le' (show 1 ≤ d by omega)
  have hf34 : 34 < f := by rcases hf with rfl | rfl <;> decide
  have cj : ∀ (M1 : mc_M) (R : Nat → Blk) (gone : Nat → Bool) (SS : Nat → List Nat) (J : Nat → Nat), M1 f 0 = nI nb → (∀ b, b < nb → if gone b = true then M1 34 b = -1 else ¬ M1 34 b = -1) → crs T m S M1 f nb R gone SS J → tgs R gone nb → cjs M1 f nb R gone := fun M1 R gone SS J h0 h1 h2 h3 => ⟨hnb, h0, h1, fun b hb gb => by
    obtain ⟨⟨-, -, -, -, -, -, q1, q2, q3, -, q4, q5⟩, -⟩ := h2.1 b hb gb
    exact ⟨J b, q2, q1, q3, q4, q5⟩, tgs_l h3⟩
  have fin : ∀ (K : mc_K), mc_closed true tab0 n 0 none (shC_work g d) Q (fun _ _ _ => False) tbC_work K → ∀ (M1 : mc_M) (SS : Nat → List Nat) (J : Nat → Nat), cfr f M M1 → M1 f 0 = nI nb → (∀ b, b < nb → if (sp_cw nb nb (R, fun _ => false)).2 b = true then M1 34 b = -1 else ¬ M1 34 b = -1) → crs T m S M1 f nb (sp_cw nb nb (R, fun _ => false)).1 (sp_cw nb nb (R, fun _ => false)).2 SS J → tgs (sp_cw nb nb (R, fun _ => false)).1 (sp_cw nb nb (R, fun _ => false)).2 nb → ∀ x y, K 61 [some (.ref 31), some (.ref f), x, y] [] n M1 L := by
    intro K hK M1 SS J hfr h0 h34 hcr htg x y
    have hJ : ∀ b, b < nb → (sp_cw nb nb (R, fun _ => false)).2 b = false → J b < 100 ∧ M1 (f + 5) b = nI (J b) ∧ M1 (f + 7) (J b) = ((sp_cw nb nb (R, fun _ => false)).1 b).2.2.2.2.1 ∧ M1 (f + 8) (J b) = ((sp_cw nb nb (R, fun _ => false)).1 b).2.2.2.2.2 := fun b hb gb => by
      obtain ⟨⟨-, -, -, -, -, -, q1, q2, q3, -, q4, q5⟩, -⟩ := hcr.1 b hb gb
      exact ⟨q2, q1, q4, q5⟩
    have hJd : ∀ b c, b < nb → c < nb → (sp_cw nb nb (R, fun _ => false)).2 b = false → (sp_cw nb nb (R, fun _ => false)).2 c = false → b ≠ c → J b ≠ J c := fun b c hb hc gb gc hbc => (hcr.2 b c hb hc gb gc hbc).2
    have hf' := hf
    rcases hf with rfl | rfl <;>
    exact hK.1 [] 20 61 _ _ _ _ _ (cC_numberAnew hf' hnb h0 h34 hJ hJd (tgs_n htg) (by omega) (fun M2 M3 e1 e2 => ⟨Nat.le_refl _, h M1 M2 M3 SS J hfr hcr htg e1 e2⟩))
  have lp : ∀ (K : mc_K), mc_closed true tab0 n 0 none (shC_work g d) Q (fun _ _ _ => False) tbC_work K → ∀ (fu ro : Nat) (i : Int32) (M1 : mc_M) (R' : Nat → Blk) (gone : Nat → Bool) (SS : Nat → List Nat) (J : Nat → Nat), fu + ro = nb → i = nI ro → cfr f M M1 → M1 f 0 = nI nb → (∀ b, b < nb → if gone b = true then M1 34 b = -1 else ¬ M1 34 b = -1) → crs T m S M1 f nb R' gone SS J → tgs R' gone nb → sp_cw nb nb (R, fun _ => false) = sp_cw nb fu (R', gone) → K 10 [some (.ref 31), some (.ref f), some (.int i), none] [] n M1 L := by
    intro K hK fu
    induction fu with
    | zero =>
      intro ro i M1 R' gone SS J hro hi hfr h0 h34 hcr htg hq
      subst hi
      have hq' : sp_cw nb nb (R, fun _ => false) = (R', gone) := hq
      have c1 : M1 f 0 ≤ nI ro := by
        rw [h0]
        exact nI_le (by omega) (by omega)
      have q := fun x y => fin K hK M1 SS J hfr h0 (by rw [hq']; exact h34) (by rw [hq']; exact hcr) (by rw [hq']; exact htg) x y
      rcases hf with rfl | rfl <;>
      exact hK.1 [61] 20 10 _ _ _ _ _ ⟨fun _ => q _ _, fun z => absurd c1 z⟩
    | succ fu ih =>
      intro ro i M1 R' gone SS J hro hi hfr h0 h34 hcr htg hq
      subst hi
      have c1 : ¬ M1 f 0 ≤ nI ro := by
        rw [h0]
        exact nI_ge (by omega) (by omega)
      have hcj := cj M1 R' gone SS J h0 h34 hcr htg
      have post : ∀ M2, fa M1 M2 (sp_ag R' gone nb).1 (sp_ag R' gone nb).2 → M2 f 0 = nI nb ∧ (∀ b, b < nb → if gone b = true then M2 34 b = -1 else ¬ M2 34 b = -1) ∧ crs T m S M2 f nb R' gone SS J ∧ cfr f M M2 := fun M2 h2 => by
        refine ⟨by rw [h2.1 f (by omega) (by omega), h0], fun b hb => by rw [h2.1 34 (by decide) (by decide)]; exact h34 b hb, crs_to hcr (fun i h1 h3 => h2.1 _ (by omega) (by omega)), fun c a1 a2 a3 a4 a5 => by rw [h2.1 c a1 a2, hfr c a1 a2 a3 a4 a5]⟩
      have none_ : sp_low gone (sp_ag R' gone nb).1 (sp_ag R' gone nb).2 (nb - 1) 1 = none → ∀ M2, fa M1 M2 (sp_ag R' gone nb).1 (sp_ag R' gone nb).2 → ∀ x y, K 61 [some (.ref 31), some (.ref f), x, y] [] n M2 L := fun hz M2 h2 x y => by
        obtain ⟨p1, p2, p3, p4⟩ := post M2 h2
        have hq' : sp_cw nb nb (R, fun _ => false) = (R', gone) := by
          rw [hq]
          unfold sp_cw
          rw [hz]
        exact fin K hK M2 SS J p4 p1 (by rw [hq']; exact p2) (by rw [hq']; exact p3) (by rw [hq']; exact htg) x y
      have some_ : ∀ k, sp_low gone (sp_ag R' gone nb).1 (sp_ag R' gone nb).2 (nb - 1) 1 = some k → ∀ M2, fa M1 M2 (sp_ag R' gone nb).1 (sp_ag R' gone nb).2 → ∃ b lb, b < nb ∧ b ≠ k ∧ M2 33 (nI k).toNatClampNeg = nI b ∧ M2 (f + 2) b = nI (SS b).length ∧ M2 (f + 2) k = nI (SS k).length ∧ (SS b).length ≤ 1100 ∧ (SS k).length ≤ 1100 ∧ (0 < (SS b).length → M2 (f + 4) b = nI lb ∧ lb < 1100) ∧ ∀ M3, M3 = fl_jn M2 f b k (SS b).length (SS k).length lb → ∀ y, K 10 [some (.ref 31), some (.ref f), some (.int (nI ro + 1)), y] [] n (mc_put M3 34 (nI k).toNatClampNeg (-1)) L := fun k hz M2 h2 => by
        obtain ⟨p1, p2, p3, p4⟩ := post M2 h2
        obtain ⟨k1, hk, gk, b, hb, hbk, gb, hG, kb, ob, har⟩ := sp_low_is hnb (tgs_l htg) hz
        obtain ⟨⟨b1, b2, b3, b4, -⟩, b5, b6⟩ := p3.1 b hb gb
        obtain ⟨⟨-, c2, c3, -⟩, -⟩ := p3.1 k hk gk
        have ek : (nI k).toNatClampNeg = k := nI_clamp (by omega)
        refine ⟨b, (SS b).getLast?.getD 0, hb, hbk, by rw [ek, h2.2.2 k (by omega), hG], b2, c2, b3, c3, fun hp => ?_, fun M3 z3 y => ?_⟩
        · cases hq2 : (SS b).getLast? with
          | none =>
            rw [List.getLast?_eq_none_iff] at hq2
            rw [hq2] at hp
            exact absurd hp (Nat.lt_irrefl _)
          | some l => exact ⟨b5 l hq2, fl_ch_lt b4 l (List.mem_of_getLast? hq2)⟩
        · have hlb : ∀ l, (SS b).getLast? = some l → l = (SS b).getLast?.getD 0 := fun l hl => by rw [hl]; rfl
          have q3 := crs_jn p3 hb hk gb gk hbk hlb z3
          obtain ⟨a1, a2, a3, a4, -, -⟩ := fl_jn_at M2 f b k (SS b).length (SS k).length ((SS b).getLast?.getD 0)
          rw [← z3] at a1 a2 a3 a4
          have w : ∀ c, c ≠ 34 → mc_put M3 34 (nI k).toNatClampNeg (-1) c = M3 c := fun c hc => by
            funext x
            rw [mc_put_at, if_neg (fun v => hc v.1)]
          refine hK.2 [true, true, true, false] _ _ _ _ _ _ ?_
          refine ih (ro + 1) _ _ (sp_jn R' b k) (sp_gn gone k) _ _ (by omega) (nI_1 ro) (fun c x1 x2 x3 x4 x5 => ?_) ?_ (fun c hc => ?_) (crs_to q3 (fun i h1 h3 => w _ (by omega))) (tgs_jn htg hnb hk gk hbk har) ?_
          · rw [w c x3, a4 c (by omega) (by omega) (by omega) (by omega) (by omega), p4 c x1 x2 x3 x4 x5]
          · rw [w f (by omega), a4 f (by omega) (by omega) (by omega) (by omega) (by omega), p1]
          · rw [mc_put_at, ek, a4 34 (by omega) (by omega) (by omega) (by omega) (by omega)]
            unfold sp_gn
            by_cases e : c = k
            · rw [if_pos e, if_pos rfl, if_pos ⟨rfl, e⟩]
            · have e3 : (if c = k then true else gone c) = gone c := if_neg e
              have e4 : (if (34 : Nat) = 34 ∧ c = k then (-1 : Int32) else M2 34 c) = M2 34 c := if_neg (fun v => e v.2)
              rw [e3, e4]
              exact p2 c hc
          · rw [hq]
            conv => lhs; unfold sp_cw
            dsimp only
            rw [hz]
            dsimp only
            rw [hG, nI_clamp (by omega)]
      have hf' := hf
      cases hlow : sp_low gone (sp_ag R' gone nb).1 (sp_ag R' gone nb).2 (nb - 1) 1 with
      | none =>
        rcases hf with rfl | rfl <;>
        exact hK.1 [10, 61] 40 10 _ _ _ _ _ ⟨fun z => absurd z c1, fun _ => cC_findArrivals hf' hcj (by omega) (fun M2 h2 => cC_lowestToMove hf' hnb (post M2 h2).1 (post M2 h2).2.1 h2.2.1 h2.2.2 (by omega) (fun b hb => absurd (hlow.symm.trans hb) (by simp)) (fun _ => ⟨fun z => absurd rfl z, fun _ => none_ hlow M2 h2 _ _⟩))⟩
      | some k =>
        have hk1 := sp_low_some hlow
        have vk : vp_in (nI k) 100 := vp_in_nI (by omega) (by decide)
        have nk : ¬ nI k = -1 := nI_ne_m1 (by omega)
        rcases hf with rfl | rfl <;>
        exact hK.1 [10, 61] 40 10 _ _ _ _ _ ⟨fun z => absurd z c1, fun _ => cC_findArrivals hf' hcj (by omega) (fun M2 h2 => cC_lowestToMove hf' hnb (post M2 h2).1 (post M2 h2).2.1 h2.2.1 h2.2.2 (by omega) (fun b hb _ hbn => ⟨fun _ => (some_ b hb M2 h2).elim (fun b' o => o.elim (fun lb o => ⟨vp_in_nI (Nat.lt_of_lt_of_le hbn hnb) (by decide), cF_join hf' o.2.2.1 rfl (Nat.lt_of_lt_of_le o.1 hnb) (Nat.lt_of_lt_of_le hbn hnb) o.2.1 o.2.2.2.1 o.2.2.2.2.1 o.2.2.2.2.2.1 o.2.2.2.2.2.2.1 o.2.2.2.2.2.2.2.1 (by omega) (fun M3 z3 => ⟨vp_in_nI (Nat.lt_of_lt_of_le hbn hnb) (by decide), o.2.2.2.2.2.2.2.2 M3 z3 _⟩)⟩)), fun z => absurd z (nI_ne_m1 (by omega))⟩) (fun hz => absurd (hlow.symm.trans hz) (by simp)))⟩
  have ini : ∀ M1, M1 = mc_set M 34 (fun i => if i < 100 then 0 else M 34 i) → cfr f M M1 ∧ M1 f 0 = nI nb ∧ (∀ b, b < nb → if (fun _ => false) b = true then M1 34 b = -1 else ¬ M1 34 b = -1) ∧ crs T m S M1 f nb R (fun _ => false) SS J := fun M1 z1 => by
    have w : ∀ c, c ≠ 34 → M1 c = M c := fun c hc => by rw [z1, mc_set_n hc]
    refine ⟨fun c _ _ a3 _ _ => w c a3, by rw [w f (by omega), hsz], fun b hb => ?_, crs_to hcr (fun i h1 h3 => w _ (by omega))⟩
    have q : ¬ M1 34 b = -1 := by
      rw [z1, mc_set_s, if_pos (by omega)]
      decide
    simpa using q
  have lp' := fun K hK M1 z1 => lp K hK nb 0 0 M1 R (fun _ => false) SS J rfl rfl (ini M1 z1).1 (ini M1 z1).2.1 (ini M1 z1).2.2.1 (ini M1 z1).2.2.2 htg rfl
  rcases hf with rfl | rfl <;>
  exact inC_work (Nat.le_of_ble_eq_true rfl) (fun K hK => hK.1 [10] 20 0 _ _ _ _ _ (cJ_fill (Or.inr (Or.inr (Or.inr ⟨rfl, rfl⟩))) (by omega) (fun M1 z1 => lp' K hK M1 z1)))
end CW
