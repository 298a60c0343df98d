/-! The model's compress -/
def cmf (M M' : mc_M) : Prop := (∀ c, c ≠ 64 → (c < 84 ∨ 91 < c) → M' c = M c) ∧ (∀ i, i ≠ 0 → M' 64 i = M 64 i) ∧ M' 64 0 = 0
section CM
variable {g : mc_G} {d n : Nat} {M : mc_M} {L : mc_L} {Q : Option Value → mc_M → mc_L → Prop} {T : Nat → Nat → Int32} {m : Nat} {K : mc_K}
theorem mrg_rw {S : Int32} {pb nb : Nat} {R : Nat → Blk} {gone : Nat → Bool} {PS : Nat → List Nat} (h : mrg T m S M pb nb R gone PS) (hg : ∀ b, b < nb → M 84 b = bI (gone b)) : rrw M nb R gone := fun b hb => ⟨hg b hb, fun gb => by
  obtain ⟨-, -, -, -, -, -, a7, -, a9, a10⟩ := h.1 b hb gb
  exact ⟨a7, a9, a10⟩⟩
theorem nu_0 {gone : Nat → Bool} : ∀ {nb k : Nat}, nu gone nb = 0 → k < nb → gone k = true
  | 0, _, _, h => absurd h (Nat.not_lt_zero _)
  | nb + 1, k, h, hk => by
    unfold nu at h
    cases hg : gone nb with
    | true =>
      rw [hg, if_pos rfl] at h
      by_cases e : k = nb
      · rw [e]
        exact hg
      · exact nu_0 h (by omega)
    | false =>
      rw [hg, if_neg (by decide)] at h
      omega
/-- the joining -/
theorem cmp_join (hK : mc_closed true tab0 n 0 (some .int) (shR_compress g d) Q (fun _ _ _ => False) tbR_compress K) (hd : 2 ≤ d) {S : Int32} {pb nb : Nat} (hnb : nb ≤ 100) (h0nb : 0 < nb) (h23 : M 64 23 = nI nb) {p : (Nat → Blk) × (Nat → Bool)}
    (h : ∀ M1 PS a, cmf M M1 → mrg T m S M1 pb nb p.1 p.2 PS → (∀ b, b < nb → M1 84 b = bI (p.2 b)) → tgs p.1 p.2 nb → K 100 [some (.ref 64), some (.int 0), a, none, none] [] n M1 L) :
    ∀ (fu : Nat) (R : Nat → Blk) (gone : Nat → Bool) (PS : Nat → List Nat) (M1 : mc_M) (a : Option Value), nu gone nb = fu → cmf M M1 → mrg T m S M1 pb nb R gone PS → (∀ b, b < nb → M1 84 b = bI (gone b)) → tgs R gone nb → p = sp_cw nb fu (R, gone) → K 24 [some (.ref 64), some (.int 1), a, none, none] [] n M1 L := by
  intro fu
  induction fu with
  | zero =>
    intro R gone PS M1 a hnu hf hm hg htg hp
    have hp' : p = (R, gone) := hp
    have allg : ∀ k, k < nb → gone k = true := fun k hk => nu_0 hnu hk
    have h23' : M1 64 23 = nI nb := by rw [hf.2.1 23 (by decide), h23]
    rw [hp'] at h
    have fin : ∀ a, K 97 [some (.ref 64), some (.int 0), a, none, none] [] n M1 L := fun a => hK.1 [100] 20 97 _ _ _ _ _ ⟨fun _ => h M1 PS a hf hm hg htg, fun z => absurd rfl z⟩
    have lp : ∀ (r k : Nat) (i : Int32), r + k = nb → i = nI k → K 32 [some (.ref 64), some (.int 0), some (.int i), none, none] [] n M1 L := by
      intro r
      induction r with
      | zero =>
        intro k i hk hi
        subst hi
        have c1 : M1 64 23 ≤ nI k := by rw [h23']; exact nI_le (by omega) (by omega)
        exact hK.1 [97] 20 32 _ _ _ _ _ ⟨fun _ => fin _, fun z => absurd c1 z⟩
      | succ r ih =>
        intro k i hk hi
        subst hi
        have c1 : ¬ M1 64 23 ≤ nI k := by rw [h23']; exact nI_ge (by omega) (by omega)
        have vk : vp_in (nI k) 100 := vp_in_nI (by omega) (by decide)
        have g1 : ¬ M1 84 (nI k).toNatClampNeg = 0 := by
          rw [nI_clamp (by omega), hg k (by omega), allg k (by omega)]
          decide
        exact hK.1 [32, 97] 60 32 _ _ _ _ _ ⟨fun z => absurd z c1, fun _ => ⟨fun z => absurd rfl z, fun _ => ⟨vk, fun _ => ⟨fun _ => ih (k + 1) _ (by omega) (nI_1 k), fun z => absurd rfl z⟩, fun z => absurd z g1⟩⟩⟩
    exact hK.1 [32] 20 24 _ _ _ _ _ ⟨fun z => absurd z (by decide), fun _ => lp (nb - 1) 1 1 (by omega) rfl⟩
  | succ fu ih0 =>
    intro R gone PS M1 a hnu hf hm hg htg hp
    have h23' : M1 64 23 = nI nb := by rw [hf.2.1 23 (by decide), h23]
    have hrr := mrg_rw hm hg
    have htl := tgs_l htg
    have fin : sp_low gone (sp_ag R gone nb).1 (sp_ag R gone nb).2 (nb - 1) 1 = none → ∀ a, K 97 [some (.ref 64), some (.int 0), a, none, none] [] n M1 L := fun hz a => by
      have hp' : p = (R, gone) := by
        rw [hp]
        unfold sp_cw
        rw [hz]
      rw [hp'] at h
      exact hK.1 [100] 20 97 _ _ _ _ _ ⟨fun _ => h M1 PS a hf hm hg htg, fun z => absurd rfl z⟩
    have lp : ∀ (r k : Nat) (i : Int32), r + k = nb → i = nI k → sp_low gone (sp_ag R gone nb).1 (sp_ag R gone nb).2 r k = sp_low gone (sp_ag R gone nb).1 (sp_ag R gone nb).2 (nb - 1) 1 → K 32 [some (.ref 64), some (.int 0), some (.int i), none, none] [] n M1 L := by
      intro r
      induction r with
      | zero =>
        intro k i hk hi hlow
        subst hi
        have c1 : M1 64 23 ≤ nI k := by rw [h23']; exact nI_le (by omega) (by omega)
        exact hK.1 [97] 20 32 _ _ _ _ _ ⟨fun _ => fin hlow.symm _, fun z => absurd c1 z⟩
      | succ r ih =>
        intro k i hk hi hlow
        subst hi
        have hk' : k < nb := by omega
        have c1 : ¬ M1 64 23 ≤ nI k := by rw [h23']; exact nI_ge hk' (by omega)
        have vk : vp_in (nI k) 100 := vp_in_nI (by omega) (by decide)
        have ek : (nI k).toNatClampNeg = k := nI_clamp (by omega)
        have e84 : M1 84 (nI k).toNatClampNeg = bI (gone k) := by rw [ek, hg k hk']
        have hle := ar_s_le R gone k nb 0
        have nx : ¬ (gone k = false ∧ ar_s R gone k nb 0 = 1 ∧ ∃ b, b < nb ∧ gto R gone k b) → K 32 [some (.ref 64), some (.int 0), some (.int (nI k + 1)), none, none] [] n M1 L := fun hno => by
          refine ih (k + 1) _ (by omega) (nI_1 k) ?_
          rw [← hlow]
          conv => rhs; unfold sp_low
          rw [if_neg (fun z => hno ((low_iff hnb htl hk').mp z))]
        have yes : gone k = false → ar_s R gone k nb 0 = 1 → ∀ b, b < nb → gto R gone k b → ∀ M2, jnM b k ((PS b).getLast?.getD 0) M1 M2 → K 91 [some (.ref 64), some (.int 1), some (.int (nI k)), none, none] [] n M2 L := fun gk hs b hb hgt M2 hM2 => by
          obtain ⟨gb, hbk, kb, ob⟩ := hgt
          obtain ⟨hG, har⟩ := gto_G hnb htl hk' hs hb ⟨gb, hbk, kb, ob⟩
          have hz : sp_low gone (sp_ag R gone nb).1 (sp_ag R gone nb).2 (nb - 1) 1 = some k := by
            rw [← hlow]
            unfold sp_low
            rw [if_pos ((low_iff hnb htl hk').mpr ⟨gk, hs, b, hb, gb, hbk, kb, ob⟩)]
          have hlb : ∀ l, (PS b).getLast? = some l → l = (PS b).getLast?.getD 0 := fun l hl => by rw [hl]; rfl
          have m2 := mrg_jn hm hb hk' gb gk hbk hlb hM2
          have f2 : cmf M M2 := ⟨fun c h1 h2 => by rw [hM2.1 c h2, hf.1 c h1 h2], fun i hi => by rw [hM2.1 64 (by omega), hf.2.1 i hi], by rw [hM2.1 64 (by omega), hf.2.2]⟩
          have g2 : ∀ b, b < nb → M2 84 b = bI (sp_gn gone k b) := fun c hc => by
            rw [hM2.2.1 c]
            unfold sp_gn
            by_cases e : c = k
            · rw [if_pos e, if_pos e]
              rfl
            · rw [if_neg e, if_neg e]
              exact hg c hc
          have nx24 : ∀ a, K 97 [some (.ref 64), some (.int 1), a, none, none] [] n M2 L := fun a => by
            refine hK.1 [24] 20 97 _ _ _ _ _ (ih0 (sp_jn R b k) (sp_gn gone k) _ M2 a ?_ f2 m2 g2 (tgs_jn htg hnb hk' gk hbk har) ?_)
            · have := nu_gn gk nb hk'
              omega
            · rw [hp]
              conv => lhs; unfold sp_cw
              dsimp only
              rw [hz]
              dsimp only
              rw [hG, nI_clamp (by omega)]
          exact hK.1 [97] 30 91 _ _ _ _ _ ⟨fun _ => nx24 _, fun _ => ⟨fun _ => nx24 _, fun z => absurd z (by decide)⟩⟩
        cases hgk : gone k with
        | true =>
          have g1 : ¬ M1 84 (nI k).toNatClampNeg = 0 := by rw [e84, hgk]; decide
          exact hK.1 [32, 97] 60 32 _ _ _ _ _ ⟨fun z => absurd z c1, fun _ => ⟨fun z => absurd rfl z, fun _ => ⟨vk, fun _ => ⟨fun _ => nx (fun w => by rw [hgk] at w; cases w.1), fun z => absurd rfl z⟩, fun z => absurd z g1⟩⟩⟩
        | false =>
          have g1 : M1 84 (nI k).toNatClampNeg = 0 := by rw [e84, hgk]; rfl
          refine hK.1 [32, 91, 97] 60 32 _ _ _ _ _ ⟨fun z => absurd z c1, fun _ => ⟨fun z => absurd rfl z, fun _ => ⟨vk, fun z => absurd g1 z, fun _ => cR_jumpsTo hnb h23' hrr htg rfl (by omega) (fun r1 hr1 => ⟨fun z => ⟨fun _ => hK.1 [32] 20 91 _ _ _ _ _ (nx (fun w => z (by rw [hr1, w.2.1]; rfl))), fun z => absurd rfl z⟩, fun z => ?_⟩)⟩⟩⟩
          have hs : ar_s R gone k nb 0 = 1 := (nI_eq (b := 1) (by omega) (by decide)).mp (hr1.symm.trans z)
          refine cR_goesTo hnb (by omega) h23' hrr rfl (by omega) (fun b hb hgt r2 hr2 => ⟨fun z2 => ?_, fun _ => ⟨fun z3 => absurd z3 (by decide), fun _ => ?_⟩⟩) (fun hno => ⟨fun _ => ⟨fun _ => hK.1 [32] 20 91 _ _ _ _ _ (nx (fun w => by obtain ⟨-, -, b, hb, hgt⟩ := w; exact hno b hb hgt)), fun z3 => absurd rfl z3⟩, fun z2 => absurd rfl z2⟩)
          · rw [hr2] at z2
            exact absurd z2 (nI_ne_m1 (by omega))
          · refine cR_goesTo hnb (by omega) h23' hrr rfl (by omega) (fun b hb hgt r3 hr3 => ?_) (fun hno => absurd hgt (hno b hb))
            have hgt' := hgt
            obtain ⟨gb, hbk, -, -⟩ := hgt'
            obtain ⟨-, q2, q3, -⟩ := hm.1 b hb gb
            refine cR_join (l := (PS b).getLast?.getD 0) hr3 rfl (by omega) (by omega) hbk (fun z4 => ?_) (by omega) (fun M2 hM2 => yes hgk hs b hb hgt M2 hM2)
            cases hq : (PS b).getLast? with
            | none =>
              have e0 : PS b = [] := by simpa using hq
              exact absurd ((pch_ne q2).mpr e0) z4
            | some x => exact ⟨q3 x hq, pch_lt q2 x (List.mem_of_getLast? hq)⟩
    exact hK.1 [32] 20 24 _ _ _ _ _ ⟨fun z => absurd z (by decide), fun _ => lp (nb - 1) 1 1 (by omega) rfl rfl⟩
end CM
