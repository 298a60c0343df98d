/-! The model's begin and setOf -/
section RB
variable {g : mc_G} {d n : Nat} {M : mc_M} {L : mc_L} {Q : Option Value → mc_M → mc_L → Prop} {T : Nat → Nat → Int32} {m : Nat}
theorem cR_setOf (hN : nt_R M T m) (hm : m ≤ 150) {x : Int32} (hd : 1 ≤ d) (hx : x = -1 ∨ ∃ k, k < m ∧ x = nI k) (hz : x = -1 → Q (some (.int 0)) M L) (hk : ∀ k, k < m → x = nI k → ∀ r, r = T 4 k → Q (some (.int r)) M L) : ctR_setOf g d [.ref 69, .int x] n M L Q := by
  obtain ⟨d, rfl⟩ := Nat.exists_eq_add_of_le' hd
  rcases hx with hx | ⟨k, hkm, hx⟩
  · exact inR_setOf (Nat.le_of_ble_eq_true rfl) (fun K hK => hK.1 [] 20 0 _ _ _ _ _ ⟨fun z => absurd hx z, fun _ => ⟨Nat.le_refl _, hz hx⟩⟩)
  · subst hx
    have vk : vp_in (nI k) 150 := vp_in_nI (by omega) (by decide)
    have e : M 69 (nI k).toNatClampNeg = T 4 k := by
      rw [nI_clamp (by omega)]
      exact hN.2 4 (by decide) k hkm
    have n1 : ¬ nI k = -1 := nI_ne_m1 (by omega)
    exact inR_setOf (Nat.le_of_ble_eq_true rfl) (fun K hK => hK.1 [] 20 0 _ _ _ _ _ ⟨fun _ => ⟨vk, Nat.le_refl _, hk k hkm rfl _ e⟩, fun z => absurd z n1⟩)
theorem cR_begin (hd : 1 ≤ d) (h : ∀ M', (∀ c, c ≠ 64 → c ≠ 78 → M' c = M c) → (∀ v, v < 8 → M' 78 v = M 77 v) → (∀ i, M' 64 i = if i = 41 then 0 else if i = 40 then 0 else if i = 39 then 0 else M 64 i) → Q none M' L) : ctR_begin g d [.ref 64] n M L Q := by
  obtain ⟨d, rfl⟩ := Nat.exists_eq_add_of_le' hd
  have lp : ∀ (K : mc_K), mc_closed true tab0 n 0 none (shR_begin g d) Q (fun _ _ _ => False) tbR_begin K → ∀ (r k : Nat) (i : Int32) (M1 : mc_M), r + k = 8 → i = nI k → (∀ c, c ≠ 78 → M1 c = M c) → (∀ v, v < k → M1 78 v = M 77 v) → K 2 [some (.ref 64), some (.int i)] [] n M1 L := by
    intro K hK r
    induction r with
    | zero =>
      intro k i M1 hk hi e1 e2
      subst hi
      have c1 : (8 : Int32) ≤ nI k := nI_le (a := 8) (by omega) (by omega)
      have q : Q none (mc_put (mc_put (mc_put M1 64 39 0) 64 40 0) 64 41 0) L := by
        refine h _ (fun c h1 h2 => ?_) (fun v hv => ?_) (fun i => ?_)
        · funext w
          rw [mc_put_at, if_neg (fun z => h1 z.1), mc_put_at, if_neg (fun z => h1 z.1), mc_put_at, if_neg (fun z => h1 z.1), e1 c h2]
        · rw [mc_put_at, if_neg (by omega), mc_put_at, if_neg (by omega), mc_put_at, if_neg (by omega), e2 v (by omega)]
        · rw [mc_put_at, mc_put_at, mc_put_at, e1 64 (by decide)]
          simp
      exact hK.1 [] 30 2 _ _ _ _ _ ⟨fun _ => ⟨Nat.le_refl _, q⟩, fun z => absurd c1 z⟩
    | succ r ih =>
      intro k i M1 hk hi e1 e2
      subst hi
      have c1 : ¬ (8 : Int32) ≤ nI k := nI_ge (b := 8) (by omega) (by decide)
      have vk : vp_in (nI k) 8 := vp_in_nI (by omega) (by decide)
      have ek : (nI k).toNatClampNeg = k := nI_clamp (by omega)
      have nx := ih (k + 1) (nI k + 1) (mc_put M1 78 (nI k).toNatClampNeg (M1 77 (nI k).toNatClampNeg)) (by omega) (nI_1 k) (fun c hc => by
        funext w
        rw [mc_put_at, if_neg (fun z => hc z.1), e1 c hc]) (fun v hv => by
        rw [mc_put_at, ek, e1 77 (by decide)]
        by_cases e : v = k
        · rw [if_pos ⟨rfl, e⟩, e]
        · rw [if_neg (fun z => e z.2), e2 v (by omega)])
      exact hK.1 [2] 30 2 _ _ _ _ _ ⟨fun z => absurd z c1, fun _ => ⟨vk, vk, nx⟩⟩
  exact inR_begin (Nat.le_of_ble_eq_true rfl) (fun K hK => hK.1 [2] 20 0 _ _ _ _ _ (lp K hK 8 0 0 M rfl rfl (fun _ _ => rfl) (fun v hv => absurd hv (Nat.not_lt_zero _))))
end RB
