/-! The model's dynamics -/
theorem nI_div {a b : Nat} (ha : a < 2 ^ 31) (hb : b < 2 ^ 31) : nI a / nI b = nI (a / b) := by
  have hle : a / b ≤ a := Nat.div_le_self a b
  apply Int32.toInt_inj.mp
  rw [Int32.toInt_div, nI_toInt ha, nI_toInt hb, nI_toInt (by omega), ← Int.ofNat_tdiv]
  generalize a / b = q at hle ⊢
  refine Int.bmod_eq_of_le ?_ ?_ <;> omega
theorem nI_sub {a b : Nat} (h : b ≤ a) : nI a - nI b = nI (a - b) := by
  have : nI a = nI (a - b) + nI b := by rw [nI_add, Nat.sub_add_cancel h]
  rw [this, Int32.add_sub_cancel]
theorem nI_rem10 {a : Nat} (ha : a < 2 ^ 31) : nI a - nI a / 10 * 10 = nI (a % 10) := by
  rw [show nI a / 10 = nI (a / 10) from nI_div (b := 10) ha (by decide), show nI (a / 10) * 10 = nI (a / 10 * 10) from nI_mul _ 10, nI_sub (Nat.div_mul_le_self _ _)]
  congr 1
  omega
/-- how the model holds the program's assignments -/
def pgR (M : mc_M) (m : Nat) (P : Nat → Blk) : Prop := ∀ b, b < 16 → M 70 b = nI (P b).2.1.length ∧ (P b).2.1.length ≤ 10 ∧ ∀ i, i < (P b).2.1.length → ∃ v k, v < 8 ∧ k < m ∧ (P b).2.1[i]? = some (v, k, fun _ => 0) ∧ M 71 (b * 10 + i) = nI v ∧ M 72 (b * 10 + i) = nI k
def rmd (T : Nat → Nat → Int32) (P : Nat → Blk) (k : Nat) (D : Int32) : Int32 := sp_dr T P (16 - (k / 10 + 1)) (k / 10 + 1) (sp_dyn T ((P (k / 10)).2.1.drop (k % 10)) D)
theorem rmd_out {T : Nat → Nat → Int32} {P : Nat → Blk} {k : Nat} {D : Int32} (h10 : (P (k / 10)).2.1.length ≤ 10) (hk : k < 160) (h : (P (k / 10)).2.1.length ≤ k % 10) : rmd T P k D = if k + 1 < 160 then rmd T P (k + 1) D else D := by
  unfold rmd
  rw [List.drop_eq_nil_of_le h]
  by_cases h1 : k + 1 < 160
  · rw [if_pos h1]
    by_cases h9 : k % 10 = 9
    · rw [show (k + 1) / 10 = k / 10 + 1 by omega, show (k + 1) % 10 = 0 by omega, List.drop_zero, show 16 - (k / 10 + 1) = (16 - (k / 10 + 1 + 1)) + 1 by omega]
      rfl
    · rw [show (k + 1) / 10 = k / 10 by omega, List.drop_eq_nil_of_le (by omega)]
  · rw [if_neg h1, show k / 10 = 15 by omega]
    rfl
theorem rmd_in {T : Nat → Nat → Int32} {P : Nat → Blk} {k v nd : Nat} {fr : Nat → Int32} {D : Int32} (h10 : (P (k / 10)).2.1.length ≤ 10) (hk : k < 160) (h : (P (k / 10)).2.1[k % 10]? = some (v, nd, fr)) : rmd T P k D = if k + 1 < 160 then rmd T P (k + 1) (if ¬ (T 4 nd &&& D) = 0 then D ||| (1 <<< (nI v &&& 31)) else D) else (if ¬ (T 4 nd &&& D) = 0 then D ||| (1 <<< (nI v &&& 31)) else D) := by
  have hl := (List.getElem?_eq_some_iff.mp h).1
  have hd : (P (k / 10)).2.1.drop (k % 10) = (v, nd, fr) :: (P (k / 10)).2.1.drop (k % 10 + 1) := by
    rw [List.drop_eq_getElem_cons hl, (List.getElem?_eq_some_iff.mp h).2]
  have e : ∀ D, rmd T P k D = sp_dr T P (16 - (k / 10 + 1)) (k / 10 + 1) (sp_dyn T ((P (k / 10)).2.1.drop (k % 10 + 1)) (if ¬ (T 4 nd &&& D) = 0 then D ||| (1 <<< (nI v &&& 31)) else D)) := fun D => by
    unfold rmd
    rw [hd]
    rfl
  rw [e]
  generalize (if ¬ (T 4 nd &&& D) = 0 then D ||| (1 <<< (nI v &&& 31)) else D) = D'
  by_cases h1 : k + 1 < 160
  · rw [if_pos h1]
    unfold rmd
    by_cases h9 : k % 10 = 9
    · rw [show (k + 1) / 10 = k / 10 + 1 by omega, show (k + 1) % 10 = 0 by omega, List.drop_zero, show 16 - (k / 10 + 1) = (16 - (k / 10 + 1 + 1)) + 1 by omega, List.drop_eq_nil_of_le (by omega)]
      rfl
    · rw [show (k + 1) / 10 = k / 10 by omega, show (k + 1) % 10 = k % 10 + 1 by omega]
  · rw [if_neg h1, show k / 10 = 15 by omega, List.drop_eq_nil_of_le (by rw [show k / 10 = 15 by omega] at h10; omega)]
    rfl
section RD
variable {g : mc_G} {d n : Nat} {M : mc_M} {L : mc_L} {Q : Option Value → mc_M → mc_L → Prop} {T : Nat → Nat → Int32} {m : Nat} {P : Nat → Blk}
theorem pgR_lt (h : pgR M m P) : ∀ b, b < 16 → ∀ a ∈ (P b).2.1, a.1 < 8 := fun b hb a ha => by
  obtain ⟨i, hi, he⟩ := List.mem_iff_getElem.mp ha
  obtain ⟨v, k, hv, -, h1, -⟩ := (h b hb).2.2 i hi
  rw [List.getElem?_eq_getElem hi, he] at h1
  rw [Option.some.inj h1]
  exact hv
theorem cR_dynamics (hm : m ≤ 150) (hN : nt_R M T m) (hP : pgR M m P) {x : Int32} (hne : ¬ (255 &&& (x ^^^ (-1))) = -1) (hd : 1 ≤ d) (h : ∀ r, r = sp_dit T P 8 (255 &&& (x ^^^ (-1))) → Q (some (.int r)) M L) : ctR_dynamics g d [.ref 64, .int x] n M L Q := by
  obtain ⟨d, rfl⟩ := Nat.exists_eq_add_of_le' hd
  have inner : ∀ (K : mc_K), mc_closed true tab0 n 0 (some .int) (shR_dynamics g d) Q (fun _ _ _ => False) tbR_dynamics K → ∀ (be : Int32) (r k : Nat) (D i : Int32), r + k = 160 → i = nI k → (∀ i, K 97 [some (.ref 64), some (.int x), some (.int (if k < 160 then rmd T P k D else D)), some (.int be), some (.int i), none] [] n M L) → K 20 [some (.ref 64), some (.int x), some (.int D), some (.int be), some (.int i), none] [] n M L := by
    intro K hK be r
    induction r with
    | zero =>
      intro k D i hk hi h
      subst hi
      have hk' : k = 160 := by omega
      subst hk'
      exact hK.1 [97] 20 20 _ _ _ _ _ ⟨fun _ => h _, fun z => absurd (nI_le (a := 160) (b := 160) (Nat.le_refl _) (by decide)) z⟩
    | succ r ih =>
      intro k D i hk hi h
      subst hi
      have c1 : ¬ (160 : Int32) ≤ nI k := nI_ge (b := 160) (by omega) (by decide)
      have ek : (nI k).toNatClampNeg = k := nI_clamp (by omega)
      have vk : vp_in (nI k) 160 := vp_in_nI (by omega) (by decide)
      have ed : nI k / 10 = nI (k / 10) := nI_div (b := 10) (by omega) (by decide)
      have er : nI k - nI k / 10 * 10 = nI (k % 10) := nI_rem10 (by omega)
      have vd : vp_in (nI k / 10) 16 := by rw [ed]; exact vp_in_nI (by omega) (by decide)
      obtain ⟨p1, p2, p3⟩ := hP (k / 10) (by omega)
      have m70 : M 70 (nI k / 10).toNatClampNeg = nI (P (k / 10)).2.1.length := by rw [ed, nI_clamp (by omega), p1]
      rw [if_pos (by omega)] at h
      have go : ∀ D' y, rmd T P k D = (if k + 1 < 160 then rmd T P (k + 1) D' else D') → K 20 [some (.ref 64), some (.int x), some (.int D'), some (.int be), some (.int (nI k + 1)), y] [] n M L := fun D' y hD => by
        refine hK.2 [true, true, true, true, true, false] _ _ _ _ _ _ ?_
        exact ih (k + 1) D' _ (by omega) (nI_1 k) (by rw [← hD]; exact h)
      have out : M 70 (nI k / 10).toNatClampNeg ≤ nI k - nI k / 10 * 10 → ∀ y, K 20 [some (.ref 64), some (.int x), some (.int D), some (.int be), some (.int (nI k + 1)), y] [] n M L := fun z y => by
        rw [m70, er] at z
        exact go D y (rmd_out p2 (by omega) ((nI_leI (by omega) (by omega)).mp z))
      have inn : ¬ M 70 (nI k / 10).toNatClampNeg ≤ nI k - nI k / 10 * 10 → ∃ v nd, v < 8 ∧ nd < m ∧ (P (k / 10)).2.1[k % 10]? = some (v, nd, fun _ => 0) ∧ M 71 (nI k).toNatClampNeg = nI v ∧ M 72 (nI k).toNatClampNeg = nI nd := fun z => by
        rw [m70, er] at z
        have hlt : k % 10 < (P (k / 10)).2.1.length := Nat.lt_of_not_le (fun w => z (nI_le w (by omega)))
        obtain ⟨v, nd, h1, h2, h3, h4, h5⟩ := p3 _ hlt
        rw [show k / 10 * 10 + k % 10 = k by omega] at h4 h5
        exact ⟨v, nd, h1, h2, h3, by rw [ek]; exact h4, by rw [ek]; exact h5⟩
      refine hK.1 [20] 60 20 _ _ _ _ _ ⟨fun z => absurd z c1, fun _ => ⟨by decide, by decide, vd, fun z => ⟨fun _ => out z _, fun w => absurd rfl w⟩, fun z => ?_⟩⟩
      obtain ⟨v, nd, hv, hnd, hl, m71, m72⟩ := inn z
      have vn : vp_in (M 72 (nI k).toNatClampNeg) 150 := by rw [m72]; exact vp_in_nI (by omega) (by decide)
      have t4 : M 69 (M 72 (nI k).toNatClampNeg).toNatClampNeg = T 4 nd := by
        rw [m72, nI_clamp (by omega)]
        exact hN.2 4 (by decide) nd hnd
      refine ⟨vk, vn, fun w => ⟨fun _ => go _ _ ?_, fun u => absurd rfl u⟩, fun w => ⟨fun u => absurd u (by decide), fun _ => ⟨vk, go _ _ ?_⟩⟩⟩
      · rw [t4] at w
        have e5 : (if ¬ (T 4 nd &&& D) = 0 then D ||| (1 <<< (nI v &&& 31)) else D) = D := if_neg (fun u => u w)
        rw [rmd_in p2 (by omega) hl, e5]
      · rw [t4] at w
        have e5 : (if ¬ (T 4 nd &&& D) = 0 then D ||| (1 <<< (nI v &&& 31)) else D) = D ||| (1 <<< (nI v &&& 31)) := if_pos w
        rw [rmd_in p2 (by omega) hl, e5, m71]
  have lp : ∀ (K : mc_K), mc_closed true tab0 n 0 (some .int) (shR_dynamics g d) Q (fun _ _ _ => False) tbR_dynamics K → ∀ (fu : Nat) (D be : Int32), 8 ≤ fu + pc D 8 → ¬ be = D → (∀ r, r = sp_dit T P fu D → Q (some (.int r)) M L) → K 10 [some (.ref 64), some (.int x), some (.int D), some (.int be), none, none] [] n M L := by
    intro K hK fu
    induction fu with
    | zero =>
      intro D be hp hbe h
      have fx := sp_dit_fix (T := T) (pgR_lt hP) 0 D hp
      have fx' : sp_dr T P 16 0 D = D := fx
      refine hK.1 [20] 20 10 _ _ _ _ _ ⟨fun z => absurd z hbe, fun _ => inner K hK D 160 0 D 0 rfl rfl (fun i => ?_)⟩
      have e : (if 0 < 160 then rmd T P 0 D else D) = D := by
        rw [if_pos (by decide)]
        exact fx'
      rw [e]
      exact hK.1 [] 20 97 _ _ _ _ _ ⟨fun _ => ⟨Nat.le_refl _, h _ rfl⟩, fun z => absurd rfl z⟩
    | succ fu ih =>
      intro D be hp hbe h
      refine hK.1 [20] 20 10 _ _ _ _ _ ⟨fun z => absurd z hbe, fun _ => inner K hK D 160 0 D 0 rfl rfl (fun i => ?_)⟩
      have e : (if 0 < 160 then rmd T P 0 D else D) = sp_dr T P 16 0 D := by
        rw [if_pos (by decide)]
        rfl
      rw [e]
      by_cases fx : sp_dr T P 16 0 D = D
      · have q := h D (by unfold sp_dit; rw [if_pos fx, fx])
        rw [fx]
        exact hK.1 [] 20 97 _ _ _ _ _ ⟨fun _ => ⟨Nat.le_refl _, q⟩, fun z => absurd rfl z⟩
      · have h1 := grw_pc (sp_dr_grw (T := T) (pgR_lt hP) 16 0 D rfl) fx
        have nx := ih (sp_dr T P 16 0 D) D (by omega) (fun z => fx z.symm) (fun r hr => h r (by rw [hr]; conv => rhs; unfold sp_dit; rw [if_neg fx]))
        refine hK.2 [true, true, true, true, false, false] _ _ _ _ _ _ ?_
        exact hK.1 [10] 20 97 _ _ _ _ _ nx
  have lp' := fun K hK => lp K hK 8 (255 &&& (x ^^^ (-1))) (-1) (by omega) (fun z => hne z.symm) h
  exact inR_dynamics (Nat.le_of_ble_eq_true rfl) (fun K hK => hK.1 [10] 20 0 _ _ _ _ _ (lp' K hK))
end RD
