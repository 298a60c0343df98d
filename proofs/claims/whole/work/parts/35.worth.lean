/-! The model's worth -/
def nt_R (M : mc_M) (T : Nat → Nat → Int32) (m : Nat) : Prop := M 64 1 = nI m ∧ ∀ i, i < 5 → ∀ k, k < m → M (65 + i) k = T i k
section RW
variable {g : mc_G} {d n : Nat} {M : mc_M} {L : mc_L} {Q : Option Value → mc_M → mc_L → Prop} {T : Nat → Nat → Int32} {m : Nat}
theorem cR_worth (hT : nt_ok T m) (hN : nt_R M T m) {x : Int32} (hx : x = -1 ∨ ∃ k, k < m ∧ x = nI k) (hd : 1 ≤ d) (hz : x = -1 → Q (some (.int 0)) M L) (hk : ∀ k, k < m → x = nI k → ∀ M', (∀ c, c ≠ 79 → M' c = M c) → (∀ j, j ≤ k → M' 79 j = nd_val (T 0) (T 1) (T 2) (M 78) j) → Q (some (.int (nd_val (T 0) (T 1) (T 2) (M 78) k))) M' L) : ctR_worth g d [.ref 64, .int x] n M L Q := by
  obtain ⟨d, rfl⟩ := Nat.exists_eq_add_of_le' hd
  rcases hx with hx | ⟨k, hkm, hx⟩
  · exact inR_worth (Nat.le_of_ble_eq_true rfl) (fun K hK => hK.1 [9] 20 0 _ _ _ _ _ ⟨fun z => absurd hx z, fun _ => ⟨Nat.le_refl _, hz hx⟩⟩)
  · have hm150 := hT.1
    subst hx
    have lp : ∀ (K : mc_K), mc_closed true tab0 n 0 (some .int) (shR_worth g d) Q (fun _ _ _ => False) tbR_worth K → ∀ (r j : Nat) (i : Int32) (M1 : mc_M), r + j = k + 1 → i = nI j → (∀ c, c ≠ 79 → M1 c = M c) → (∀ u, u < j → M1 79 u = nd_val (T 0) (T 1) (T 2) (M 78) u) → K 9 [some (.ref 64), some (.int (nI k)), some (.int i), none, none] [] n M1 L := by
      intro K hK r
      induction r with
      | zero =>
        intro j i M1 hj hi e1 e2
        subst hi
        have c1 : nI k < nI j := nI_lt (by omega) (by omega)
        have ek : (nI k).toNatClampNeg = k := nI_clamp (by omega)
        have vk : vp_in (nI k) 150 := vp_in_nI (by omega) (by decide)
        have q := hk k hkm rfl M1 e1 (fun u hu => e2 u (by omega))
        rw [← e2 k (by omega), ← ek] at q
        exact hK.1 [] 20 9 _ _ _ _ _ ⟨fun _ => ⟨vk, Nat.le_refl _, q⟩, fun z => absurd c1 z⟩
      | succ r ih =>
        intro j i M1 hj hi e1 e2
        subst hi
        have hjm : j < m := by omega
        have c1 : ¬ nI k < nI j := nI_nlt (by omega) (by omega)
        have ej : (nI j).toNatClampNeg = j := nI_clamp (by omega)
        have vj : vp_in (nI j) 150 := vp_in_nI (by omega) (by decide)
        have k0 : M1 65 (nI j).toNatClampNeg = T 0 j := by rw [ej, e1 65 (by decide)]; exact hN.2 0 (by decide) j hjm
        have k1 : M1 66 (nI j).toNatClampNeg = T 1 j := by rw [ej, e1 66 (by decide)]; exact hN.2 1 (by decide) j hjm
        have k2 : M1 67 (nI j).toNatClampNeg = T 2 j := by rw [ej, e1 67 (by decide)]; exact hN.2 2 (by decide) j hjm
        have nxt : ∀ a b y, y = nd_val (T 0) (T 1) (T 2) (M 78) j → K 223 [some (.ref 64), some (.int (nI k)), some (.int (nI j)), a, b] [] n (mc_put M1 79 (nI j).toNatClampNeg y) L := fun a b y hy => by
          refine hK.2 [true, true, true, false, false] _ _ _ _ _ _ ?_
          refine hK.1 [9] 20 223 _ _ _ _ _ (ih (j + 1) _ _ (by omega) (nI_1 j) (fun c hc => ?_) (fun u hu => ?_))
          · funext w
            rw [mc_put_at, if_neg (fun v => hc v.1), e1 c hc]
          · rw [mc_put_at, ej]
            by_cases e : u = j
            · rw [if_pos ⟨rfl, e⟩, e, hy]
            · rw [if_neg (fun v => e v.2), e2 u (by omega)]
        obtain ⟨⟨s, -, -, -, g3⟩, -⟩ := hT.2.1 j hjm
        rcases g3 with g3 | ⟨g3, a, ha, hA⟩ | ⟨g3, g4, a, b, sa, sb, ha, hb, hA, hB, -⟩
        · have z0 := k0.trans g3
          have le1 : M1 65 (nI j).toNatClampNeg ≤ 1 := by rw [z0]; decide
          have q : M1 66 (nI j).toNatClampNeg = nd_val (T 0) (T 1) (T 2) (M 78) j := by rw [k1, nd_val_0 g3]
          exact hK.1 [223] 80 9 _ _ _ _ _ ⟨fun z => absurd z c1, fun _ => ⟨vj, fun _ => ⟨vj, fun _ => ⟨vj, fun _ => ⟨vj, vj, nxt _ _ _ q⟩, fun z => absurd z0 z⟩, fun z => absurd le1 z⟩, fun z => absurd le1 z⟩⟩
        · have z1 := k0.trans g3
          have le1 : M1 65 (nI j).toNatClampNeg ≤ 1 := by rw [z1]; decide
          have n0 : ¬ M1 65 (nI j).toNatClampNeg = 0 := by rw [z1]; decide
          have q : M1 78 (M1 66 (nI j).toNatClampNeg).toNatClampNeg = nd_val (T 0) (T 1) (T 2) (M 78) j := by rw [k1, hA, nI_clamp (by omega), e1 78 (by decide), nd_val_1 g3 hA ha]
          have va : vp_in (M1 66 (nI j).toNatClampNeg) 8 := by rw [k1, hA]; exact vp_in_nI ha (by decide)
          exact hK.1 [223] 80 9 _ _ _ _ _ ⟨fun z => absurd z c1, fun _ => ⟨vj, fun _ => ⟨vj, fun _ => ⟨vj, fun z => absurd z n0, fun _ => ⟨fun _ => ⟨vj, va, vj, nxt _ _ _ q⟩, fun z => absurd z1 z⟩⟩, fun z => absurd le1 z⟩, fun z => absurd le1 z⟩⟩
        · have n0' : ¬ T 0 j = 0 := fun z => by rw [z] at g3; exact absurd g3 (by decide)
          have n1' : ¬ T 0 j = 1 := fun z => by rw [z] at g3; exact absurd g3 (by decide)
          have n0 : ¬ M1 65 (nI j).toNatClampNeg = 0 := fun z => n0' (k0.symm.trans z)
          have n1 : ¬ M1 65 (nI j).toNatClampNeg = 1 := fun z => n1' (k0.symm.trans z)
          have gt1 : ¬ M1 65 (nI j).toNatClampNeg ≤ 1 := fun z => by
            rw [k0] at z
            have := Int32.le_trans g3 z
            exact absurd this (by decide)
          have va : vp_in (M1 66 (nI j).toNatClampNeg) 150 := by rw [k1, hA]; exact vp_in_nI (by omega) (by decide)
          have vb : vp_in (M1 67 (nI j).toNatClampNeg) 150 := by rw [k2, hB]; exact vp_in_nI (by omega) (by decide)
          have wa : M1 79 (M1 66 (nI j).toNatClampNeg).toNatClampNeg = nd_val (T 0) (T 1) (T 2) (M 78) a := by rw [k1, hA, nI_clamp (by omega), e2 a ha]
          have wb : M1 79 (M1 67 (nI j).toNatClampNeg).toNatClampNeg = nd_val (T 0) (T 1) (T 2) (M 78) b := by rw [k2, hB, nI_clamp (by omega), e2 b hb]
          have vl : nd_val (T 0) (T 1) (T 2) (M 78) j = nd_cb (M1 65 (nI j).toNatClampNeg) (M1 79 (M1 66 (nI j).toNatClampNeg).toNatClampNeg) (M1 79 (M1 67 (nI j).toNatClampNeg).toNatClampNeg) := by rw [nd_val_2 n0' n1' hA hB ha hb (by omega), k0, wa, wb]
          have nx := fun a b y (hy : y = nd_cb (M1 65 (nI j).toNatClampNeg) (M1 79 (M1 66 (nI j).toNatClampNeg).toNatClampNeg) (M1 79 (M1 67 (nI j).toNatClampNeg).toNatClampNeg)) => nxt a b y (hy.trans vl.symm)
          unfold nd_cb at nx
          exact hK.1 [223] 80 9 _ _ _ _ _ ⟨fun z => absurd z c1, fun _ => ⟨vj, fun z => absurd z gt1, fun _ => ⟨vj, va, vj, fun z => absurd z gt1, fun _ => ⟨vj, vb, vj, fun z => absurd z n0, fun _ => ⟨fun z => absurd z n1, fun _ => ⟨fun z => ⟨vj, nx _ _ _ (by rw [if_pos z])⟩, fun z2 => ⟨fun z => ⟨vj, nx _ _ _ (by rw [if_neg z2, if_pos z])⟩, fun z3 => ⟨fun z => ⟨vj, nx _ _ _ (by rw [if_neg z2, if_neg z3, if_pos z])⟩, fun z4 => ⟨fun z => ⟨fun y => ⟨vj, nx _ _ _ (by rw [if_neg z2, if_neg z3, if_neg z4, if_pos z, if_neg y])⟩, fun y => ⟨vj, nx _ _ _ (by rw [if_neg z2, if_neg z3, if_neg z4, if_pos z, if_pos y])⟩⟩, fun z5 => ⟨trivial, fun y => ⟨vj, nx _ _ _ (by rw [if_neg z2, if_neg z3, if_neg z4, if_neg z5, if_neg (Int32.not_lt.mpr y)])⟩, fun y => ⟨vj, nx _ _ _ (by rw [if_neg z2, if_neg z3, if_neg z4, if_neg z5, if_pos (Int32.not_le.mp y)])⟩⟩⟩⟩⟩⟩⟩⟩⟩⟩⟩
    have n1 : ¬ nI k = -1 := nI_ne_m1 (by omega)
    exact inR_worth (Nat.le_of_ble_eq_true rfl) (fun K hK => hK.1 [9] 20 0 _ _ _ _ _ ⟨fun _ => lp K hK (k + 1) 0 0 M rfl rfl (fun _ _ => rfl) (fun u hu => absurd hu (Nat.not_lt_zero _)), fun z => absurd z n1⟩)
end RW
