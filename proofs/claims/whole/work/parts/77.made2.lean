/-! The program's flow, made -/
section MF
variable {g : mc_G} {d n : Nat} {M : mc_M} {L : mc_L} {Q : Option Value → mc_M → mc_L → Prop}
def fl7 (M : mc_M) : Prop := ∀ k, 2 ≤ k → k ≤ 13 → M 7 k ≠ 0
theorem cB_jumpStep (hf : fl7 M) (hd : 1 ≤ d) {x : Int32} {b j : Nat} (hx : x = nI b) (hb : b < 16) (hj : M 12 b = nI j) (h : ∀ r, r = nI (j * 11 + 10) → Q (some (.int r)) M L) : cbF_jumpStep g d 0 [.ref 7, .int x] 20 M L Q := by
  obtain ⟨d, rfl⟩ := Nat.exists_eq_add_of_le' hd
  have vb : vp_in x 16 := by rw [hx]; exact vp_in_nI hb (by decide)
  have e : M 12 x.toNatClampNeg * 11 + 10 = nI (j * 11 + 10) := by
    rw [hx, nI_clamp (by omega), hj, show (11 : Int32) = nI 11 from rfl, nI_mul]
    exact nI_add _ 10
  exact ibF_jumpStep (Nat.le_of_ble_eq_true rfl) (fun K hK => hK.1 [] 40 0 _ _ _ _ _ ⟨by decide, hf 6 (by decide) (by decide), by decide, vb, rfl, h _ e⟩)
theorem cB_setJump (hf : fl7 M) (hd : 2 ≤ d) {x q k : Int32} {b j : Nat} (hx : x = nI b) (hb : b < 16) (hj : M 12 b = nI j) (hjw : j < 16) (h : ∀ M', M' = mc_put (mc_put M 13 j q) 17 (j * 11 + 10) k → Q none M' L) : cbF_setJump g d 0 [.ref 7, .int x, .int q, .int k] 20 M L Q := by
  obtain ⟨d, rfl⟩ := Nat.exists_eq_add_of_le' (show 1 ≤ d by omega)
  have vb : vp_in x 16 := by rw [hx]; exact vp_in_nI hb (by decide)
  have ex : M 12 x.toNatClampNeg = nI j := by rw [hx, nI_clamp (by omega), hj]
  have vj : vp_in (M 12 x.toNatClampNeg) 16 := by rw [ex]; exact vp_in_nI hjw (by decide)
  have hf2 : fl7 (mc_put M 13 (M 12 x.toNatClampNeg).toNatClampNeg q) := fun k h1 h2 => by
    rw [mc_put_at, if_neg (by omega)]
    exact hf k h1 h2
  have hj2 : mc_put M 13 (M 12 x.toNatClampNeg).toNatClampNeg q 12 b = nI j := by
    rw [mc_put_at, if_neg (by omega)]
    exact hj
  refine ibF_setJump (Nat.le_of_ble_eq_true rfl) (fun K hK => hK.1 [] 40 0 _ _ _ _ _ ⟨by decide, hf 7 (by decide) (by decide), by decide, hf 6 (by decide) (by decide), by decide, vb, by decide, vj, by decide, hf 11 (by decide) (by decide), by decide, cB_jumpStep (b := b) (j := j) hf2 (by omega) hx hb hj2 (fun r hr => ⟨by decide, ?_, rfl, ?_⟩)⟩)
  · rw [hr]
    exact vp_in_nI (by omega) (by decide)
  · refine h _ ?_
    rw [hr, ex, nI_clamp (by omega), nI_clamp (by omega)]
theorem cB_setTargets (hf : fl7 M) (hd : 1 ≤ d) {x one oth : Int32} {b j : Nat} (hx : x = nI b) (hb : b < 16) (hj : M 12 b = nI j) (hjw : j < 16) (h : ∀ M', M' = mc_put (mc_put M 14 j one) 15 j oth → Q none M' L) : cbF_setTargets g d 0 [.ref 7, .int x, .int one, .int oth] 20 M L Q := by
  obtain ⟨d, rfl⟩ := Nat.exists_eq_add_of_le' hd
  have vb : vp_in x 16 := by rw [hx]; exact vp_in_nI hb (by decide)
  have ex : M 12 x.toNatClampNeg = nI j := by rw [hx, nI_clamp (by omega), hj]
  have vj : vp_in (M 12 x.toNatClampNeg) 16 := by rw [ex]; exact vp_in_nI hjw (by decide)
  have q : Q none (mc_put (mc_put M 14 (M 12 x.toNatClampNeg).toNatClampNeg one) 15 (M 12 x.toNatClampNeg).toNatClampNeg oth) L := h _ (by rw [ex, nI_clamp (by omega)])
  exact ibF_setTargets (Nat.le_of_ble_eq_true rfl) (fun K hK => hK.1 [] 40 0 _ _ _ _ _ ⟨by decide, hf 8 (by decide) (by decide), by decide, hf 6 (by decide) (by decide), by decide, vb, by decide, vj, by decide, hf 9 (by decide) (by decide), by decide, hf 6 (by decide) (by decide), by decide, vb, by decide, vj, rfl, q⟩)
theorem cB_makeEmpty (hf : fl7 M) (hd : 3 ≤ d) {x o : Int32} {b : Nat} (hx : x = nI b) (hb : b < 16) (h : ∀ M', M' = fl_empty M 7 b o → Q none M' L) : cbF_makeEmpty g d 0 [.ref 7, .int x, .int o] 20 M L Q := by
  obtain ⟨d, rfl⟩ := Nat.exists_eq_add_of_le' (show 1 ≤ d by omega)
  have vb : vp_in x 16 := by rw [hx]; exact vp_in_nI hb (by decide)
  have ex : x.toNatClampNeg = b := by rw [hx]; exact nI_clamp (by omega)
  have j1 : mc_put (mc_put (mc_put M 8 x.toNatClampNeg o) 9 x.toNatClampNeg 0) 12 x.toNatClampNeg x 12 b = nI b := by rw [ex, mc_put_at, if_pos ⟨rfl, rfl⟩, hx]
  have hf2 : fl7 (mc_put (mc_put (mc_put M 8 x.toNatClampNeg o) 9 x.toNatClampNeg 0) 12 x.toNatClampNeg x) := fun k h1 h2 => by
    rw [mc_put_at, if_neg (by omega), mc_put_at, if_neg (by omega), mc_put_at, if_neg (by omega)]
    exact hf k h1 h2
  refine ibF_makeEmpty (Nat.le_of_ble_eq_true rfl) (fun K hK => hK.1 [] 60 0 _ _ _ _ _ ⟨by decide, hf 2 (by decide) (by decide), by decide, vb, by decide, hf 3 (by decide) (by decide), by decide, vb, by decide, hf 6 (by decide) (by decide), by decide, vb, by decide, cB_setJump (b := b) (j := b) hf2 (by omega) hx hb j1 hb (fun M1 hM1 => ⟨by decide, cB_setTargets (b := b) (j := b) ?_ (by omega) hx hb ?_ hb (fun M2 hM2 => ⟨rfl, h M2 ?_⟩)⟩)⟩)
  · intro k h1 h2
    rw [hM1, mc_put_at, if_neg (by omega), mc_put_at, if_neg (by omega)]
    exact hf2 k h1 h2
  · rw [hM1, mc_put_at, if_neg (by omega), mc_put_at, if_neg (by omega)]
    exact j1
  · rw [hM2, hM1, ex, hx]
    rfl
def mtB (M : mc_M) (b : Nat) : Prop := M 8 b = nI b ∧ M 9 b = 0 ∧ M 12 b = nI b ∧ M 13 b = 2 ∧ M 17 (b * 11 + 10) = 150 ∧ M 14 b = -1 ∧ M 15 b = -1
theorem cB_F7 (hd : 4 ≤ d) (h : ∀ M' L', (∀ c, c < 7 → M' c = M c) → fl7 M' → M' 7 0 = 16 → M' 7 1 = M 7 1 → (∀ b, b < 16 → mtB M' b) → Q none M' L') : cbF_init g d 12 [.ref 7, .int 16, .int 16] 8 M L Q := by
  obtain ⟨d, rfl⟩ := Nat.exists_eq_add_of_le' (show 1 ≤ d by omega)
  have lp : ∀ (K : mc_K) (L1 : mc_L), mc_closed false tab0 8 12 none (sbF_init g d) Q (fun _ _ _ => False) tbF_init K → ∀ (r b : Nat) (i : Int32) (M1 : mc_M), r + b = 16 → i = nI b → (∀ c, c < 7 → M1 c = M c) → fl7 M1 → M1 7 0 = 16 → M1 7 1 = M 7 1 → (∀ c, c < b → mtB M1 c) → K 110 [some (.ref 7), some (.int 16), some (.int 16), some (.int i)] [] 20 M1 L1 := by
    intro K L1 hK r
    induction r with
    | zero =>
      intro b i M1 hr hi e1 e2 e3 e4 e5
      subst hi
      have c1 : (16 : Int32) ≤ nI b := nI_le (a := 16) (by omega) (by omega)
      exact hK.1 [] 20 110 _ _ _ _ _ ⟨fun _ => ⟨rfl, h M1 L1 e1 e2 e3 e4 (fun c hc => e5 c (by omega))⟩, fun z => absurd c1 z⟩
    | succ r ih =>
      intro b i M1 hr hi e1 e2 e3 e4 e5
      subst hi
      have c1 : ¬ (16 : Int32) ≤ nI b := nI_ge (b := 16) (by omega) (by decide)
      refine hK.1 [110] 20 110 _ _ _ _ _ ⟨fun z => absurd z c1, fun _ => ⟨by decide, cB_makeEmpty (b := b) e2 (by omega) rfl (by omega) (fun M2 hM2 => ?_)⟩⟩
      have o : ∀ c x, (c < 8 ∨ c = 17 ∨ x ≠ b) → (c ≠ 17 ∨ x ≠ b * 11 + 10) → M2 c x = M1 c x := fun c x q1 q2 => by
        rw [hM2]
        unfold fl_empty
        rw [mc_put_at, if_neg (by omega), mc_put_at, if_neg (by omega), mc_put_at, if_neg (by omega), mc_put_at, if_neg (by omega), mc_put_at, if_neg (by omega), mc_put_at, if_neg (by omega), mc_put_at, if_neg (by omega)]
      have e8 : mtB M2 b := by
        unfold mtB
        rw [hM2]
        unfold fl_empty
        simp [mc_put_at]
      refine ih (b + 1) _ M2 (by omega) (nI_1 b) (fun c hc => ?_) (fun k h1 h2 => ?_) ?_ ?_ (fun c hc => ?_)
      · funext w
        rw [o c w (by omega) (by omega), e1 c hc]
      · rw [o 7 k (by omega) (by omega)]
        exact e2 k h1 h2
      · rw [o 7 0 (by omega) (by omega), e3]
      · rw [o 7 1 (by omega) (by omega), e4]
      · by_cases e : c = b
        · rw [e]
          exact e8
        · obtain ⟨q1, q2, q3, q4, q5, q6, q7⟩ := e5 c (by omega)
          exact ⟨by rw [o 8 c (by omega) (by omega)]; exact q1, by rw [o 9 c (by omega) (by omega)]; exact q2, by rw [o 12 c (by omega) (by omega)]; exact q3, by rw [o 13 c (by omega) (by omega)]; exact q4, by rw [o 17 _ (by omega) (by omega)]; exact q5, by rw [o 14 c (by omega) (by omega)]; exact q6, by rw [o 15 c (by omega) (by omega)]; exact q7⟩
  refine ibF_init (Nat.le_of_ble_eq_true rfl) (fun K hK => hK.1 [110] 160 0 _ _ _ _ _ ⟨rfl, by decide, by decide, rfl, by decide, by decide, rfl, by decide, by decide, rfl, by decide, by decide, rfl, by decide, by decide, rfl, by decide, by decide, rfl, by decide, by decide, rfl, by decide, by decide, rfl, by decide, by decide, rfl, by decide, by decide, rfl, by decide, by decide, rfl, by decide, by decide, by decide, lp K _ hK 16 0 0 _ rfl rfl (fun c hc => ?_) (fun k h1 h2 => ?_) rfl rfl (fun c hc => absurd hc (Nat.not_lt_zero _))⟩)
  · rw [mc_put_n (show c ≠ 7 by omega), mc_put_n (show c ≠ 7 by omega), mc_set_n (show c ≠ 19 by omega), mc_put_n (show c ≠ 7 by omega), mc_set_n (show c ≠ 18 by omega), mc_put_n (show c ≠ 7 by omega), mc_set_n (show c ≠ 17 by omega), mc_put_n (show c ≠ 7 by omega), mc_set_n (show c ≠ 16 by omega), mc_put_n (show c ≠ 7 by omega), mc_set_n (show c ≠ 15 by omega), mc_put_n (show c ≠ 7 by omega), mc_set_n (show c ≠ 14 by omega), mc_put_n (show c ≠ 7 by omega), mc_set_n (show c ≠ 13 by omega), mc_put_n (show c ≠ 7 by omega), mc_set_n (show c ≠ 12 by omega), mc_put_n (show c ≠ 7 by omega), mc_set_n (show c ≠ 11 by omega), mc_put_n (show c ≠ 7 by omega), mc_set_n (show c ≠ 10 by omega), mc_put_n (show c ≠ 7 by omega), mc_set_n (show c ≠ 9 by omega), mc_put_n (show c ≠ 7 by omega), mc_set_n (show c ≠ 8 by omega)]
  · have : k = 2 ∨ k = 3 ∨ k = 4 ∨ k = 5 ∨ k = 6 ∨ k = 7 ∨ k = 8 ∨ k = 9 ∨ k = 10 ∨ k = 11 ∨ k = 12 ∨ k = 13 := by omega
    have one : (1 : Int32) ≠ 0 := by decide
    rcases this with rfl | rfl | rfl | rfl | rfl | rfl | rfl | rfl | rfl | rfl | rfl | rfl <;> exact one
end MF
