/-! Flow -/
theorem nI_mul (a b : Nat) : nI a * nI b = nI (a * b) := (Int32.ofNat_mul a b).symm
theorem mc_set_id (M : mc_M) (c : Nat) : mc_set M c (M c) = M := by
  funext j
  unfold mc_set
  split
  · next h => rw [h]
  · rfl
theorem mc_set_at (M : mc_M) (i : Nat) (f : Nat → Int32) (j : Nat) : mc_set M i f j = if j = i then f else M j := rfl
/-- a flow's cell and how many blocks it holds -/
def fl_is (f w : Nat) : Prop := (f = 7 ∧ w = 16) ∨ (f = 38 ∧ w = 100) ∨ (f = 51 ∧ w = 100)
def fl_bit (S : Int32) (v : Nat) : Bool := decide (¬ ((S >>> (nI v &&& 31)) &&& 1) = 0)
def fl_tw (S : Int32) (E F : Nat → Int32) (st k : Nat) : Nat → Int32 := fun v => if v < k ∧ fl_bit S v = true then F (st * 8 + v) else E v
theorem fl_tw_0 (S : Int32) (E F : Nat → Int32) (st : Nat) : fl_tw S E F st 0 = E := by
  funext v
  unfold fl_tw
  rw [if_neg (by omega)]
theorem fl_tw_z (E F : Nat → Int32) (st k : Nat) : fl_tw 0 E F st k = E := by
  funext v
  unfold fl_tw
  rw [if_neg]
  rintro ⟨-, h⟩
  simp [fl_bit] at h
theorem fl_tw_n {S : Int32} {k : Nat} (h : fl_bit S k = false) (E F : Nat → Int32) (st : Nat) : fl_tw S E F st (k + 1) = fl_tw S E F st k := by
  funext v
  unfold fl_tw
  by_cases e : v = k
  · subst e
    rw [if_neg (by rw [h]; simp), if_neg (by omega)]
  · congr 1
    apply propext
    constructor
    · rintro ⟨h1, h2⟩
      exact ⟨by omega, h2⟩
    · rintro ⟨h1, h2⟩
      exact ⟨by omega, h2⟩
theorem fl_tw_s {S : Int32} {k : Nat} (h : fl_bit S k = true) (M : mc_M) (c : Nat) (E F : Nat → Int32) (st : Nat) : mc_put (mc_set M c (fl_tw S E F st k)) c k (F (st * 8 + k)) = mc_set M c (fl_tw S E F st (k + 1)) := by
  funext j v
  rw [mc_put_at, mc_set_at, mc_set_at]
  by_cases hj : j = c
  · subst hj
    rw [if_pos rfl, if_pos rfl]
    unfold fl_tw
    by_cases e : v = k
    · subst e
      rw [if_pos ⟨rfl, rfl⟩, if_pos ⟨by omega, h⟩]
    · rw [if_neg (fun z => e z.2)]
      congr 1
      apply propext
      constructor
      · rintro ⟨h1, h2⟩
        exact ⟨by omega, h2⟩
      · rintro ⟨h1, h2⟩
        exact ⟨by omega, h2⟩
  · rw [if_neg (fun z => hj z.1), if_neg hj, if_neg hj]
section FL
variable {g : mc_G} {d n f w : Nat} {M : mc_M} {L : mc_L} {Q : Option Value → mc_M → mc_L → Prop}
theorem cF_jumpStep (hf : fl_is f w) (hd : 1 ≤ d) {x : Int32} {b j : Nat} (hx : x = nI b) (hb : b < w) (hj : M (f + 5) b = nI j) (h : ∀ r, r = nI (j * 11 + 10) → Q (some (.int r)) M L) : ctF_jumpStep g d [.ref f, .int x] n M L Q := by
  obtain ⟨d, rfl⟩ := Nat.exists_eq_add_of_le' hd
  subst hx
  have hw : w < 2 ^ 31 := by rcases hf with ⟨-, rfl⟩ | ⟨-, rfl⟩ | ⟨-, rfl⟩ <;> decide
  have v1 : vp_in (nI b) w := vp_in_nI hb hw
  have t : M (f + 5) (nI b).toNatClampNeg * 11 + 10 = nI (j * 11 + 10) := by
    rw [nI_clamp (by omega), hj]
    rw [← nI_add, ← nI_mul]
    rfl
  rcases hf with ⟨rfl, rfl⟩ | ⟨rfl, rfl⟩ | ⟨rfl, rfl⟩ <;>
  exact inF_jumpStep (Nat.le_of_ble_eq_true rfl) (fun K hK => hK.1 [] 20 0 _ _ _ _ _ ⟨v1, Nat.le_refl _, h _ t⟩)
theorem cF_setTargets (hf : fl_is f w) (hd : 1 ≤ d) {x one other : Int32} {b j : Nat} (hx : x = nI b) (hb : b < w) (hj : M (f + 5) b = nI j) (hjw : j < w) (h : ∀ M', M' = mc_put (mc_put M (f + 7) j one) (f + 8) j other → Q none M' L) : ctF_setTargets g d [.ref f, .int x, .int one, .int other] n M L Q := by
  obtain ⟨d, rfl⟩ := Nat.exists_eq_add_of_le' hd
  subst hx
  have hw : w < 2 ^ 31 := by rcases hf with ⟨-, rfl⟩ | ⟨-, rfl⟩ | ⟨-, rfl⟩ <;> decide
  have v1 : vp_in (nI b) w := vp_in_nI hb hw
  have t : M (f + 5) (nI b).toNatClampNeg = nI j := by rw [nI_clamp (by omega), hj]
  have v2 : vp_in (M (f + 5) (nI b).toNatClampNeg) w := by
    rw [t]
    exact vp_in_nI hjw hw
  have t2 : mc_put M (f + 7) (M (f + 5) (nI b).toNatClampNeg).toNatClampNeg one (f + 5) (nI b).toNatClampNeg = nI j := by
    rw [mc_put_at, if_neg (by omega), t]
  have v3 : vp_in (mc_put M (f + 7) (M (f + 5) (nI b).toNatClampNeg).toNatClampNeg one (f + 5) (nI b).toNatClampNeg) w := by
    rw [t2]
    exact vp_in_nI hjw hw
  have t3 : mc_put (mc_put M (f + 7) (M (f + 5) (nI b).toNatClampNeg).toNatClampNeg one) (f + 8) (mc_put M (f + 7) (M (f + 5) (nI b).toNatClampNeg).toNatClampNeg one (f + 5) (nI b).toNatClampNeg).toNatClampNeg other = mc_put (mc_put M (f + 7) j one) (f + 8) j other := by
    rw [t2, t, nI_clamp (by omega)]
  rcases hf with ⟨rfl, rfl⟩ | ⟨rfl, rfl⟩ | ⟨rfl, rfl⟩ <;>
  exact inF_setTargets (Nat.le_of_ble_eq_true rfl) (fun K hK => hK.1 [] 30 0 _ _ _ _ _ ⟨v1, v2, v1, v3, Nat.le_refl _, h _ t3⟩)
theorem cF_setJump (hf : fl_is f w) (hd : 2 ≤ d) {x q k : Int32} {b j : Nat} (hx : x = nI b) (hb : b < w) (hj : M (f + 5) b = nI j) (hjw : j < w) (h : ∀ M', M' = mc_put (mc_put M (f + 6) j q) (f + 10) (j * 11 + 10) k → Q none M' L) : ctF_setJump g d [.ref f, .int x, .int q, .int k] n M L Q := by
  obtain ⟨d, rfl⟩ := Nat.exists_eq_add_of_le' (show 1 ≤ d by omega)
  subst hx
  have hw : w ≤ 100 := by rcases hf with ⟨-, rfl⟩ | ⟨-, rfl⟩ | ⟨-, rfl⟩ <;> decide
  have v1 : vp_in (nI b) w := vp_in_nI hb (by omega)
  have t : M (f + 5) (nI b).toNatClampNeg = nI j := by rw [nI_clamp (by omega), hj]
  have v2 : vp_in (M (f + 5) (nI b).toNatClampNeg) w := by
    rw [t]
    exact vp_in_nI hjw (by omega)
  have hj2 : mc_put M (f + 6) (M (f + 5) (nI b).toNatClampNeg).toNatClampNeg q (f + 5) b = nI j := by
    rw [mc_put_at, if_neg (by omega), hj]
  have v3 : ∀ r, r = nI (j * 11 + 10) → vp_in r (w * 11) := fun r hr => hr ▸ vp_in_nI (by omega) (by omega)
  have t3 : ∀ r, r = nI (j * 11 + 10) → mc_put (mc_put M (f + 6) (M (f + 5) (nI b).toNatClampNeg).toNatClampNeg q) (f + 10) r.toNatClampNeg k = mc_put (mc_put M (f + 6) j q) (f + 10) (j * 11 + 10) k := fun r hr => by
    rw [hr, t, nI_clamp (by omega), nI_clamp (by omega)]
  have hf' := hf
  rcases hf with ⟨rfl, rfl⟩ | ⟨rfl, rfl⟩ | ⟨rfl, rfl⟩ <;>
  exact inF_setJump (Nat.le_of_ble_eq_true rfl) (fun K hK => hK.1 [] 30 0 _ _ _ _ _ ⟨v1, v2, cF_jumpStep hf' (by omega) rfl hb hj2 (fun r hr => ⟨v3 r hr, Nat.le_refl _, h _ (t3 r hr)⟩)⟩)
theorem cF_thaw (hf : fl_is f w) (hd : 1 ≤ d) {x : Int32} {c st : Nat} (hc : c = 24 ∨ c = 37) (hx : x = nI st) (hst : st < w * 11) (h : ∀ M', M' = mc_set M c (fl_tw (M f 1) (M c) (M (f + 12)) st 8) → Q none M' L) : ctF_thaw g d [.ref f, .int x, .ref c] n M L Q := by
  obtain ⟨d, rfl⟩ := Nat.exists_eq_add_of_le' hd
  subst hx
  have hw : w ≤ 100 := by rcases hf with ⟨-, rfl⟩ | ⟨-, rfl⟩ | ⟨-, rfl⟩ <;> decide
  have hcf : c ≠ f ∧ c ≠ f + 12 := by
    rcases hf with ⟨rfl, rfl⟩ | ⟨rfl, rfl⟩ | ⟨rfl, rfl⟩ <;> rcases hc with rfl | rfl <;> decide
  have h0 : M f 1 = 0 → Q none M L := fun z => h M (by rw [z, fl_tw_z, mc_set_id])
  have lp : ∀ (K : mc_K), mc_closed true tab0 n 0 none (shF_thaw g d) Q (fun _ _ _ => False) tbF_thaw K → ∀ (r k : Nat) (i : Int32) (M' : mc_M), r + k = 8 → i = nI k → M' = mc_set M c (fl_tw (M f 1) (M c) (M (f + 12)) st k) → K 10 [some (.ref f), some (.int (nI st)), some (.ref c), some (.int i)] [] n M' L := by
    intro K hK r
    induction r with
    | zero =>
      intro k i M' hk hi hM
      subst hi
      have hk8 : k = 8 := by omega
      subst hk8
      have t := h M' hM
      rcases hf with ⟨rfl, rfl⟩ | ⟨rfl, rfl⟩ | ⟨rfl, rfl⟩ <;>
      exact hK.1 [10] 20 10 _ _ _ _ _ ⟨fun _ => ⟨Nat.le_refl _, t⟩, fun z => absurd (nI_le (a := 8) (b := 8) (Nat.le_refl _) (by decide)) z⟩
    | succ r ih =>
      intro k i M' hk hi hM
      subst hi
      have e1 : (nI k).toNatClampNeg = k := nI_clamp (by omega)
      have s1 : M' f 1 = M f 1 := by rw [hM, mc_set_n (Ne.symm hcf.1)]
      have s2 : M' (f + 12) = M (f + 12) := by rw [hM, mc_set_n (Ne.symm hcf.2)]
      have ix : nI st * 8 + nI k = nI (st * 8 + k) := by
        rw [← nI_add, ← nI_mul]
        rfl
      have v1 : vp_in (nI st * 8 + nI k) (w * 11 * 8) := by
        rw [ix]
        exact vp_in_nI (by omega) (by omega)
      have v2 : vp_in (nI k) 8 := vp_in_nI (by omega) (by decide)
      have b0 : ((M' f 1 >>> (nI k &&& 31)) &&& 1) = 0 → M' = mc_set M c (fl_tw (M f 1) (M c) (M (f + 12)) st (k + 1)) := fun z => by
        rw [s1] at z
        rw [hM, fl_tw_n (by simp [fl_bit, z])]
      have b1 : ¬ ((M' f 1 >>> (nI k &&& 31)) &&& 1) = 0 → mc_put M' c (nI k).toNatClampNeg (M' (f + 12) (nI st * 8 + nI k).toNatClampNeg) = mc_set M c (fl_tw (M f 1) (M c) (M (f + 12)) st (k + 1)) := fun z => by
        rw [s1] at z
        rw [s2, ix, e1, nI_clamp (by omega), hM]
        exact fl_tw_s (by simp [fl_bit, z]) M c _ _ st
      have ih' := fun M' => ih (k + 1) (nI k + 1) M' (by omega) (nI_1 k)
      rcases hf with ⟨rfl, rfl⟩ | ⟨rfl, rfl⟩ | ⟨rfl, rfl⟩ <;> rcases hc with rfl | rfl <;>
      exact hK.1 [10] 30 10 _ _ _ _ _ ⟨fun z => absurd z (nI_ge (a := k) (b := 8) (by omega) (by decide)), fun _ => ⟨fun z => ih' _ (b0 z), fun z => ⟨v1, v2, ih' _ (b1 z)⟩⟩⟩
  have lp' := fun K hK => lp K hK 8 0 0 M rfl rfl (by rw [fl_tw_0, mc_set_id])
  rcases hf with ⟨rfl, rfl⟩ | ⟨rfl, rfl⟩ | ⟨rfl, rfl⟩ <;> rcases hc with rfl | rfl <;>
  exact inF_thaw (Nat.le_of_ble_eq_true rfl) (fun K hK => hK.1 [10] 20 0 _ _ _ _ _ ⟨fun _ => lp' K hK, fun z => ⟨Nat.le_refl _, h0 z⟩⟩)
end FL
