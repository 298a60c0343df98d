/-! Flow -/
theorem nI_mul (a b : Nat) : nI a * nI b = nI (a * b) := (Int32.ofNat_mul a b).symm
theorem mc_set_id (M : mc_M) (c : Nat) : mc_set M c (M c) = M := by
  funext j
  unfold mc_set
  split
  · next h => rw [h]
  · rfl
theorem mc_set_at (M : mc_M) (i : Nat) (f : Nat → Int32) (j : Nat) : mc_set M i f j = if j = i then f else M j := rfl
/-- a flow's cell and how many blocks it holds -/
def fl_is (f w : Nat) : Prop := (f = 7 ∧ w = 16) ∨ (f = 38 ∧ w = 100) ∨ (f = 51 ∧ w = 100)
def fl_bit (S : Int32) (v : Nat) : Bool := decide (¬ ((S >>> (nI v &&& 31)) &&& 1) = 0)
def fl_tw (S : Int32) (E F : Nat → Int32) (st k : Nat) : Nat → Int32 := fun v => if v < k ∧ fl_bit S v = true then F (st * 8 + v) else E v
theorem fl_tw_0 (S : Int32) (E F : Nat → Int32) (st : Nat) : fl_tw S E F st 0 = E := by
  funext v
  unfold fl_tw
  rw [if_neg (by omega)]
theorem fl_tw_z (E F : Nat → Int32) (st k : Nat) : fl_tw 0 E F st k = E := by
  funext v
  unfold fl_tw
  rw [if_neg]
  rintro ⟨-, h⟩
  simp [fl_bit] at h
theorem fl_tw_n {S : Int32} {k : Nat} (h : fl_bit S k = false) (E F : Nat → Int32) (st : Nat) : fl_tw S E F st (k + 1) = fl_tw S E F st k := by
  funext v
  unfold fl_tw
  by_cases e : v = k
  · subst e
    rw [if_neg (by rw [h]; simp), if_neg (by omega)]
  · congr 1
    apply propext
    constructor
    · rintro ⟨h1, h2⟩
      exact ⟨by omega, h2⟩
    · rintro ⟨h1, h2⟩
      exact ⟨by omega, h2⟩
theorem fl_tw_s {S : Int32} {k : Nat} (h : fl_bit S k = true) (M : mc_M) (c : Nat) (E F : Nat → Int32) (st : Nat) : mc_put (mc_set M c (fl_tw S E F st k)) c k (F (st * 8 + k)) = mc_set M c (fl_tw S E F st (k + 1)) := by
  funext j v
  rw [mc_put_at, mc_set_at, mc_set_at]
  by_cases hj : j = c
  · subst hj
    rw [if_pos rfl, if_pos rfl]
    unfold fl_tw
    by_cases e : v = k
    · subst e
      rw [if_pos ⟨rfl, rfl⟩, if_pos ⟨by omega, h⟩]
    · rw [if_neg (fun z => e z.2)]
      congr 1
      apply propext
      constructor
      · rintro ⟨h1, h2⟩
        exact ⟨by omega, h2⟩
      · rintro ⟨h1, h2⟩
        exact ⟨by omega, h2⟩
  · rw [if_neg (fun z => hj z.1), if_neg hj, if_neg hj]
section FL
variable {g : mc_G} {d n f w : Nat} {M : mc_M} {L : mc_L} {Q : Option Value → mc_M → mc_L → Prop}
theorem cF_jumpStep (hf : fl_is f w) (hd : 1 ≤ d) {x : Int32} {b j : Nat} (hx : x = nI b) (hb : b < w) (hj : M (f + 5) b = nI j) (h : ∀ r, r = nI (j * 11 + 10) → Q (some (.int r)) M L) : ctF_jumpStep g d [.ref f, .int x] n M L Q := by
  obtain ⟨d, rfl⟩ := Nat.exists_eq_add_of_le' hd
  subst hx
  have hw : w < 2 ^ 31 := by rcases hf with ⟨-, rfl⟩ | ⟨-, rfl⟩ | ⟨-, rfl⟩ <;> decide
  have v1 : vp_in (nI b) w := vp_in_nI hb hw
  have t : M (f + 5) (nI b).toNatClampNeg * 11 + 10 = nI (j * 11 + 10) := by
    rw [nI_clamp (by omega), hj]
    rw [← nI_add, ← nI_mul]
    rfl
  rcases hf with ⟨rfl, rfl⟩ | ⟨rfl, rfl⟩ | ⟨rfl, rfl⟩ <;>
  exact inF_jumpStep (Nat.le_of_ble_eq_true rfl) (fun K hK => hK.1 [] 20 0 _ _ _ _ _ ⟨v1, Nat.le_refl _, h _ t⟩)
theorem cF_setTargets (hf : fl_is f w) (hd : 1 ≤ d) {x one other : Int32} {b j : Nat} (hx : x = nI b) (hb : b < w) (hj : M (f + 5) b = nI j) (hjw : j < w) (h : ∀ M', M' = mc_put (mc_put M (f + 7) j one) (f + 8) j other → Q none M' L) : ctF_setTargets g d [.ref f, .int x, .int one, .int other] n M L Q := by
  obtain ⟨d, rfl⟩ := Nat.exists_eq_add_of_le' hd
  subst hx
  have hw : w < 2 ^ 31 := by rcases hf with ⟨-, rfl⟩ | ⟨-, rfl⟩ | ⟨-, rfl⟩ <;> decide
  have v1 : vp_in (nI b) w := vp_in_nI hb hw
  have t : M (f + 5) (nI b).toNatClampNeg = nI j := by rw [nI_clamp (by omega), hj]
  have v2 : vp_in (M (f + 5) (nI b).toNatClampNeg) w := by
    rw [t]
    exact vp_in_nI hjw hw
  have t2 : mc_put M (f + 7) (M (f + 5) (nI b).toNatClampNeg).toNatClampNeg one (f + 5) (nI b).toNatClampNeg = nI j := by
    rw [mc_put_at, if_neg (by omega), t]
  have v3 : vp_in (mc_put M (f + 7) (M (f + 5) (nI b).toNatClampNeg).toNatClampNeg one (f + 5) (nI b).toNatClampNeg) w := by
    rw [t2]
    exact vp_in_nI hjw hw
  have t3 : mc_put (mc_put M (f + 7) (M (f + 5) (nI b).toNatClampNeg).toNatClampNeg one) (f + 8) (mc_put M (f + 7) (M (f + 5) (nI b).toNatClampNeg).toNatClampNeg one (f + 5) (nI b).toNatClampNeg).toNatClampNeg other = mc_put (mc_put M (f + 7) j one) (f + 8) j other := by
    rw [t2, t, nI_clamp (by omega)]
  rcases hf with ⟨rfl, rfl⟩ | ⟨rfl, rfl⟩ | ⟨rfl, rfl⟩ <;>
  exact inF_setTargets (Nat.le_of_ble_eq_true rfl) (fun K hK => hK.1 [] 30 0 _ _ _ _ _ ⟨v1, v2, v1, v3, Nat.le_refl _, h _ t3⟩)
theorem cF_setJump (hf : fl_is f w) (hd : 2 ≤ d) {x q k : Int32} {b j : Nat} (hx : x = nI b) (hb : b < w) (hj : M (f + 5) b = nI j) (hjw : j < w) (h : ∀ M', M' = mc_put (mc_put M (f + 6) j q) (f + 10) (j * 11 + 10) k → Q none M' L) : ctF_setJump g d [.ref f, .int x, .int q, .int k] n M L Q := by
  obtain ⟨d, rfl⟩ := Nat.exists_eq_add_of_le' (show 1 ≤ d by omega)
  subst hx
  have hw : w ≤ 100 := by rcases hf with ⟨-, rfl⟩ | ⟨-, rfl⟩ | ⟨-, rfl⟩ <;> decide
  have v1 : vp_in (nI b) w := vp_in_nI hb (by omega)
  have t : M (f + 5) (nI b).toNatClampNeg = nI j := by rw [nI_clamp (by omega), hj]
  have v2 : vp_in (M (f + 5) (nI b).toNatClampNeg) w := by
    rw [t]
    exact vp_in_nI hjw (by omega)
  have hj2 : mc_put M (f + 6) (M (f + 5) (nI b).toNatClampNeg).toNatClampNeg q (f + 5) b = nI j := by
    rw [mc_put_at, if_neg (by omega), hj]
  have v3 : ∀ r, r = nI (j * 11 + 10) → vp_in r (w * 11) := fun r hr => hr ▸ vp_in_nI (by omega) (by omega)
  have t3 : ∀ r, r = nI (j * 11 + 10) → mc_put (mc_put M (f + 6) (M (f + 5) (nI b).toNatClampNeg).toNatClampNeg q) (f + 10) r.toNatClampNeg k = mc_put (mc_put M (f + 6) j q) (f + 10) (j * 11 + 10) k := fun r hr => by
    rw [hr, t, nI_clamp (by omega), nI_clamp (by omega)]
  have hf' := hf
  rcases hf with ⟨rfl, rfl⟩ | ⟨rfl, rfl⟩ | ⟨rfl, rfl⟩ <;>
  exact inF_setJump (Nat.le_of_ble_eq_true rfl) (fun K hK => hK.1 [] 30 0 _ _ _ _ _ ⟨v1, v2, cF_jumpStep hf' (by omega) rfl hb hj2 (fun r hr => ⟨v3 r hr, Nat.le_refl _, h _ (t3 r hr)⟩)⟩)
theorem cF_thaw (hf : fl_is f w) (hd : 1 ≤ d) {x : Int32} {c st : Nat} (hc : c = 24 ∨ c = 37) (hx : x = nI st) (hst : st < w * 11) (h : ∀ M', M' = mc_set M c (fl_tw (M f 1) (M c) (M (f + 12)) st 8) → Q none M' L) : ctF_thaw g d [.ref f, .int x, .ref c] n M L Q := by
  obtain ⟨d, rfl⟩ := Nat.exists_eq_add_of_le' hd
  subst hx
  have hw : w ≤ 100 := by rcases hf with ⟨-, rfl⟩ | ⟨-, rfl⟩ | ⟨-, rfl⟩ <;> decide
  have hcf : c ≠ f ∧ c ≠ f + 12 := by
    rcases hf with ⟨rfl, rfl⟩ | ⟨rfl, rfl⟩ | ⟨rfl, rfl⟩ <;> rcases hc with rfl | rfl <;> decide
  have h0 : M f 1 = 0 → Q none M L := fun z => h M (by rw [z, fl_tw_z, mc_set_id])
  have lp : ∀ (K : mc_K), mc_closed true tab0 n 0 none (shF_thaw g d) Q (fun _ _ _ => False) tbF_thaw K → ∀ (r k : Nat) (i : Int32) (M' : mc_M), r + k = 8 → i = nI k → M' = mc_set M c (fl_tw (M f 1) (M c) (M (f + 12)) st k) → K 10 [some (.ref f), some (.int (nI st)), some (.ref c), some (.int i)] [] n M' L := by
    intro K hK r
    induction r with
    | zero =>
      intro k i M' hk hi hM
      subst hi
      have hk8 : k = 8 := by omega
      subst hk8
      have t := h M' hM
      rcases hf with ⟨rfl, rfl⟩ | ⟨rfl, rfl⟩ | ⟨rfl, rfl⟩ <;>
      exact hK.1 [10] 20 10 _ _ _ _ _ ⟨fun _ => ⟨Nat.le_refl _, t⟩, fun z => absurd (nI_le (a := 8) (b := 8) (Nat.le_refl _) (by decide)) z⟩
    | succ r ih =>
      intro k i M' hk hi hM
      subst hi
      have e1 : (nI k).toNatClampNeg = k := nI_clamp (by omega)
      have s1 : M' f 1 = M f 1 := by rw [hM, mc_set_n (Ne.symm hcf.1)]
      have s2 : M' (f + 12) = M (f + 12) := by rw [hM, mc_set_n (Ne.symm hcf.2)]
      have ix : nI st * 8 + nI k = nI (st * 8 + k) := by
        rw [← nI_add, ← nI_mul]
        rfl
      have v1 : vp_in (nI st * 8 + nI k) (w * 11 * 8) := by
        rw [ix]
        exact vp_in_nI (by omega) (by omega)
      have v2 : vp_in (nI k) 8 := vp_in_nI (by omega) (by decide)
      have b0 : ((M' f 1 >>> (nI k &&& 31)) &&& 1) = 0 → M' = mc_set M c (fl_tw (M f 1) (M c) (M (f + 12)) st (k + 1)) := fun z => by
        rw [s1] at z
        rw [hM, fl_tw_n (by simp [fl_bit, z])]
      have b1 : ¬ ((M' f 1 >>> (nI k &&& 31)) &&& 1) = 0 → mc_put M' c (nI k).toNatClampNeg (M' (f + 12) (nI st * 8 + nI k).toNatClampNeg) = mc_set M c (fl_tw (M f 1) (M c) (M (f + 12)) st (k + 1)) := fun z => by
        rw [s1] at z
        rw [s2, ix, e1, nI_clamp (by omega), hM]
        exact fl_tw_s (by simp [fl_bit, z]) M c _ _ st
      have ih' := fun M' => ih (k + 1) (nI k + 1) M' (by omega) (nI_1 k)
      rcases hf with ⟨rfl, rfl⟩ | ⟨rfl, rfl⟩ | ⟨rfl, rfl⟩ <;> rcases hc with rfl | rfl <;>
      exact hK.1 [10] 30 10 _ _ _ _ _ ⟨fun z => absurd z (nI_ge (a := k) (b := 8) (by omega) (by decide)), fun _ => ⟨fun z => ih' _ (b0 z), fun z => ⟨v1, v2, ih' _ (b1 z)⟩⟩⟩
  have lp' := fun K hK => lp K hK 8 0 0 M rfl rfl (by rw [fl_tw_0, mc_set_id])
  rcases hf with ⟨rfl, rfl⟩ | ⟨rfl, rfl⟩ | ⟨rfl, rfl⟩ <;> rcases hc with rfl | rfl <;>
  exact inF_thaw (Nat.le_of_ble_eq_true rfl) (fun K hK => hK.1 [10] 20 0 _ _ _ _ _ ⟨fun _ => lp' K hK, fun z => ⟨Nat.le_refl _, h0 z⟩⟩)
def fl_empty (M : mc_M) (f b : Nat) (o : Int32) : mc_M := mc_put (mc_put (mc_put (mc_put (mc_put (mc_put (mc_put M (f + 1) b o) (f + 2) b 0) (f + 5) b (nI b)) (f + 6) b 2) (f + 10) (b * 11 + 10) 150) (f + 7) b (-1)) (f + 8) b (-1)
theorem cF_makeEmpty (hf : fl_is f w) (hd : 3 ≤ d) {x o : Int32} {b : Nat} (hx : x = nI b) (hb : b < w) (h : ∀ M', M' = fl_empty M f b o → Q none M' L) : ctF_makeEmpty g d [.ref f, .int x, .int o] n M L Q := by
  obtain ⟨d, rfl⟩ := Nat.exists_eq_add_of_le' (show 1 ≤ d by omega)
  subst hx
  have hw : w ≤ 100 := by rcases hf with ⟨-, rfl⟩ | ⟨-, rfl⟩ | ⟨-, rfl⟩ <;> decide
  have v1 : vp_in (nI b) w := vp_in_nI hb (by omega)
  have e1 : (nI b).toNatClampNeg = b := nI_clamp (by omega)
  have hj1 : mc_put (mc_put (mc_put M (f + 1) (nI b).toNatClampNeg o) (f + 2) (nI b).toNatClampNeg 0) (f + 5) (nI b).toNatClampNeg (nI b) (f + 5) b = nI b := by
    rw [mc_put_at, if_pos ⟨rfl, e1.symm⟩]
  have hj2 : ∀ M', M' = mc_put (mc_put (mc_put (mc_put (mc_put M (f + 1) (nI b).toNatClampNeg o) (f + 2) (nI b).toNatClampNeg 0) (f + 5) (nI b).toNatClampNeg (nI b)) (f + 6) b 2) (f + 10) (b * 11 + 10) 150 → M' (f + 5) b = nI b := fun M' hM => by
    rw [hM, mc_put_at, if_neg (by omega), mc_put_at, if_neg (by omega), hj1]
  have t : ∀ M1 M2, M1 = mc_put (mc_put (mc_put (mc_put (mc_put M (f + 1) (nI b).toNatClampNeg o) (f + 2) (nI b).toNatClampNeg 0) (f + 5) (nI b).toNatClampNeg (nI b)) (f + 6) b 2) (f + 10) (b * 11 + 10) 150 → M2 = mc_put (mc_put M1 (f + 7) b (-1)) (f + 8) b (-1) → M2 = fl_empty M f b o := fun M1 M2 h1 h2 => by
    rw [h2, h1, e1]
    rfl
  have hf' := hf
  rcases hf with ⟨rfl, rfl⟩ | ⟨rfl, rfl⟩ | ⟨rfl, rfl⟩ <;>
  exact inF_makeEmpty (Nat.le_of_ble_eq_true rfl) (fun K hK => hK.1 [] 40 0 _ _ _ _ _ ⟨v1, v1, v1, cF_setJump hf' (by omega) rfl hb hj1 hb (fun M1 z1 => cF_setTargets hf' (by omega) rfl hb (hj2 M1 z1) hb (fun M2 z2 => ⟨Nat.le_refl _, h _ (t M1 M2 z1 z2)⟩))⟩)
theorem cF_freeze (hf : fl_is f w) (hd : 1 ≤ d) {x : Int32} {st : Nat} (hx : x = nI st) (hst : st < w * 11) (h : ∀ M', M' = mc_set M (f + 12) (va_cpy (M 29) (M (f + 12)) 0 (st * 8) 8) → Q none M' L) : ctF_freeze g d [.ref f, .int x, .ref 29] n M L Q := by
  obtain ⟨d, rfl⟩ := Nat.exists_eq_add_of_le' hd
  subst hx
  have hw : w ≤ 100 := by rcases hf with ⟨-, rfl⟩ | ⟨-, rfl⟩ | ⟨-, rfl⟩ <;> decide
  have ix : nI st * 8 = nI (st * 8) := nI_mul st 8
  have v1 : ¬ nI st * 8 < 0 := by
    rw [ix]
    exact nI_pos (by omega)
  have e1 : (nI st * 8).toNatClampNeg = st * 8 := by rw [ix, nI_clamp (by omega)]
  have v2 : (nI st * 8).toNatClampNeg + (8 : Int32).toNatClampNeg ≤ w * 11 * 8 := by
    rw [e1]
    show st * 8 + 8 ≤ _
    omega
  have t : mc_set M (f + 12) (va_cpy (M 29) (M (f + 12)) (0 : Int32).toNatClampNeg (nI st * 8).toNatClampNeg (8 : Int32).toNatClampNeg) = mc_set M (f + 12) (va_cpy (M 29) (M (f + 12)) 0 (st * 8) 8) := by
    rw [e1]
    rfl
  rcases hf with ⟨rfl, rfl⟩ | ⟨rfl, rfl⟩ | ⟨rfl, rfl⟩ <;>
  exact inF_freeze (Nat.le_of_ble_eq_true rfl) (fun K hK => hK.1 [] 40 0 _ _ _ _ _ ⟨by decide, v1, by decide, by decide, v2, Nat.le_refl _, h _ t⟩)
def fl_app (M : mc_M) (f b c l : Nat) (v k : Int32) : mc_M := mc_put (mc_put (if c = 0 then mc_put (mc_put (mc_put M (f + 9) (b * 11 + c) v) (f + 10) (b * 11 + c) k) (f + 3) b (nI (b * 11 + c)) else mc_put (mc_put (mc_put M (f + 9) (b * 11 + c) v) (f + 10) (b * 11 + c) k) (f + 11) l (nI (b * 11 + c))) (f + 4) b (nI (b * 11 + c))) (f + 2) b (nI (c + 1))
theorem cF_append (hf : fl_is f w) (hd : 1 ≤ d) {x v k : Int32} {b c l : Nat} (hx : x = nI b) (hb : b < w) (hc : M (f + 2) b = nI c) (hc10 : c ≤ 10) (hl : 0 < c → M (f + 4) b = nI l ∧ l < w * 11) (h : ∀ r M', r = nI (b * 11 + c) → M' = fl_app M f b c l v k → Q (some (.int r)) M' L) : ctF_append g d [.ref f, .int x, .int v, .int k] n M L Q := by
  obtain ⟨d, rfl⟩ := Nat.exists_eq_add_of_le' hd
  subst hx
  have hw : w ≤ 100 := by rcases hf with ⟨-, rfl⟩ | ⟨-, rfl⟩ | ⟨-, rfl⟩ <;> decide
  have v1 : vp_in (nI b) w := vp_in_nI hb (by omega)
  have e1 : (nI b).toNatClampNeg = b := nI_clamp (by omega)
  have st : nI b * 11 + M (f + 2) (nI b).toNatClampNeg = nI (b * 11 + c) := by
    rw [e1, hc, ← nI_add, ← nI_mul]
    rfl
  have v2 : vp_in (nI b * 11 + M (f + 2) (nI b).toNatClampNeg) (w * 11) := by
    rw [st]
    exact vp_in_nI (by omega) (by omega)
  have hM : ∀ M2, M2 = mc_put (mc_put M (f + 9) (nI b * 11 + M (f + 2) (nI b).toNatClampNeg).toNatClampNeg v) (f + 10) (nI b * 11 + M (f + 2) (nI b).toNatClampNeg).toNatClampNeg k → M2 = mc_put (mc_put M (f + 9) (b * 11 + c) v) (f + 10) (b * 11 + c) k := fun M2 h2 => by
    rw [h2, st, nI_clamp (by omega)]
  have q2 : ∀ M2, M2 = mc_put (mc_put M (f + 9) (nI b * 11 + M (f + 2) (nI b).toNatClampNeg).toNatClampNeg v) (f + 10) (nI b * 11 + M (f + 2) (nI b).toNatClampNeg).toNatClampNeg k → M2 (f + 2) (nI b).toNatClampNeg = nI c ∧ M2 (f + 4) (nI b).toNatClampNeg = M (f + 4) b := fun M2 h2 => by
    rw [h2]
    refine ⟨?_, ?_⟩
    · rw [mc_put_at, if_neg (by omega), mc_put_at, if_neg (by omega), e1, hc]
    · rw [mc_put_at, if_neg (by omega), mc_put_at, if_neg (by omega), e1]
  have c0 : ∀ M2, M2 = mc_put (mc_put M (f + 9) (nI b * 11 + M (f + 2) (nI b).toNatClampNeg).toNatClampNeg v) (f + 10) (nI b * 11 + M (f + 2) (nI b).toNatClampNeg).toNatClampNeg k → ∀ M3, M3 = mc_put (mc_put M2 (f + 3) (nI b).toNatClampNeg (nI b * 11 + M (f + 2) (nI b).toNatClampNeg)) (f + 4) (nI b).toNatClampNeg (nI b * 11 + M (f + 2) (nI b).toNatClampNeg) → c = 0 → mc_put M3 (f + 2) (nI b).toNatClampNeg (M3 (f + 2) (nI b).toNatClampNeg + 1) = fl_app M f b c l v k := fun M2 h2 M3 h3 hc0 => by
    have a1 : M3 (f + 2) (nI b).toNatClampNeg = nI c := by
      rw [h3, mc_put_at, if_neg (by omega), mc_put_at, if_neg (by omega)]
      exact (q2 M2 h2).1
    rw [a1, nI_1, h3, hM M2 h2, st, e1]
    unfold fl_app
    rw [if_pos hc0]
  have c1 : ∀ M2, M2 = mc_put (mc_put M (f + 9) (nI b * 11 + M (f + 2) (nI b).toNatClampNeg).toNatClampNeg v) (f + 10) (nI b * 11 + M (f + 2) (nI b).toNatClampNeg).toNatClampNeg k → ∀ M3, M3 = mc_put (mc_put M2 (f + 11) (M2 (f + 4) (nI b).toNatClampNeg).toNatClampNeg (nI b * 11 + M (f + 2) (nI b).toNatClampNeg)) (f + 4) (nI b).toNatClampNeg (nI b * 11 + M (f + 2) (nI b).toNatClampNeg) → 0 < c → mc_put M3 (f + 2) (nI b).toNatClampNeg (M3 (f + 2) (nI b).toNatClampNeg + 1) = fl_app M f b c l v k := fun M2 h2 M3 h3 hc0 => by
    have a1 : M3 (f + 2) (nI b).toNatClampNeg = nI c := by
      rw [h3, mc_put_at, if_neg (by omega), mc_put_at, if_neg (by omega)]
      exact (q2 M2 h2).1
    obtain ⟨a2, a3⟩ := hl hc0
    rw [a1, nI_1, h3, (q2 M2 h2).2, a2, hM M2 h2, st, e1, nI_clamp (by omega)]
    unfold fl_app
    rw [if_neg (by omega)]
  have v3 : ∀ M2, M2 = mc_put (mc_put M (f + 9) (nI b * 11 + M (f + 2) (nI b).toNatClampNeg).toNatClampNeg v) (f + 10) (nI b * 11 + M (f + 2) (nI b).toNatClampNeg).toNatClampNeg k → 0 < c → vp_in (M2 (f + 4) (nI b).toNatClampNeg) (w * 11) := fun M2 h2 hc0 => by
    obtain ⟨a2, a3⟩ := hl hc0
    rw [(q2 M2 h2).2, a2]
    exact vp_in_nI a3 (by omega)
  have n0 : ∀ M2, M2 = mc_put (mc_put M (f + 9) (nI b * 11 + M (f + 2) (nI b).toNatClampNeg).toNatClampNeg v) (f + 10) (nI b * 11 + M (f + 2) (nI b).toNatClampNeg).toNatClampNeg k → M2 (f + 2) (nI b).toNatClampNeg = 0 → c = 0 := fun M2 h2 z => by
    rw [(q2 M2 h2).1] at z
    exact (nI_eq (b := 0) (by omega) (by decide)).mp z
  have n1 : ∀ M2, M2 = mc_put (mc_put M (f + 9) (nI b * 11 + M (f + 2) (nI b).toNatClampNeg).toNatClampNeg v) (f + 10) (nI b * 11 + M (f + 2) (nI b).toNatClampNeg).toNatClampNeg k → ¬ M2 (f + 2) (nI b).toNatClampNeg = 0 → 0 < c := fun M2 h2 z => by
    rw [(q2 M2 h2).1] at z
    exact Nat.pos_of_ne_zero (fun y => z (by rw [y]; rfl))
  have h' := fun M3 hz => h _ M3 st hz
  rcases hf with ⟨rfl, rfl⟩ | ⟨rfl, rfl⟩ | ⟨rfl, rfl⟩ <;>
  exact inF_append (Nat.le_of_ble_eq_true rfl) (fun K hK => hK.1 [] 60 0 _ _ _ _ _ ⟨v1, v2, v2, v1, fun z => ⟨v1, v3 _ rfl (n1 _ rfl z), v1, v1, v1, Nat.le_refl _, h' _ (c1 _ rfl _ rfl (n1 _ rfl z))⟩, fun z => ⟨v1, v1, v1, v1, Nat.le_refl _, h' _ (c0 _ rfl _ rfl (n0 _ rfl z))⟩⟩)
end FL
