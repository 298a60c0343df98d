/-! The model's small methods -/
section RL
variable {g : mc_G} {d n : Nat} {M : mc_M} {L : mc_L} {Q : Option Value → mc_M → mc_L → Prop}
theorem cR_thrown (hd : 1 ≤ d) (h : Q (some (.int (M 64 0))) M L) : ctR_thrown g d [.ref 64] n M L Q := by
  obtain ⟨d, rfl⟩ := Nat.exists_eq_add_of_le' hd
  exact inR_thrown (Nat.le_of_ble_eq_true rfl) (fun K hK => hK.1 [] 20 0 _ _ _ _ _ ⟨Nat.le_refl _, h⟩)
theorem cR_within {x lo hi : Int32} (hd : 1 ≤ d) (h1 : lo ≤ x → x ≤ hi → Q (some (.int 1)) M L) (h0 : ¬ (lo ≤ x ∧ x ≤ hi) → Q (some (.int 0)) M L) : ctR_within g d [.int x, .int lo, .int hi] n M L Q := by
  obtain ⟨d, rfl⟩ := Nat.exists_eq_add_of_le' hd
  exact inR_within (Nat.le_of_ble_eq_true rfl) (fun K hK => hK.1 [] 20 0 _ _ _ _ _ ⟨fun z => ⟨Or.inl rfl, Nat.le_refl _, h0 (fun w => absurd z (Int32.not_lt.mpr w.1))⟩, fun z => ⟨fun z1 => ⟨Or.inl rfl, Nat.le_refl _, h0 (fun w => absurd z1 (Int32.not_lt.mpr w.2))⟩, fun z1 => ⟨Or.inr rfl, Nat.le_refl _, h1 (Int32.not_lt.mp z) (Int32.not_lt.mp z1)⟩⟩⟩)
theorem cR_isBlock {x : Int32} (hd : 1 ≤ d) (h1 : ∀ j, j < 16 → x = nI j → Q (some (.int 1)) M L) (h0 : (∀ j, j < 16 → x ≠ nI j) → Q (some (.int 0)) M L) : ctR_isBlock g d [.int x] n M L Q := by
  obtain ⟨d, rfl⟩ := Nat.exists_eq_add_of_le' hd
  refine inR_isBlock (Nat.le_of_ble_eq_true rfl) (fun K hK => hK.1 [] 20 0 _ _ _ _ _ ⟨fun a => ⟨Or.inl rfl, Nat.le_refl _, h0 (fun j hj hx => nI_pos (by omega) (hx ▸ a))⟩, fun a => ⟨fun a2 => ⟨Or.inl rfl, Nat.le_refl _, h0 (fun j hj hx => nI_ge hj (by decide) (hx ▸ a2))⟩, fun a2 => ⟨Or.inr rfl, Nat.le_refl _, ?_⟩⟩⟩)
  obtain ⟨j, hj, hx⟩ := nI_lt_of (m := 16) (by decide) a a2
  exact h1 j hj hx
theorem cR_isVariable {x : Int32} (hd : 1 ≤ d) (h1 : ∀ j, j < 8 → x = nI j → Q (some (.int 1)) M L) (h0 : (∀ j, j < 8 → x ≠ nI j) → Q (some (.int 0)) M L) : ctR_isVariable g d [.int x] n M L Q := by
  obtain ⟨d, rfl⟩ := Nat.exists_eq_add_of_le' hd
  refine inR_isVariable (Nat.le_of_ble_eq_true rfl) (fun K hK => hK.1 [] 20 0 _ _ _ _ _ ⟨fun a => ⟨Or.inl rfl, Nat.le_refl _, h0 (fun j hj hx => nI_pos (by omega) (hx ▸ a))⟩, fun a => ⟨fun a2 => ⟨Or.inl rfl, Nat.le_refl _, h0 (fun j hj hx => nI_ge hj (by decide) (hx ▸ a2))⟩, fun a2 => ⟨Or.inr rfl, Nat.le_refl _, ?_⟩⟩⟩)
  obtain ⟨j, hj, hx⟩ := nI_lt_of (m := 8) (by decide) a a2
  exact h1 j hj hx
theorem cR_isNode {x : Int32} {m : Nat} (hd : 1 ≤ d) (hm : M 64 1 = nI m) (hm1 : m ≤ 150) (h1 : ∀ j, j < m → x = nI j → Q (some (.int 1)) M L) (h0 : (∀ j, j < m → x ≠ nI j) → Q (some (.int 0)) M L) : ctR_isNode g d [.ref 64, .int x] n M L Q := by
  obtain ⟨d, rfl⟩ := Nat.exists_eq_add_of_le' hd
  refine inR_isNode (Nat.le_of_ble_eq_true rfl) (fun K hK => hK.1 [] 20 0 _ _ _ _ _ ⟨fun a => ⟨Or.inl rfl, Nat.le_refl _, h0 (fun j hj hx => nI_pos (by omega) (hx ▸ a))⟩, fun a => ⟨fun a2 => ⟨Or.inl rfl, Nat.le_refl _, h0 (fun j hj hx => nI_ge hj (by omega) (by rw [hx, hm] at a2; exact a2))⟩, fun a2 => ⟨Or.inr rfl, Nat.le_refl _, ?_⟩⟩⟩)
  obtain ⟨j, hj, hx⟩ := nI_lt_of (m := m) (by omega) a (by rw [← hm]; exact a2)
  exact h1 j hj hx
theorem cR_goes {one two : Bool} {x y : Int32} (hx : x = bI one) (hy : y = bI two) (hd : 1 ≤ d) (h0 : one = true → two = true → ∀ M', M' = mc_put M 64 0 0 → Q (some (.int 1)) M' L) (h1 : one = false → ∀ M', M' = mc_put M 64 0 1 → Q (some (.int 0)) M' L) (h2 : one = true → two = false → ∀ M', M' = mc_put M 64 0 2 → Q (some (.int 0)) M' L) : ctR_goes g d [.ref 64, .int x, .int y] n M L Q := by
  obtain ⟨d, rfl⟩ := Nat.exists_eq_add_of_le' hd
  have g0 : mc_put M 64 0 0 64 0 = 0 := by rw [mc_put_at, if_pos ⟨rfl, rfl⟩]
  have g1 : ¬ mc_put M 64 0 1 64 0 = 0 := by rw [mc_put_at, if_pos ⟨rfl, rfl⟩]; decide
  have g2 : ¬ mc_put M 64 0 2 64 0 = 0 := by rw [mc_put_at, if_pos ⟨rfl, rfl⟩]; decide
  cases one with
  | false =>
    have hx' : x = 0 := hx
    subst hx'
    exact inR_goes (Nat.le_of_ble_eq_true rfl) (fun K hK => hK.1 [] 30 0 _ _ _ _ _ ⟨fun z => absurd rfl z, fun _ => ⟨fun _ => ⟨Or.inl rfl, Nat.le_refl _, h1 rfl _ rfl⟩, fun z => absurd z g1⟩⟩)
  | true =>
    have hx' : x = 1 := hx
    subst hx'
    cases two with
    | false =>
      have hy' : y = 0 := hy
      subst hy'
      exact inR_goes (Nat.le_of_ble_eq_true rfl) (fun K hK => hK.1 [] 30 0 _ _ _ _ _ ⟨fun _ => ⟨fun z => absurd rfl z, fun _ => ⟨fun _ => ⟨Or.inl rfl, Nat.le_refl _, h2 rfl rfl _ rfl⟩, fun z => absurd z g2⟩⟩, fun z => absurd z (by decide)⟩)
    | true =>
      have hy' : y = 1 := hy
      subst hy'
      exact inR_goes (Nat.le_of_ble_eq_true rfl) (fun K hK => hK.1 [] 30 0 _ _ _ _ _ ⟨fun _ => ⟨fun _ => ⟨fun z => absurd g0 z, fun _ => ⟨Or.inr rfl, Nat.le_refl _, h0 rfl rfl _ rfl⟩⟩, fun z => absurd z (by decide)⟩, fun z => absurd z (by decide)⟩)
theorem cR_plain {b : Nat} {x : Int32} (hx : x = nI b) (hb : b < 16) (hd : 1 ≤ d) (h : ∀ M', M' = mc_put (mc_put (mc_put M 70 b 0) 73 b 2) 74 b (-1) → Q none M' L) : ctR_plain g d [.ref 64, .int x] n M L Q := by
  obtain ⟨d, rfl⟩ := Nat.exists_eq_add_of_le' hd
  subst hx
  have vb : vp_in (nI b) 16 := vp_in_nI hb (by decide)
  have t : mc_put (mc_put (mc_put M 70 (nI b).toNatClampNeg 0) 73 (nI b).toNatClampNeg 2) 74 (nI b).toNatClampNeg (-1) = mc_put (mc_put (mc_put M 70 b 0) 73 b 2) 74 b (-1) := by rw [nI_clamp (by omega)]
  exact inR_plain (Nat.le_of_ble_eq_true rfl) (fun K hK => hK.1 [] 30 0 _ _ _ _ _ ⟨vb, vb, vb, Nat.le_refl _, h _ t⟩)
end RL
