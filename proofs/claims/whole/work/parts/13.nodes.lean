/-! Nodes -/
theorem nI_lt_of {x : Int32} {m : Nat} (hm : m < 2 ^ 31) (h0 : ¬ x < 0) (h1 : ¬ nI m ≤ x) : ∃ j, j < m ∧ x = nI j := by
  obtain ⟨j, hj, rfl⟩ := nI_of h0
  exact ⟨j, Nat.lt_of_not_le (fun z => h1 ((nI_leI hm hj).mpr z)), rfl⟩
section ND
variable {g : mc_G} {d n : Nat} {M : mc_M} {L : mc_L} {Q : Option Value → mc_M → mc_L → Prop}
theorem cA_isBlock {x : Int32} (hd : 1 ≤ d) (h1 : ∀ j, j < 16 → x = nI j → Q (some (.int 1)) M L) (h0 : (∀ j, j < 16 → x ≠ nI j) → Q (some (.int 0)) M L) : ctA_isBlock g d [.int x] n M L Q := by
  obtain ⟨d, rfl⟩ := Nat.exists_eq_add_of_le' hd
  refine inA_isBlock (Nat.le_of_ble_eq_true rfl) (fun K hK => hK.1 [] 20 0 _ _ _ _ _ ⟨fun a => ⟨Or.inl rfl, Nat.le_refl _, h0 (fun j hj hx => nI_pos (by omega) (hx ▸ a))⟩, fun a => ⟨fun a2 => ⟨Or.inl rfl, Nat.le_refl _, h0 (fun j hj hx => nI_ge hj (by decide) (hx ▸ a2))⟩, fun a2 => ⟨Or.inr rfl, Nat.le_refl _, ?_⟩⟩⟩)
  obtain ⟨j, hj, hx⟩ := nI_lt_of (m := 16) (by decide) a a2
  exact h1 j hj hx
theorem cA_isVariable {x : Int32} (hd : 1 ≤ d) (h1 : ∀ j, j < 8 → x = nI j → Q (some (.int 1)) M L) (h0 : (∀ j, j < 8 → x ≠ nI j) → Q (some (.int 0)) M L) : ctA_isVariable g d [.int x] n M L Q := by
  obtain ⟨d, rfl⟩ := Nat.exists_eq_add_of_le' hd
  refine inA_isVariable (Nat.le_of_ble_eq_true rfl) (fun K hK => hK.1 [] 20 0 _ _ _ _ _ ⟨fun a => ⟨Or.inl rfl, Nat.le_refl _, h0 (fun j hj hx => nI_pos (by omega) (hx ▸ a))⟩, fun a => ⟨fun a2 => ⟨Or.inl rfl, Nat.le_refl _, h0 (fun j hj hx => nI_ge hj (by decide) (hx ▸ a2))⟩, fun a2 => ⟨Or.inr rfl, Nat.le_refl _, ?_⟩⟩⟩)
  obtain ⟨j, hj, hx⟩ := nI_lt_of (m := 8) (by decide) a a2
  exact h1 j hj hx
theorem cN_has {x : Int32} {m : Nat} (hd : 1 ≤ d) (hm : M 1 5 = nI m) (hm1 : m ≤ 150) (h1 : ∀ j, j < m → x = nI j → Q (some (.int 1)) M L) (h0 : (∀ j, j < m → x ≠ nI j) → Q (some (.int 0)) M L) : ctN_has g d [.ref 1, .int x] n M L Q := by
  obtain ⟨d, rfl⟩ := Nat.exists_eq_add_of_le' hd
  refine inN_has (Nat.le_of_ble_eq_true rfl) (fun K hK => hK.1 [] 20 0 _ _ _ _ _ ⟨fun a => ⟨Or.inl rfl, Nat.le_refl _, h0 (fun j hj hx => nI_pos (by omega) (hx ▸ a))⟩, fun a => ⟨fun a2 => ⟨Or.inl rfl, Nat.le_refl _, h0 (fun j hj hx => nI_ge hj (by omega) (by rw [hx, hm] at a2; exact a2))⟩, fun a2 => ⟨Or.inr rfl, Nat.le_refl _, ?_⟩⟩⟩)
  obtain ⟨j, hj, hx⟩ := nI_lt_of (m := m) (by omega) a (by rw [← hm]; exact a2)
  exact h1 j hj hx
theorem cN_sizeWith {q a b : Int32} (hd : 1 ≤ d) (h1 : ¬ 1 < q → Q (some (.int 1)) M L) (h2 : 1 < q → ∃ i j, i < 150 ∧ j < 150 ∧ a = nI i ∧ b = nI j ∧ Q (some (.int (1 + M 5 i + M 5 j))) M L) : ctN_sizeWith g d [.ref 1, .int q, .int a, .int b] n M L Q := by
  obtain ⟨d, rfl⟩ := Nat.exists_eq_add_of_le' hd
  refine inN_sizeWith (Nat.le_of_ble_eq_true rfl) (fun K hK => hK.1 [] 20 0 _ _ _ _ _ ⟨fun z => ?_, fun z => ⟨Nat.le_refl _, h1 z⟩⟩)
  obtain ⟨i, j, hi, hj, rfl, rfl, k⟩ := h2 z
  refine ⟨vp_in_nI (by omega) (by decide), vp_in_nI (by omega) (by decide), Nat.le_refl _, ?_⟩
  rw [← nI_clamp (n := i) (by omega), ← nI_clamp (n := j) (by omega)] at k
  exact k
theorem mc_put_at (M : mc_M) (i k : Nat) (x : Int32) (j l : Nat) : mc_put M i k x j l = if j = i ∧ l = k then x else M j l := by
  unfold mc_put mc_set upd
  by_cases h : j = i
  · subst h
    simp
  · simp [h]
theorem cN_variablesWith {q a b : Int32} (hd : 1 ≤ d) (h0 : q = 0 → Q (some (.int 0)) M L) (h1 : q = 1 → Q (some (.int (1 <<< (a &&& 31)))) M L) (h2 : q ≠ 0 → q ≠ 1 → ∃ i j, i < 150 ∧ j < 150 ∧ a = nI i ∧ b = nI j ∧ Q (some (.int (M 6 i ||| M 6 j))) M L) : ctN_variablesWith g d [.ref 1, .int q, .int a, .int b] n M L Q := by
  obtain ⟨d, rfl⟩ := Nat.exists_eq_add_of_le' hd
  refine inN_variablesWith (Nat.le_of_ble_eq_true rfl) (fun K hK => hK.1 [] 20 0 _ _ _ _ _ ⟨fun z => ⟨fun z1 => ?_, fun z1 => ⟨Nat.le_refl _, h1 z1⟩⟩, fun z => ⟨Nat.le_refl _, h0 z⟩⟩)
  obtain ⟨i, j, hi, hj, rfl, rfl, k⟩ := h2 z z1
  refine ⟨vp_in_nI (by omega) (by decide), vp_in_nI (by omega) (by decide), Nat.le_refl _, ?_⟩
  rw [← nI_clamp (n := i) (by omega), ← nI_clamp (n := j) (by omega)] at k
  exact k
def nd_can (m : Nat) (q a b : Int32) : Prop := q = 0 ∨ (q = 1 ∧ ∃ j, j < 8 ∧ a = nI j) ∨ (2 ≤ q ∧ q ≤ 6 ∧ (∃ j, j < m ∧ a = nI j) ∧ ∃ j, j < m ∧ b = nI j)
theorem cN_canBe {q a b : Int32} {m : Nat} (hd : 2 ≤ d) (hm : M 1 5 = nI m) (hm1 : m ≤ 150) (h1 : nd_can m q a b → Q (some (.int 1)) M L) (h0 : ¬ nd_can m q a b → Q (some (.int 0)) M L) : ctN_canBe g d [.ref 1, .int q, .int a, .int b] n M L Q := by
  obtain ⟨d, rfl⟩ := Nat.exists_eq_add_of_le' hd
  have l1 : ¬ ((2 : Int32) ≤ 0) := by decide
  have l2 : ¬ ((2 : Int32) ≤ 1) := by decide
  have l3 : ¬ ((1 : Int32) = 0) := by decide
  refine inN_canBe (Nat.le_of_ble_eq_true rfl) (fun K hK => hK.1 [] 30 0 _ _ _ _ _ ⟨fun z => ⟨fun z1 => ⟨fun z2 => ?_, fun z2 => ⟨fun z3 => ?_, fun z3 => ?_⟩⟩, fun z1 => ?_⟩, fun z => ⟨Or.inr rfl, Nat.le_refl _, h1 (Or.inl z)⟩⟩)
  · refine ⟨Or.inl rfl, Nat.le_refl _, h0 ?_⟩
    rintro (y | ⟨y, -⟩ | ⟨y, -⟩)
    · exact z y
    · exact z1 y
    · exact absurd z2 (Int32.not_lt.mpr y)
  · refine ⟨Or.inl rfl, Nat.le_refl _, h0 ?_⟩
    rintro (y | ⟨y, -⟩ | ⟨-, y, -⟩)
    · exact z y
    · exact z1 y
    · exact absurd z3 (Int32.not_lt.mpr y)
  · refine cN_has (m := m) (Nat.le_add_left _ _) hm hm1 (fun i hi ha => ?_) (fun hn => ?_)
    · refine ⟨fun y => absurd y (by decide), fun _ => ?_⟩
      refine cN_has (m := m) (Nat.le_add_left _ _) hm hm1 (fun j hj hb => ?_) (fun hn => ?_)
      · exact ⟨fun y => absurd y (by decide), fun _ => ⟨Or.inr rfl, Nat.le_refl _, h1 (Or.inr (Or.inr ⟨Int32.not_lt.mp z2, Int32.not_lt.mp z3, ⟨i, hi, ha⟩, ⟨j, hj, hb⟩⟩))⟩⟩
      · refine ⟨fun _ => ⟨Or.inl rfl, Nat.le_refl _, h0 ?_⟩, fun y => absurd rfl y⟩
        rintro (y | ⟨y, -⟩ | ⟨-, -, -, ⟨j, hj, hb⟩⟩)
        · exact z y
        · exact z1 y
        · exact hn j hj hb
    · refine ⟨fun _ => ⟨Or.inl rfl, Nat.le_refl _, h0 ?_⟩, fun y => absurd rfl y⟩
      rintro (y | ⟨y, -⟩ | ⟨-, -, ⟨j, hj, hb⟩, -⟩)
      · exact z y
      · exact z1 y
      · exact hn j hj hb
  · refine cA_isVariable (Nat.le_add_left _ _) (fun j hj ha => ⟨Or.inr rfl, Nat.le_refl _, h1 (Or.inr (Or.inl ⟨z1, j, hj, ha⟩))⟩) (fun hn => ⟨Or.inl rfl, Nat.le_refl _, h0 ?_⟩)
    rintro (y | ⟨-, j, hj, ha⟩ | ⟨y, -⟩)
    · exact z y
    · exact hn j hj ha
    · rw [z1] at y
      exact l2 y
def nd_cb (k x y : Int32) : Int32 := if k = 2 then x + y else if k = 3 then x - y else if k = 4 then x * y else if k = 5 then (if x = y then 1 else 0) else (if x < y then 1 else 0)
theorem cN_combine {q x y : Int32} (hd : 1 ≤ d) (h : ∀ r, r = nd_cb q x y → Q (some (.int r)) M L) : ctN_combine g d [.int q, .int x, .int y] n M L Q := by
  obtain ⟨d, rfl⟩ := Nat.exists_eq_add_of_le' hd
  refine inN_combine (Nat.le_of_ble_eq_true rfl) (fun K hK => hK.1 [] 20 0 _ _ _ _ _ ⟨fun a => ⟨Nat.le_refl _, h _ ?_⟩, fun a => ⟨fun a1 => ⟨Nat.le_refl _, h _ ?_⟩, fun a1 => ⟨fun a2 => ⟨Nat.le_refl _, h _ ?_⟩, fun a2 => ⟨fun a3 => ⟨fun a4 => ⟨Nat.le_refl _, h _ ?_⟩, fun a4 => ⟨Nat.le_refl _, h _ ?_⟩⟩, fun a3 => ⟨trivial, fun a4 => ⟨Nat.le_refl _, h _ ?_⟩, fun a4 => ⟨Nat.le_refl _, h _ ?_⟩⟩⟩⟩⟩⟩)
  · exact (if_pos a).symm
  · unfold nd_cb
    rw [if_neg a, if_pos a1]
  · unfold nd_cb
    rw [if_neg a, if_neg a1, if_pos a2]
  · unfold nd_cb
    rw [if_neg a, if_neg a1, if_neg a2, if_pos a3, if_neg a4]
  · unfold nd_cb
    rw [if_neg a, if_neg a1, if_neg a2, if_pos a3, if_pos a4]
  · unfold nd_cb
    rw [if_neg a, if_neg a1, if_neg a2, if_neg a3, if_neg (Int32.not_lt.mpr a4)]
  · unfold nd_cb
    rw [if_neg a, if_neg a1, if_neg a2, if_neg a3, if_pos (Int32.not_le.mp a4)]
def nd_wk (K A B E : Nat → Int32) : Nat → Nat → Int32
  | 0 => fun _ => 0
  | j + 1 => upd (nd_wk K A B E j) j (if K j = 0 then A j else if K j = 1 then E (A j).toNatClampNeg else nd_cb (K j) (nd_wk K A B E j (A j).toNatClampNeg) (nd_wk K A B E j (B j).toNatClampNeg))
def nd_val (K A B E : Nat → Int32) (k : Nat) : Int32 := nd_wk K A B E (k + 1) k
theorem nd_wk_lt {K A B E : Nat → Int32} {i : Nat} : ∀ {j : Nat}, i < j → nd_wk K A B E j i = nd_val K A B E i
  | 0, h => absurd h (Nat.not_lt_zero _)
  | j + 1, h => by
    rcases Nat.lt_or_ge i j with h1 | h1
    · rw [← nd_wk_lt h1]
      show upd _ j _ i = _
      unfold upd
      rw [if_neg (by omega)]
    · have : i = j := by omega
      subst this
      rfl
theorem nd_val_eq {K A B E : Nat → Int32} {k : Nat} : nd_val K A B E k = if K k = 0 then A k else if K k = 1 then E (A k).toNatClampNeg else nd_cb (K k) (nd_wk K A B E k (A k).toNatClampNeg) (nd_wk K A B E k (B k).toNatClampNeg) := by
  show upd _ k _ k = _
  unfold upd
  rw [if_pos rfl]
theorem nd_val_0 {K A B E : Nat → Int32} {k : Nat} (h : K k = 0) : nd_val K A B E k = A k := by
  rw [nd_val_eq, if_pos h]
theorem nd_val_1 {K A B E : Nat → Int32} {k a : Nat} (h : K k = 1) (ha : A k = nI a) (h8 : a < 8) : nd_val K A B E k = E a := by
  rw [nd_val_eq, if_neg (by rw [h]; decide), if_pos h, ha, nI_clamp (by omega)]
theorem nd_val_2 {K A B E : Nat → Int32} {k a b : Nat} (h0 : ¬ K k = 0) (h1 : ¬ K k = 1) (ha : A k = nI a) (hb : B k = nI b) (hak : a < k) (hbk : b < k) (hk : k < 2 ^ 31) : nd_val K A B E k = nd_cb (K k) (nd_val K A B E a) (nd_val K A B E b) := by
  rw [nd_val_eq, if_neg h0, if_neg h1, ha, hb, nI_clamp (by omega), nI_clamp (by omega), nd_wk_lt hak, nd_wk_lt hbk]
/-- a row of the nodes: a number, a variable, or of two nodes ahead of it; its size -/
def nd_row (K A B S : Nat → Int32) (k : Nat) : Prop := ∃ s : Nat, S k = nI s ∧ 1 ≤ s ∧ s ≤ 60 ∧ (K k = 0 ∨ (K k = 1 ∧ ∃ a, a < 8 ∧ A k = nI a) ∨ (2 ≤ K k ∧ K k ≤ 6 ∧ ∃ a b sa sb, a < k ∧ b < k ∧ A k = nI a ∧ B k = nI b ∧ S a = nI sa ∧ S b = nI sb ∧ s = 1 + sa + sb))
theorem cN_valueOf {c : Nat} (hc : c = 24 ∨ c = 29 ∨ c = 37) (k : Nat) : k < 151 → (∀ j, j ≤ k → nd_row (M 2) (M 3) (M 4) (M 5) j) → ∀ (x y : Int32) (s e d : Nat) (Q : Option Value → mc_M → mc_L → Prop), x = nI k → y = nI e → M 5 k = nI s → e + s / 2 ≤ 40 → s / 2 + 3 ≤ d → (∀ r, r = nd_val (M 2) (M 3) (M 4) (M c) k → Q (some (.int r)) M L) → ctN_valueOf g d [.ref 1, .int x, .ref c, .int y] n M L Q := by
  induction k using Nat.strongRecOn with
  | _ k ih =>
    intro hk hr x y s e d Q hx hy hs he hd h
    subst hx
    subst hy
    obtain ⟨d, rfl⟩ := Nat.exists_eq_add_of_le' (show 1 ≤ d by omega)
    have e1 : (nI k).toNatClampNeg = k := nI_clamp (by omega)
    obtain ⟨s', hs', g1, g2, g3⟩ := hr k (Nat.le_refl _)
    have hss : s' = s := (nI_eq (by omega) (by omega)).mp (hs'.symm.trans hs)
    subst hss
    have v1 : vp_in (nI k) 151 := vp_in_nI hk (by decide)
    rcases g3 with g3 | ⟨g3, a, ha, hA⟩ | ⟨g3, g4, a, b, sa, sb, ha, hb, hA, hB, hsa, hsb, hsum⟩
    · have t : ∀ r, r = M 3 (nI k).toNatClampNeg → Q (some (.int r)) M L := fun r z => h r (by rw [z, e1, nd_val_0 g3])
      rw [← e1] at g3
      rcases hc with rfl | rfl | rfl <;>
      exact inN_valueOf (Nat.le_of_ble_eq_true rfl) (fun K hK => hK.1 [] 60 0 _ _ _ _ _ ⟨v1, fun z => absurd g3 z, fun _ => ⟨v1, Nat.le_refl _, t _ rfl⟩⟩)
    · have t : ∀ r, r = M c (M 3 (nI k).toNatClampNeg).toNatClampNeg → Q (some (.int r)) M L := fun r z => h r (by rw [z, e1, hA, nI_clamp (by omega), nd_val_1 g3 hA ha])
      have v2 : vp_in (M 3 (nI k).toNatClampNeg) 8 := by
        rw [e1, hA]
        exact vp_in_nI ha (by decide)
      rw [← e1] at g3
      rcases hc with rfl | rfl | rfl <;>
      exact inN_valueOf (Nat.le_of_ble_eq_true rfl) (fun K hK => hK.1 [] 60 0 _ _ _ _ _ ⟨v1, fun _ => ⟨fun z => absurd g3 z, fun _ => ⟨v1, v2, Nat.le_refl _, t _ rfl⟩⟩, fun z => absurd (g3.symm.trans z) (by decide)⟩)
    · have n0 : ¬ M 2 k = 0 := fun z => by rw [z] at g3; exact absurd g3 (by decide)
      have n1 : ¬ M 2 k = 1 := fun z => by rw [z] at g3; exact absurd g3 (by decide)
      have t : ∀ r, r = nd_cb (M 2 (nI k).toNatClampNeg) (nd_val (M 2) (M 3) (M 4) (M c) a) (nd_val (M 2) (M 3) (M 4) (M c) b) → Q (some (.int r)) M L := fun r z => h r (by rw [z, e1, nd_val_2 n0 n1 hA hB ha hb (by omega)])
      have xa : M 3 (nI k).toNatClampNeg = nI a := by rw [e1, hA]
      have xb : M 4 (nI k).toNatClampNeg = nI b := by rw [e1, hB]
      have ye : nI e + 1 = nI (e + 1) := nI_1 e
      have ca := ih a ha (by omega) (fun j hj => hr j (by omega))
      have cb := ih b hb (by omega) (fun j hj => hr j (by omega))
      have z40 : nI e ≤ 40 := nI_le (a := e) (b := 40) (by omega) (by decide)
      rw [← e1] at n0 n1
      have pa : 1 ≤ sa := by
        obtain ⟨s1, q1, q2, q3, -⟩ := hr a (by omega)
        have := (nI_eq (by omega) (by omega)).mp (q1.symm.trans hsa)
        omega
      have pb : 1 ≤ sb := by
        obtain ⟨s1, q1, q2, q3, -⟩ := hr b (by omega)
        have := (nI_eq (by omega) (by omega)).mp (q1.symm.trans hsb)
        omega
      rcases hc with rfl | rfl | rfl <;>
      exact inN_valueOf (Nat.le_of_ble_eq_true rfl) (fun K hK => hK.1 [] 60 0 _ _ _ _ _ ⟨v1, fun _ => ⟨fun _ => ⟨fun _ => ⟨v1, ca _ _ sa (e + 1) d _ xa ye hsa (by omega) (by omega) (fun r1 z1 => ⟨v1, cb _ _ sb (e + 1) d _ xb ye hsb (by omega) (by omega) (fun r2 z2 => cN_combine (by omega) (fun r z => ⟨Nat.le_refl _, t _ (by rw [z, z1, z2])⟩))⟩)⟩, fun z => absurd z40 z⟩, fun z => absurd z n1⟩, fun z => absurd z n0⟩)
def nd_sz (M : mc_M) (q a b : Int32) : Int32 := if 1 < q then 1 + M 5 a.toNatClampNeg + M 5 b.toNatClampNeg else 1
def nd_vs (M : mc_M) (q a b : Int32) : Int32 := if q = 0 then 0 else if q = 1 then 1 <<< (a &&& 31) else M 6 a.toNatClampNeg ||| M 6 b.toNatClampNeg
def nd_mx (x y : Int32) : Int32 := if x < y then y else x
theorem nd_can_2 {m : Nat} {q a b : Int32} (h : nd_can m q a b) (h1 : 1 < q) : (∃ j, j < m ∧ a = nI j) ∧ ∃ j, j < m ∧ b = nI j := by
  rcases h with h | ⟨h, -⟩ | ⟨-, -, h2⟩
  · rw [h] at h1
    exact absurd h1 (by decide)
  · rw [h] at h1
    exact absurd h1 (by decide)
  · exact h2
theorem nd_can_3 {m : Nat} {q a b : Int32} (h : nd_can m q a b) (h0 : q ≠ 0) (h1 : q ≠ 1) : (∃ j, j < m ∧ a = nI j) ∧ ∃ j, j < m ∧ b = nI j := by
  rcases h with h | ⟨h, -⟩ | ⟨-, -, h2⟩
  · exact absurd h h0
  · exact absurd h h1
  · exact h2
theorem cN_size {q a b : Int32} {m : Nat} (hd : 1 ≤ d) (hm : m ≤ 150) (hcan : nd_can m q a b) (h : ∀ r, r = nd_sz M q a b → Q (some (.int r)) M L) : ctN_sizeWith g d [.ref 1, .int q, .int a, .int b] n M L Q := by
  refine cN_sizeWith hd (fun z => h _ (by unfold nd_sz; rw [if_neg z])) (fun z => ?_)
  obtain ⟨⟨i, hi, rfl⟩, j, hj, rfl⟩ := nd_can_2 hcan z
  exact ⟨i, j, by omega, by omega, rfl, rfl, h _ (by unfold nd_sz; rw [if_pos z, nI_clamp (by omega), nI_clamp (by omega)])⟩
theorem cN_vars {q a b : Int32} {m : Nat} (hd : 1 ≤ d) (hm : m ≤ 150) (hcan : nd_can m q a b) (h : ∀ r, r = nd_vs M q a b → Q (some (.int r)) M L) : ctN_variablesWith g d [.ref 1, .int q, .int a, .int b] n M L Q := by
  refine cN_variablesWith hd (fun z => h _ (by unfold nd_vs; rw [if_pos z])) (fun z => h _ (by unfold nd_vs; rw [z]; rfl)) (fun z z1 => ?_)
  obtain ⟨⟨i, hi, rfl⟩, j, hj, rfl⟩ := nd_can_3 hcan z z1
  exact ⟨i, j, by omega, by omega, rfl, rfl, h _ (by unfold nd_vs; rw [if_neg z, if_neg z1, nI_clamp (by omega), nI_clamp (by omega)])⟩
theorem cN_add {q a b : Int32} {m : Nat} (hd : 2 ≤ d) (hm : M 1 5 = nI m) (hm1 : m < 150) (hcan : nd_can m q a b) (h : ∀ M', M' = mc_put (mc_put (mc_put (mc_put (mc_put (mc_put (mc_put M 2 m q) 3 m a) 4 m b) 5 m (nd_sz M q a b)) 6 m (nd_vs M q a b)) 1 6 (nd_mx (M 1 6) (nd_sz M q a b))) 1 5 (nI (m + 1)) → Q (some (.int (nI m))) M' L) : ctN_add g d [.ref 1, .int q, .int a, .int b] n M L Q := by
  obtain ⟨d, rfl⟩ := Nat.exists_eq_add_of_le' (show 1 ≤ d by omega)
  have e1 : (nI m).toNatClampNeg = m := nI_clamp (by omega)
  have v1 : vp_in (M 1 5) 151 := by
    rw [hm]
    exact vp_in_nI (by omega) (by decide)
  have h' : ∀ r M', r = nI m → M' = mc_put (mc_put (mc_put (mc_put (mc_put (mc_put (mc_put M 2 m q) 3 m a) 4 m b) 5 m (nd_sz M q a b)) 6 m (nd_vs M q a b)) 1 6 (nd_mx (M 1 6) (nd_sz M q a b))) 1 5 (nI (m + 1)) → Q (some (.int r)) M' L := fun r M' hr => hr ▸ h M'
  refine inN_add (Nat.le_of_ble_eq_true rfl) (fun K hK => hK.1 [] 60 0 _ _ _ _ _ ⟨v1, v1, v1, cN_size (m := m) (by omega) (by omega) hcan (fun r1 z1 => ⟨v1, cN_vars (m := m) (by omega) (by omega) hcan (fun r2 z2 => ⟨v1, v1, Nat.le_refl _, h' _ _ hm ?_⟩)⟩)⟩)
  have y1 : r1 = nd_sz M q a b := z1
  have y2 : r2 = nd_vs M q a b := z2
  rw [← y1, ← y2, ← nI_1, ← hm]
  have e2 : (M 1 5).toNatClampNeg = m := by rw [hm, e1]
  simp only [e2]
  simp [mc_put_at, nd_mx]
end ND
