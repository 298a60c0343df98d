/-! The model's assign, jump, clear, input, result, divide, live, count, sign -/
def bk_is (x : Int32) : Prop := ∃ j, j < 16 ∧ x = nI j
def vr_is (x : Int32) : Prop := ∃ j, j < 8 ∧ x = nI j
def nd_is (m : Nat) (x : Int32) : Prop := ∃ j, j < m ∧ x = nI j
def jp_ok (m : Nat) (q nd one oth : Int32) : Prop := (q = 0 ∧ bk_is one) ∨ (q = 1 ∧ nd_is m nd ∧ bk_is one ∧ bk_is oth) ∨ (q = 2 ∧ nd_is m nd)
section RC2
variable {g : mc_G} {d n : Nat} {M : mc_M} {L : mc_L} {Q : Option Value → mc_M → mc_L → Prop} {T : Nat → Nat → Int32} {m : Nat} {P : Nat → Blk}
def mc_asgR (M : mc_M) (b c : Nat) (v k : Int32) : mc_M := mc_put (mc_put (mc_put (mc_put M 64 0 0) 71 (b * 10 + c) v) 72 (b * 10 + c) k) 70 b (nI (c + 1))
theorem cR_assign (hm : M 64 1 = nI m) (hm150 : m ≤ 150) (hc : ∀ b, b < 16 → M 70 b = nI (P b).2.1.length ∧ (P b).2.1.length ≤ 10) {x y z : Int32} (hd : 2 ≤ d) (h1 : ¬ (bk_is x ∧ vr_is y ∧ nd_is m z) → ∀ M', M' = mc_put M 64 0 1 → Q (some (.int 0)) M' L)
    (h2 : ∀ b, b < 16 → x = nI b → vr_is y → nd_is m z → ¬ (P b).2.1.length < 10 → ∀ M', M' = mc_put M 64 0 2 → Q (some (.int 0)) M' L)
    (h0 : ∀ b, b < 16 → x = nI b → vr_is y → nd_is m z → (P b).2.1.length < 10 → ∀ r M', r = nI ((P b).2.1.length + 1) → M' = mc_asgR M b (P b).2.1.length y z → Q (some (.int r)) M' L) : ctR_assign g d [.ref 64, .int x, .int y, .int z] n M L Q := by
  obtain ⟨d, rfl⟩ := Nat.exists_eq_add_of_le' (show 1 ≤ d by omega)
  have no : ∀ (K : mc_K), mc_closed true tab0 n 0 (some .int) (shR_assign g d) Q (fun _ _ _ => False) tbR_assign K → ¬ (bk_is x ∧ vr_is y ∧ nd_is m z) → K 29 [some (.ref 64), some (.int x), some (.int y), some (.int z), some (.int 0)] [] n M L := fun K hK hc =>
    hK.1 [] 120 29 _ _ _ _ _ ⟨fun _ => cR_goes (one := false) (two := false) rfl rfl (by omega) (fun z => by cases z) (fun _ M' hM => ⟨fun z => absurd rfl z, fun _ => ⟨Nat.le_refl _, h1 hc M' hM⟩⟩) (fun z => by cases z), fun z => absurd rfl z⟩
  have yes : ∀ (K : mc_K), mc_closed true tab0 n 0 (some .int) (shR_assign g d) Q (fun _ _ _ => False) tbR_assign K → ∀ b, b < 16 → x = nI b → vr_is y → nd_is m z → K 29 [some (.ref 64), some (.int x), some (.int y), some (.int z), some (.int 1)] [] n M L := fun K hK b hb hx hy hz => by
    obtain ⟨c1, c2⟩ := hc b hb
    have q2 := h2 b hb hx hy hz
    have q0 := h0 b hb hx hy hz
    generalize (P b).2.1.length = c at c1 c2 q2 q0
    have vb : vp_in x 16 := by rw [hx]; exact vp_in_nI hb (by decide)
    have ex : x.toNatClampNeg = b := by rw [hx]; exact nI_clamp (by omega)
    have mx : M 70 x.toNatClampNeg = nI c := by rw [ex, c1]
    have ei : 10 * x + M 70 x.toNatClampNeg = nI (b * 10 + c) := by rw [mx, hx, show (10 : Int32) = nI 10 from rfl, nI_mul, nI_add, Nat.mul_comm]
    have in1 : ¬ (10 : Int32) ≤ M 70 x.toNatClampNeg → c < 10 := fun w => by
      rw [mx] at w
      exact Nat.lt_of_not_le (fun v => w (nI_le (a := 10) v (by omega)))
    have vi : c < 10 → vp_in (10 * x + M 70 x.toNatClampNeg) 160 := fun w => by
      rw [ei]
      exact vp_in_nI (by omega) (by decide)
    have fin : c < 10 → ∀ M', M' = mc_put (mc_put (mc_put (mc_put M 64 0 0) 71 (10 * x + M 70 x.toNatClampNeg).toNatClampNeg y) 72 (10 * x + M 70 x.toNatClampNeg).toNatClampNeg z) 70 x.toNatClampNeg (M 70 x.toNatClampNeg + 1) → Q (some (.int (M' 70 x.toNatClampNeg))) M' L := fun w M' hM => by
      rw [ei, mx, ex, nI_1, nI_clamp (by omega)] at hM
      refine q0 w _ M' ?_ (by rw [hM]; rfl)
      rw [hM, ex, mc_put_at, if_pos ⟨rfl, rfl⟩]
    refine hK.1 [] 120 29 _ _ _ _ _ ⟨fun z => absurd z (by decide), fun _ => ⟨vb, fun w => cR_goes (one := true) (two := false) rfl rfl (by omega) (fun _ z => by cases z) (fun z => by cases z) (fun _ _ M' hM => ⟨fun z => absurd rfl z, fun _ => ⟨Nat.le_refl _, q2 (fun v => ?_) M' hM⟩⟩), fun w => cR_goes (one := true) (two := true) rfl rfl (by omega) (fun _ _ M' hM => ⟨fun _ => ?_, fun z => absurd z (by decide)⟩) (fun z => by cases z) (fun _ z => by cases z)⟩⟩
    · rw [mx] at w
      have := (nI_leI (a := 10) (b := c) (by decide) (by omega)).mp w
      omega
    · subst hM
      exact ⟨vb, vi (in1 w), vb, vi (in1 w), vb, vb, vb, Nat.le_refl _, fin (in1 w) _ rfl⟩
  exact inR_assign (Nat.le_of_ble_eq_true rfl) (fun K hK => hK.1 [29] 60 0 _ _ _ _ _ (cR_isBlock (by omega) (fun b hb hx => ⟨fun z => absurd z (by decide), fun _ => cR_isVariable (by omega) (fun v hv hy => ⟨fun z => absurd z (by decide), fun _ => cR_isNode (by omega) hm hm150 (fun k hk hz => ⟨fun z => absurd z (by decide), fun _ => yes K hK b hb hx ⟨v, hv, hy⟩ ⟨k, hk, hz⟩⟩) (fun w => ⟨fun _ => no K hK (fun u => by obtain ⟨-, -, j, hj, e⟩ := u; exact w j hj e), fun z => absurd rfl z⟩)⟩) (fun w => ⟨fun _ => no K hK (fun u => by obtain ⟨-, ⟨j, hj, e⟩, -⟩ := u; exact w j hj e), fun z => absurd rfl z⟩)⟩) (fun w => ⟨fun _ => no K hK (fun u => by obtain ⟨⟨j, hj, e⟩, -⟩ := u; exact w j hj e), fun z => absurd rfl z⟩)))
def mc_jmpR (M : mc_M) (b : Nat) (q nd one oth : Int32) : mc_M := mc_put (mc_put (mc_put (mc_put (mc_put M 64 0 0) 73 b q) 74 b (if q = 0 then -1 else nd)) 75 b one) 76 b oth
theorem cR_jump (hm : M 64 1 = nI m) (hm150 : m ≤ 150) {x q nd one oth : Int32} (hd : 2 ≤ d) (h1 : ¬ (bk_is x ∧ jp_ok m q nd one oth) → ∀ M', M' = mc_put M 64 0 1 → Q none M' L)
    (h0 : ∀ b, b < 16 → x = nI b → jp_ok m q nd one oth → ∀ M', M' = mc_jmpR M b q nd one oth → Q none M' L) : ctR_jump g d [.ref 64, .int x, .int q, .int nd, .int one, .int oth] n M L Q := by
  obtain ⟨d, rfl⟩ := Nat.exists_eq_add_of_le' (show 1 ≤ d by omega)
  have no : ∀ (K : mc_K), mc_closed true tab0 n 0 none (shR_jump g d) Q (fun _ _ _ => False) tbR_jump K → ¬ (bk_is x ∧ jp_ok m q nd one oth) → K 61 [some (.ref 64), some (.int x), some (.int q), some (.int nd), some (.int one), some (.int oth), some (.int 0)] [] n M L := fun K hK hc =>
    hK.1 [] 120 61 _ _ _ _ _ (cR_goes (one := false) (two := true) rfl rfl (by omega) (fun z => by cases z) (fun _ M' hM => ⟨fun _ => ⟨Nat.le_refl _, h1 hc M' hM⟩, fun z => absurd rfl z⟩) (fun z => by cases z))
  have yes : ∀ (K : mc_K), mc_closed true tab0 n 0 none (shR_jump g d) Q (fun _ _ _ => False) tbR_jump K → ∀ b, b < 16 → x = nI b → jp_ok m q nd one oth → K 61 [some (.ref 64), some (.int x), some (.int q), some (.int nd), some (.int one), some (.int oth), some (.int 1)] [] n M L := fun K hK b hb hx hj => by
    have vb : vp_in x 16 := by rw [hx]; exact vp_in_nI hb (by decide)
    have ex : x.toNatClampNeg = b := by rw [hx]; exact nI_clamp (by omega)
    have q0 : ∀ y M', y = (if q = 0 then -1 else nd) → M' = mc_put (mc_put (mc_put (mc_put (mc_put M 64 0 0) 73 x.toNatClampNeg q) 74 x.toNatClampNeg y) 75 x.toNatClampNeg one) 76 x.toNatClampNeg oth → Q none M' L := fun y M' hy hM => h0 b hb hx hj M' (by rw [hM, ex, hy]; rfl)
    refine hK.1 [] 120 61 _ _ _ _ _ (cR_goes (one := true) (two := true) rfl rfl (by omega) (fun _ _ M' hM => ⟨fun z => absurd z (by decide), fun _ => ?_⟩) (fun z => by cases z) (fun _ z => by cases z))
    subst hM
    exact ⟨vb, fun z => ⟨vb, vb, vb, Nat.le_refl _, q0 _ _ (by rw [if_neg z]) rfl⟩, fun z => ⟨vb, vb, vb, Nat.le_refl _, q0 _ _ (by rw [if_pos z]) rfl⟩⟩
  refine inR_jump (Nat.le_of_ble_eq_true rfl) (fun K hK => hK.1 [61] 60 0 _ _ _ _ _ (cR_isBlock (by omega) (fun b hb hx => ⟨fun z => absurd z (by decide), fun _ => cR_within (by omega) (fun l0 l2 => ⟨fun z => absurd z (by decide), fun _ => ?_⟩) (fun w => ⟨fun _ => no K hK ?_, fun z => absurd rfl z⟩)⟩) (fun w => ⟨fun _ => no K hK (fun u => by obtain ⟨⟨j, hj, e⟩, -⟩ := u; exact w j hj e), fun z => absurd rfl z⟩)))
  · have c0 : ¬ (0 : Int32) = 1 := by decide
    have c1 : ¬ (0 : Int32) = 2 := by decide
    have c2 : ¬ (1 : Int32) = 0 := by decide
    have c3 : ¬ (1 : Int32) = 2 := by decide
    have c4 : ¬ (2 : Int32) = 0 := by decide
    have c5 : ¬ (2 : Int32) = 1 := by decide
    by_cases e2 : q = 2
    · subst e2
      exact ⟨fun z => absurd z c4, fun _ => cR_isNode (by omega) hm hm150 (fun k hk hz => ⟨fun z => absurd z (by decide), fun _ => ⟨fun _ => ⟨fun _ => yes K hK b hb hx (Or.inr (Or.inr ⟨rfl, k, hk, hz⟩)), fun z => absurd z c5⟩, fun z => absurd rfl z⟩⟩) (fun w => ⟨fun _ => no K hK (fun u => by
        obtain ⟨-, ⟨u, -⟩ | ⟨u, -⟩ | ⟨-, j, hj, e⟩⟩ := u
        · exact c4 u
        · exact c5 u
        · exact w j hj e), fun z => absurd rfl z⟩)⟩
    · by_cases e1 : q = 1
      · subst e1
        exact ⟨fun z => absurd z c2, fun _ => cR_isNode (by omega) hm hm150 (fun k hk hz => ⟨fun z => absurd z (by decide), fun _ => ⟨fun z => absurd z c3, fun _ => cR_isBlock (by omega) (fun o ho ho1 => ⟨fun z => absurd z (by decide), fun _ => ⟨fun z => absurd rfl z, fun _ => cR_isBlock (by omega) (fun o2 ho2 ho3 => ⟨fun z => absurd z (by decide), fun _ => yes K hK b hb hx (Or.inr (Or.inl ⟨rfl, ⟨k, hk, hz⟩, ⟨o, ho, ho1⟩, ⟨o2, ho2, ho3⟩⟩))⟩) (fun w => ⟨fun _ => no K hK (fun u => by
            obtain ⟨-, ⟨u, -⟩ | ⟨-, -, -, j, hj, e⟩ | ⟨u, -⟩⟩ := u
            · exact c2 u
            · exact w j hj e
            · exact c3 u), fun z => absurd rfl z⟩)⟩⟩) (fun w => ⟨fun _ => no K hK (fun u => by
            obtain ⟨-, ⟨u, -⟩ | ⟨-, -, ⟨j, hj, e⟩, -⟩ | ⟨u, -⟩⟩ := u
            · exact c2 u
            · exact w j hj e
            · exact c3 u), fun z => absurd rfl z⟩)⟩⟩) (fun w => ⟨fun _ => no K hK (fun u => by
            obtain ⟨-, ⟨u, -⟩ | ⟨-, ⟨j, hj, e⟩, -⟩ | ⟨u, -⟩⟩ := u
            · exact c2 u
            · exact w j hj e
            · exact c3 u), fun z => absurd rfl z⟩)⟩
      · have e0 : q = 0 := q_012 l0 l2 e1 e2
        subst e0
        exact ⟨fun _ => ⟨fun z => absurd z c1, fun _ => cR_isBlock (by omega) (fun o ho ho1 => ⟨fun z => absurd z (by decide), fun _ => ⟨fun _ => yes K hK b hb hx (Or.inl ⟨rfl, o, ho, ho1⟩), fun z => absurd z c0⟩⟩) (fun w => ⟨fun _ => no K hK (fun u => by
            obtain ⟨-, ⟨-, j, hj, e⟩ | ⟨u, -⟩ | ⟨u, -⟩⟩ := u
            · exact w j hj e
            · exact c0 u
            · exact c1 u), fun z => absurd rfl z⟩)⟩, fun z => absurd rfl z⟩
  · rintro ⟨-, ⟨u, -⟩ | ⟨u, -⟩ | ⟨u, -⟩⟩
    · exact w (by rw [u]; decide)
    · exact w (by rw [u]; decide)
    · exact w (by rw [u]; decide)
theorem cR_clear {x : Int32} (hd : 2 ≤ d) (h1 : ¬ bk_is x → ∀ M', M' = mc_put M 64 0 1 → Q (some (.int 0)) M' L) (h0 : ∀ b, b < 16 → x = nI b → ∀ r M', r = M 70 b → M' = mc_put (mc_put (mc_put (mc_put M 64 0 0) 70 b 0) 73 b 2) 74 b (-1) → Q (some (.int r)) M' L) : ctR_clear g d [.ref 64, .int x] n M L Q := by
  obtain ⟨d, rfl⟩ := Nat.exists_eq_add_of_le' (show 1 ≤ d by omega)
  refine inR_clear (Nat.le_of_ble_eq_true rfl) (fun K hK => hK.1 [] 60 0 _ _ _ _ _ (cR_isBlock (by omega) (fun b hb hx => cR_goes (one := true) (two := true) rfl rfl (by omega) (fun _ _ M' hM => ⟨fun _ => ?_, fun z => absurd z (by decide)⟩) (fun z => by cases z) (fun _ z => by cases z)) (fun w => cR_goes (one := false) (two := true) rfl rfl (by omega) (fun z => by cases z) (fun _ M' hM => ⟨fun z => absurd rfl z, fun _ => ⟨Nat.le_refl _, h1 (fun u => by obtain ⟨j, hj, e⟩ := u; exact w j hj e) M' hM⟩⟩) (fun z => by cases z))))
  have vb : vp_in x 16 := by rw [hx]; exact vp_in_nI hb (by decide)
  have er : M' 70 x.toNatClampNeg = M 70 b := by
    rw [hM, hx, nI_clamp (by omega)]
    rfl
  exact ⟨vb, cR_plain hx hb (by omega) (fun M2 hM2 => ⟨Nat.le_refl _, h0 b hb hx _ _ er (by rw [hM2, hM])⟩)⟩
theorem cR_input {x y : Int32} (hd : 2 ≤ d) (h1 : ¬ vr_is x → ∀ M', M' = mc_put M 64 0 1 → Q (some (.int 0)) M' L) (h0 : ∀ b, b < 8 → x = nI b → ∀ r M', r = M 77 b → M' = mc_put (mc_put M 64 0 0) 77 b y → Q (some (.int r)) M' L) : ctR_input g d [.ref 64, .int x, .int y] n M L Q := by
  obtain ⟨d, rfl⟩ := Nat.exists_eq_add_of_le' (show 1 ≤ d by omega)
  refine inR_input (Nat.le_of_ble_eq_true rfl) (fun K hK => hK.1 [] 60 0 _ _ _ _ _ (cR_isVariable (by omega) (fun b hb hx => cR_goes (one := true) (two := true) rfl rfl (by omega) (fun _ _ M' hM => ⟨fun _ => ?_, fun z => absurd z (by decide)⟩) (fun z => by cases z) (fun _ z => by cases z)) (fun w => cR_goes (one := false) (two := true) rfl rfl (by omega) (fun z => by cases z) (fun _ M' hM => ⟨fun z => absurd rfl z, fun _ => ⟨Nat.le_refl _, h1 (fun u => by obtain ⟨j, hj, e⟩ := u; exact w j hj e) M' hM⟩⟩) (fun z => by cases z))))
  have vb : vp_in x 8 := by rw [hx]; exact vp_in_nI hb (by decide)
  have ex : x.toNatClampNeg = b := by rw [hx]; exact nI_clamp (by omega)
  have er : M' 77 x.toNatClampNeg = M 77 b := by
    rw [hM, ex]
    rfl
  exact ⟨vb, vb, Nat.le_refl _, h0 b hb hx _ _ er (by rw [hM, ex])⟩
theorem cR_result {x : Int32} (hd : 2 ≤ d) (h1 : ¬ (0 ≤ x ∧ x ≤ 2) → ∀ M', M' = mc_put M 64 0 1 → Q (some (.int 0)) M' L) (h0 : 0 ≤ x → x ≤ 2 → ∀ r M', r = (if x = 0 then M 64 39 else if x = 1 then M 64 40 else M 64 41) → M' = mc_put M 64 0 0 → Q (some (.int r)) M' L) : ctR_result g d [.ref 64, .int x] n M L Q := by
  obtain ⟨d, rfl⟩ := Nat.exists_eq_add_of_le' (show 1 ≤ d by omega)
  refine inR_result (Nat.le_of_ble_eq_true rfl) (fun K hK => hK.1 [] 60 0 _ _ _ _ _ (cR_within (by omega) (fun l0 l2 => cR_goes (one := true) (two := true) rfl rfl (by omega) (fun _ _ M' hM => ⟨fun _ => ?_, fun z => absurd z (by decide)⟩) (fun z => by cases z) (fun _ z => by cases z)) (fun w => cR_goes (one := false) (two := true) rfl rfl (by omega) (fun z => by cases z) (fun _ M' hM => ⟨fun z => absurd rfl z, fun _ => ⟨Nat.le_refl _, h1 w M' hM⟩⟩) (fun z => by cases z))))
  subst hM
  exact ⟨fun z => ⟨fun w => ⟨Nat.le_refl _, h0 l0 l2 _ _ (by rw [if_neg z, if_neg w]; rfl) rfl⟩, fun w => ⟨Nat.le_refl _, h0 l0 l2 _ _ (by rw [if_neg z, if_pos w]; rfl) rfl⟩⟩, fun z => ⟨Nat.le_refl _, h0 l0 l2 _ _ (by rw [if_pos z]; rfl) rfl⟩⟩
theorem cR_count {x : Int32} (hd : 2 ≤ d) (h1 : ¬ (0 ≤ x ∧ x ≤ 3) → ∀ M', M' = mc_put M 64 0 1 → Q (some (.int 0)) M' L) (h0 : 0 ≤ x → x ≤ 3 → ∀ r M', r = (if x = 0 then M 64 1 else if x = 1 then M 64 23 else if x = 2 then M 64 42 else M 64 7) → M' = mc_put M 64 0 0 → Q (some (.int r)) M' L) : ctR_count g d [.ref 64, .int x] n M L Q := by
  obtain ⟨d, rfl⟩ := Nat.exists_eq_add_of_le' (show 1 ≤ d by omega)
  refine inR_count (Nat.le_of_ble_eq_true rfl) (fun K hK => hK.1 [] 60 0 _ _ _ _ _ (cR_within (by omega) (fun l0 l2 => cR_goes (one := true) (two := true) rfl rfl (by omega) (fun _ _ M' hM => ⟨fun _ => ?_, fun z => absurd z (by decide)⟩) (fun z => by cases z) (fun _ z => by cases z)) (fun w => cR_goes (one := false) (two := true) rfl rfl (by omega) (fun z => by cases z) (fun _ M' hM => ⟨fun z => absurd rfl z, fun _ => ⟨Nat.le_refl _, h1 w M' hM⟩⟩) (fun z => by cases z))))
  subst hM
  exact ⟨fun z => ⟨fun w => ⟨fun v => ⟨Nat.le_refl _, h0 l0 l2 _ _ (by rw [if_neg z, if_neg w, if_neg v]; rfl) rfl⟩, fun v => ⟨Nat.le_refl _, h0 l0 l2 _ _ (by rw [if_neg z, if_neg w, if_pos v]; rfl) rfl⟩⟩, fun w => ⟨Nat.le_refl _, h0 l0 l2 _ _ (by rw [if_neg z, if_pos w]; rfl) rfl⟩⟩, fun z => ⟨Nat.le_refl _, h0 l0 l2 _ _ (by rw [if_pos z]; rfl) rfl⟩⟩
theorem cR_divide (hm : m ≤ 150) (hN : nt_R M T m) (hP : pgR M m P) {x : Int32} (hd : 2 ≤ d) (h1 : ¬ (0 ≤ x ∧ x ≤ 255) → ∀ M', M' = mc_put M 64 0 1 → Q (some (.int 0)) M' L) (h0 : 0 ≤ x → x ≤ 255 → ∀ r M', r = 255 &&& (sp_dit T P 8 (255 &&& (x ^^^ (-1))) ^^^ (-1)) → M' = mc_put M 64 0 0 → Q (some (.int r)) M' L) : ctR_divide g d [.ref 64, .int x] n M L Q := by
  obtain ⟨d, rfl⟩ := Nat.exists_eq_add_of_le' (show 1 ≤ d by omega)
  have hne : ¬ (255 &&& (x ^^^ (-1))) = -1 := fun z => by
    have h8 : (255 &&& (x ^^^ (-1))).toBitVec.getLsbD 8 = (-1 : Int32).toBitVec.getLsbD 8 := by rw [z]
    rw [Int32.toBitVec_and, BitVec.getLsbD_and] at h8
    have a1 : (255 : Int32).toBitVec.getLsbD 8 = false := by decide
    have a2 : (-1 : Int32).toBitVec.getLsbD 8 = true := by decide
    rw [a1, a2] at h8
    cases h8
  refine inR_divide (Nat.le_of_ble_eq_true rfl) (fun K hK => hK.1 [] 60 0 _ _ _ _ _ (cR_within (by omega) (fun l0 l2 => cR_goes (one := true) (two := true) rfl rfl (by omega) (fun _ _ M' hM => ⟨fun z => absurd z (by decide), fun _ => ?_⟩) (fun z => by cases z) (fun _ z => by cases z)) (fun w => cR_goes (one := false) (two := true) rfl rfl (by omega) (fun z => by cases z) (fun _ M' hM => ⟨fun _ => ⟨Nat.le_refl _, h1 w M' hM⟩, fun z => absurd rfl z⟩) (fun z => by cases z))))
  subst hM
  exact cR_dynamics (M := mc_put M 64 0 0) hm (nt_R_to hN rfl (fun c h1 h2 => by funext i; rw [mc_put_at, if_neg (by omega)])) (pgR_to hP (fun c h1 h2 => by funext i; rw [mc_put_at, if_neg (by omega)])) hne (by omega) (fun r hr => ⟨Nat.le_refl _, h0 l0 l2 _ _ (by rw [hr]) rfl⟩)
theorem cR_live (hT : nt_ok T m) (hN : nt_R M T m) (hP : pgR M m P) (hJ : pjR M m P) {x : Int32} (hd : 3 ≤ d) (h1 : ¬ bk_is x → ∀ M', M' = mc_put M 64 0 1 → Q (some (.int 0)) M' L) (h0 : ∀ b, b < 16 → x = nI b → ∀ r M', r = sp_Y T P b → lv2 (mc_put M 64 0 0) M' (sp_Y T P) → Q (some (.int r)) M' L) : ctR_live g d [.ref 64, .int x] n M L Q := by
  obtain ⟨d, rfl⟩ := Nat.exists_eq_add_of_le' (show 1 ≤ d by omega)
  refine inR_live (Nat.le_of_ble_eq_true rfl) (fun K hK => hK.1 [] 60 0 _ _ _ _ _ (cR_isBlock (by omega) (fun b hb hx => cR_goes (one := true) (two := true) rfl rfl (by omega) (fun _ _ M' hM => ⟨fun _ => ?_, fun z => absurd z (by decide)⟩) (fun z => by cases z) (fun _ z => by cases z)) (fun w => cR_goes (one := false) (two := true) rfl rfl (by omega) (fun z => by cases z) (fun _ M' hM => ⟨fun z => absurd rfl z, fun _ => ⟨Nat.le_refl _, h1 (fun u => by obtain ⟨j, hj, e⟩ := u; exact w j hj e) M' hM⟩⟩) (fun z => by cases z))))
  have vb : vp_in x 16 := by rw [hx]; exact vp_in_nI hb (by decide)
  have ex : x.toNatClampNeg = b := by rw [hx]; exact nI_clamp (by omega)
  subst hM
  exact cR_allLive (M := mc_put M 64 0 0) hT (nt_R_to hN rfl (fun c h1 h2 => by funext i; rw [mc_put_at, if_neg (by omega)])) (pgR_to hP (fun c h1 h2 => by funext i; rw [mc_put_at, if_neg (by omega)])) (pjR_to hJ (fun c h1 h2 => by funext i; rw [mc_put_at, if_neg (by omega)])) (by omega) (fun M2 h2 => ⟨vb, Nat.le_refl _, h0 b hb hx _ _ (by rw [ex, h2.2 b hb]) h2⟩)
theorem cR_sign {x : Int32} {len : Nat} (hl : M 64 42 = nI len) (hl31 : len < 2 ^ 31) (hd : 2 ≤ d) (h1 : ¬ (∃ i, i < len ∧ i < 3000 ∧ x = nI i) → ∀ M', M' = mc_put M 64 0 1 → Q (some (.int 0)) M' L) (h0 : ∀ i, i < len → i < 3000 → x = nI i → ∀ r M', r = M 96 i → M' = mc_put M 64 0 0 → Q (some (.int r)) M' L) : ctR_sign g d [.ref 64, .int x] n M L Q := by
  obtain ⟨d, rfl⟩ := Nat.exists_eq_add_of_le' (show 1 ≤ d by omega)
  have no : ¬ (∃ i, i < len ∧ i < 3000 ∧ x = nI i) → ∀ (K : mc_K), mc_closed true tab0 n 0 (some .int) (shR_sign g d) Q (fun _ _ _ => False) tbR_sign K → K 24 [some (.ref 64), some (.int x)] [.ref 64] n M L := fun hn K hK =>
    hK.1 [] 60 24 _ _ _ _ _ (cR_goes (one := false) (two := true) rfl rfl (by omega) (fun z => by cases z) (fun _ M' hM => ⟨fun _ => ⟨Nat.le_refl _, h1 hn M' hM⟩, fun z => absurd rfl z⟩) (fun z => by cases z))
  refine inR_sign (Nat.le_of_ble_eq_true rfl) (fun K hK => hK.1 [24] 60 0 _ _ _ _ _ ⟨fun w => no ?_ K hK, fun w => ⟨fun w1 => no ?_ K hK, fun w1 => ⟨fun w2 => no ?_ K hK, fun w2 => ?_⟩⟩⟩)
  · rintro ⟨i, hi, -, e⟩
    rw [e] at w
    exact nI_pos (by omega) w
  · rintro ⟨i, hi, -, e⟩
    rw [e, hl] at w1
    exact nI_ge hi hl31 w1
  · rintro ⟨i, -, hi, e⟩
    rw [e] at w2
    exact nI_ge (b := 3000) hi (by decide) w2
  · rw [hl] at w1
    obtain ⟨i, hi, e⟩ := nI_lt_of hl31 w w1
    subst e
    have hi2 : i < 3000 := Nat.lt_of_not_le (fun v => w2 (nI_le (a := 3000) v (by omega)))
    have vi : vp_in (nI i) 3000 := vp_in_nI hi2 (by decide)
    refine cR_goes (one := true) (two := true) rfl rfl (by omega) (fun _ _ M' hM => ⟨fun z => absurd z (by decide), fun _ => ?_⟩) (fun z => by cases z) (fun _ z => by cases z)
    subst hM
    exact ⟨vi, Nat.le_refl _, h0 i hi hi2 rfl _ _ (by rw [nI_clamp (by omega)]; rfl) rfl⟩
end RC2
