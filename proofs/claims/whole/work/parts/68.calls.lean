/-! FlowMixer's calls -/
section AC
variable {g : mc_G} {d n : Nat} {M : mc_M} {L : mc_L} {Q : Option Value → mc_M → mc_L → Prop} {Qt : Nat → mc_M → mc_L → Prop} {T : Nat → Nat → Int32} {m : Nat} {P : Nat → Blk}
theorem cA_isVariableSet {x : Int32} (hd : 1 ≤ d) (h1 : 0 ≤ x → x ≤ 255 → Q (some (.int 1)) M L) (h0 : ¬ (0 ≤ x ∧ x ≤ 255) → Q (some (.int 0)) M L) : ctA_isVariableSet g d [.int x] n M L Q := by
  obtain ⟨d, rfl⟩ := Nat.exists_eq_add_of_le' hd
  exact inA_isVariableSet (Nat.le_of_ble_eq_true rfl) (fun K hK => hK.1 [] 20 0 _ _ _ _ _ ⟨fun z => ⟨Or.inl rfl, Nat.le_refl _, h0 (fun w => absurd z (Int32.not_lt.mpr w.1))⟩, fun z => ⟨fun z1 => ⟨Or.inl rfl, Nat.le_refl _, h0 (fun w => absurd z1 (Int32.not_lt.mpr w.2))⟩, fun z1 => ⟨Or.inr rfl, Nat.le_refl _, h1 (Int32.not_lt.mp z) (Int32.not_lt.mp z1)⟩⟩⟩)
theorem cA_isStepLimit {x : Int32} (hd : 1 ≤ d) (h1 : 0 ≤ x → x ≤ 5000 → Q (some (.int 1)) M L) (h0 : ¬ (0 ≤ x ∧ x ≤ 5000) → Q (some (.int 0)) M L) : ctA_isStepLimit g d [.int x] n M L Q := by
  obtain ⟨d, rfl⟩ := Nat.exists_eq_add_of_le' hd
  exact inA_isStepLimit (Nat.le_of_ble_eq_true rfl) (fun K hK => hK.1 [] 20 0 _ _ _ _ _ ⟨fun z => ⟨Or.inl rfl, Nat.le_refl _, h0 (fun w => absurd z (Int32.not_lt.mpr w.1))⟩, fun z => ⟨fun z1 => ⟨Or.inl rfl, Nat.le_refl _, h0 (fun w => absurd z1 (Int32.not_lt.mpr w.2))⟩, fun z1 => ⟨Or.inr rfl, Nat.le_refl _, h1 (Int32.not_lt.mp z) (Int32.not_lt.mp z1)⟩⟩⟩)
theorem cA_canJump {q nd one oth : Int32} (hm : M 1 5 = nI m) (hm150 : m ≤ 150) (hd : 2 ≤ d) (h1 : jp_ok m q nd one oth → Q (some (.int 1)) M L) (h0 : ¬ jp_ok m q nd one oth → Q (some (.int 0)) M L) : ctA_canJump g d [.ref 0, .int q, .int nd, .int one, .int oth] n M L Q := by
  obtain ⟨d, rfl⟩ := Nat.exists_eq_add_of_le' (show 1 ≤ d by omega)
  have c0 : ¬ (0 : Int32) = 1 := by decide
  have c1 : ¬ (0 : Int32) = 2 := by decide
  have c2 : ¬ (1 : Int32) = 0 := by decide
  have c3 : ¬ (1 : Int32) = 2 := by decide
  have c4 : ¬ (2 : Int32) = 0 := by decide
  have c5 : ¬ (2 : Int32) = 1 := by decide
  by_cases e0 : q = 0
  · subst e0
    exact inA_canJump (Nat.le_of_ble_eq_true rfl) (fun K hK => hK.1 [] 60 0 _ _ _ _ _ ⟨fun _ => cA_isBlock (by omega) (fun j hj e => ⟨Or.inr rfl, Nat.le_refl _, h1 (Or.inl ⟨rfl, j, hj, e⟩)⟩) (fun w => ⟨Or.inl rfl, Nat.le_refl _, h0 (fun u => by
      obtain ⟨-, j, hj, e⟩ | ⟨u, -⟩ | ⟨u, -⟩ := u
      · exact w j hj e
      · exact c0 u
      · exact c1 u)⟩), fun z => absurd rfl z⟩)
  · by_cases e1 : q = 1
    · subst e1
      have no : ¬ (nd_is m nd ∧ bk_is one ∧ bk_is oth) → ¬ jp_ok m 1 nd one oth := fun w u => by
        obtain ⟨u, -⟩ | ⟨-, u⟩ | ⟨u, -⟩ := u
        · exact c2 u
        · exact w u
        · exact c3 u
      exact inA_canJump (Nat.le_of_ble_eq_true rfl) (fun K hK => hK.1 [] 60 0 _ _ _ _ _ ⟨fun z => absurd z c2, fun _ => ⟨fun _ => cN_has (by omega) hm hm150 (fun k hk ek => ⟨fun z => absurd z (by decide), fun _ => cA_isBlock (by omega) (fun j hj e => ⟨fun z => absurd z (by decide), fun _ => cA_isBlock (by omega) (fun j2 hj2 e2 => ⟨fun z => absurd z (by decide), fun _ => ⟨Or.inr rfl, Nat.le_refl _, h1 (Or.inr (Or.inl ⟨rfl, ⟨k, hk, ek⟩, ⟨j, hj, e⟩, ⟨j2, hj2, e2⟩⟩))⟩⟩) (fun w => ⟨fun _ => ⟨Or.inl rfl, Nat.le_refl _, h0 (no (fun u => by obtain ⟨-, -, j, hj, e⟩ := u; exact w j hj e))⟩, fun z => absurd rfl z⟩)⟩) (fun w => ⟨fun _ => ⟨Or.inl rfl, Nat.le_refl _, h0 (no (fun u => by obtain ⟨-, ⟨j, hj, e⟩, -⟩ := u; exact w j hj e))⟩, fun z => absurd rfl z⟩)⟩) (fun w => ⟨fun _ => ⟨Or.inl rfl, Nat.le_refl _, h0 (no (fun u => by obtain ⟨⟨j, hj, e⟩, -⟩ := u; exact w j hj e))⟩, fun z => absurd rfl z⟩), fun z => absurd rfl z⟩⟩)
    · by_cases e2 : q = 2
      · subst e2
        exact inA_canJump (Nat.le_of_ble_eq_true rfl) (fun K hK => hK.1 [] 60 0 _ _ _ _ _ ⟨fun z => absurd z c4, fun _ => ⟨fun z => absurd z c5, fun _ => ⟨fun _ => cN_has (by omega) hm hm150 (fun j hj e => ⟨Or.inr rfl, Nat.le_refl _, h1 (Or.inr (Or.inr ⟨rfl, j, hj, e⟩))⟩) (fun w => ⟨Or.inl rfl, Nat.le_refl _, h0 (fun u => by
          obtain ⟨u, -⟩ | ⟨u, -⟩ | ⟨-, j, hj, e⟩ := u
          · exact c4 u
          · exact c5 u
          · exact w j hj e)⟩), fun z => absurd rfl z⟩⟩⟩)
      · exact inA_canJump (Nat.le_of_ble_eq_true rfl) (fun K hK => hK.1 [] 60 0 _ _ _ _ _ ⟨fun z => absurd z e0, fun _ => ⟨fun z => absurd z e1, fun _ => ⟨fun z => absurd z e2, fun _ => ⟨trivial, Or.inl rfl, Nat.le_refl _, h0 (fun u => by
          obtain ⟨u, -⟩ | ⟨u, -⟩ | ⟨u, -⟩ := u
          · exact e0 u
          · exact e1 u
          · exact e2 u)⟩⟩⟩⟩)
theorem nd_sz_T (hN : nt_C M T m) {q a b : Int32} (hm : m ≤ 150) (hc : nd_can m q a b) : nd_sz M q a b = tz T q a b ∧ nd_vs M q a b = tv T q a b := by
  unfold nd_sz tz nd_vs tv
  constructor
  · by_cases h1 : 1 < q
    · obtain ⟨⟨i, hi, ha⟩, ⟨j, hj, hb⟩⟩ := nd_can_2 hc h1
      have r1 : M 5 i = T 3 i := hN.2 3 (by decide) i (Or.inl hi)
      have r2 : M 5 j = T 3 j := hN.2 3 (by decide) j (Or.inl hj)
      rw [if_pos h1, if_pos h1, ha, hb, nI_clamp (by omega), nI_clamp (by omega), r1, r2]
    · rw [if_neg h1, if_neg h1]
  · by_cases h0 : q = 0
    · rw [if_pos h0, if_pos h0]
    · by_cases h1 : q = 1
      · rw [if_neg h0, if_neg h0, if_pos h1, if_pos h1]
      · obtain ⟨⟨i, hi, ha⟩, ⟨j, hj, hb⟩⟩ := nd_can_3 hc h0 h1
        have r1 : M 6 i = T 4 i := hN.2 4 (by decide) i (Or.inl hi)
        have r2 : M 6 j = T 4 j := hN.2 4 (by decide) j (Or.inl hj)
        rw [if_neg h0, if_neg h0, if_neg h1, if_neg h1, ha, hb, nI_clamp (by omega), nI_clamp (by omega), r1, r2]
def mc_nodeC (M : mc_M) (T : Nat → Nat → Int32) (m : Nat) (q a b : Int32) : mc_M := mc_put (mc_put (mc_put (mc_put (mc_put (mc_put (mc_put M 2 m q) 3 m a) 4 m b) 5 m (tz T q a b)) 6 m (tv T q a b)) 1 6 (nd_mx (M 1 6) (tz T q a b))) 1 5 (nI (m + 1))
theorem cA_node (hg : mc_S0 g) (hm150 : m ≤ 150) (hN : nt_C M T m) {q a b : Int32} (hd : 6 ≤ d) (h1 : ¬ nd_can m q a b → Qt 0 M L) (h2 : nd_can m q a b → (60 < tz T q a b ∨ m = 150) → Qt 1 M L) (h0 : nd_can m q a b → ¬ 60 < tz T q a b → m < 150 → ∀ M', M' = mc_nodeC M T m q a b → Q (some (.int (nI m))) M' L) : cxA_node g d [.ref 0, .int q, .int a, .int b] n M L Q Qt := by
  obtain ⟨d, rfl⟩ := Nat.exists_eq_add_of_le' (show 1 ≤ d by omega)
  have hm := hN.1
  refine ixA_node hg (by omega) (Nat.le_of_ble_eq_true rfl) (fun K hK => hK.1 [] 60 0 _ _ _ _ _ (cN_canBe (by omega) hm hm150 (fun hc => ⟨fun _ => ⟨fun z => ?_, fun z => cN_size (m := m) (by omega) hm150 hc (fun r hr => ⟨fun w => ?_, fun w => ?_⟩)⟩, fun z => absurd z (by decide)⟩) (fun hc => ⟨fun z => absurd rfl z, fun _ => ⟨Nat.lt_succ_self _, h1 hc⟩⟩)))
  · rw [hm] at z
    have := (nI_leI (a := 150) (b := m) (by decide) (by omega)).mp z
    exact ⟨Nat.lt_succ_self _, h2 hc (Or.inr (by omega))⟩
  · rw [hm] at z
    have hlt : m < 150 := Nat.lt_of_not_le (fun v => z (nI_le (a := 150) v (by omega)))
    obtain ⟨e1, e2⟩ := nd_sz_T hN hm150 hc
    rw [hr, e1] at w
    refine cN_add (by omega) hm hlt hc (fun M' hM' => ⟨Nat.le_succ _, h0 hc (Int32.not_lt.mpr w) hlt M' ?_⟩)
    rw [hM', e1, e2]
    rfl
  · obtain ⟨e1, -⟩ := nd_sz_T hN hm150 hc
    rw [hr, e1] at w
    exact ⟨Nat.lt_succ_self _, h2 hc (Or.inl (Int32.not_le.mp w))⟩
theorem cA_assign (hg : mc_S0 g) (hm : M 1 5 = nI m) (hm150 : m ≤ 150) (hP : prC M m P) {x y z : Int32} (hd : 6 ≤ d) (h1 : ¬ (bk_is x ∧ vr_is y ∧ nd_is m z) → Qt 0 M L)
    (h2 : ∀ b, b < 16 → x = nI b → vr_is y → nd_is m z → ¬ (P b).2.1.length < 10 → Qt 1 M L)
    (h0 : ∀ b, b < 16 → x = nI b → vr_is y → nd_is m z → (P b).2.1.length < 10 → ∀ r M', r = nI ((P b).2.1.length + 1) → M' = fl_app M 7 b (P b).2.1.length (b * 11 + ((P b).2.1.length - 1)) y z → Q (some (.int r)) M' L) : cxA_assign g d [.ref 0, .int x, .int y, .int z] n M L Q Qt := by
  obtain ⟨d, rfl⟩ := Nat.exists_eq_add_of_le' (show 1 ≤ d by omega)
  have yes : ∀ (K : mc_K), mc_closed true tab0 n 1 (some .int) (sxA_assign g d) Q Qt tbA_assign K → ∀ b, b < 16 → x = nI b → vr_is y → nd_is m z → K 35 [some (.ref 0), some (.int x), some (.int y), some (.int z)] [] n M L := fun K hK b hb hx hy hz => by
    obtain ⟨-, a1, a2, a3, -⟩ := hP.2.2 b hb
    have q2 := h2 b hb hx hy hz
    have q0 := h0 b hb hx hy hz
    have vb : vp_in x 16 := by rw [hx]; exact vp_in_nI hb (by decide)
    have ex : x.toNatClampNeg = b := by rw [hx]; exact nI_clamp (by omega)
    have mx : M 9 x.toNatClampNeg = nI (P b).2.1.length := by rw [ex, a1]
    refine hK.1 [] 60 35 _ _ _ _ _ ⟨vb, fun w => ?_, fun w => ⟨Nat.lt_succ_self _, q2 (fun v => w (by rw [mx]; exact nI_lt (b := 10) v (by decide)))⟩⟩
    rw [mx] at w
    have hlt : (P b).2.1.length < 10 := (nI_ltI (b := 10) (by omega) (by decide)).mp w
    refine cF_append (f := 7) (w := 16) (c := (P b).2.1.length) (l := b * 11 + ((P b).2.1.length - 1)) (Or.inl ⟨rfl, rfl⟩) (by omega) hx hb a1 (by omega) (fun hp => ⟨(a3 hp).2, by omega⟩) (fun r M' hr hM' => ⟨vb, Nat.le_succ _, q0 hlt _ M' ?_ hM'⟩)
    obtain ⟨o9, -⟩ := fl_app_at M 7 b (P b).2.1.length (b * 11 + ((P b).2.1.length - 1)) y z
    have o9' := o9 b
    rw [if_pos rfl] at o9'
    rw [ex, hM']
    exact o9'
  exact ixA_assign hg (by omega) (Nat.le_of_ble_eq_true rfl) (fun K hK => hK.1 [35] 60 0 _ _ _ _ _ (cA_isBlock (by omega) (fun b hb hx => ⟨fun w => absurd w (by decide), fun _ => cA_isVariable (by omega) (fun v hv hy => ⟨fun w => absurd w (by decide), fun _ => cN_has (by omega) hm hm150 (fun k hk hz => ⟨fun _ => yes K hK b hb hx ⟨v, hv, hy⟩ ⟨k, hk, hz⟩, fun w => absurd w (by decide)⟩) (fun w => ⟨fun u => absurd rfl u, fun _ => ⟨Nat.lt_succ_self _, h1 (fun u => by obtain ⟨-, -, j, hj, e⟩ := u; exact w j hj e)⟩⟩)⟩) (fun w => ⟨fun _ => ⟨Nat.lt_succ_self _, h1 (fun u => by obtain ⟨-, ⟨j, hj, e⟩, -⟩ := u; exact w j hj e)⟩, fun u => absurd rfl u⟩)⟩) (fun w => ⟨fun _ => ⟨Nat.lt_succ_self _, h1 (fun u => by obtain ⟨⟨j, hj, e⟩, -⟩ := u; exact w j hj e)⟩, fun u => absurd rfl u⟩)))
theorem cA_jump (hg : mc_S0 g) (hm : M 1 5 = nI m) (hm150 : m ≤ 150) (hP : prC M m P) {x q nd one oth : Int32} (hd : 6 ≤ d) (h1 : ¬ (bk_is x ∧ jp_ok m q nd one oth) → Qt 0 M L)
    (h0 : ∀ b, b < 16 → x = nI b → jp_ok m q nd one oth → ∀ M', M' = mc_put (mc_put (mc_put (mc_put M 13 b q) 17 (b * 11 + 10) (if q = 0 then 150 else nd)) 14 b (if q = 2 then -1 else one)) 15 b (if q = 1 then oth else -1) → Q none M' L) : cxA_jump g d [.ref 0, .int x, .int q, .int nd, .int one, .int oth] n M L Q Qt := by
  obtain ⟨d, rfl⟩ := Nat.exists_eq_add_of_le' (show 1 ≤ d by omega)
  have yes : ∀ (K : mc_K), mc_closed true tab0 n 1 none (sxA_jump g d) Q Qt tbA_jump K → ∀ b, b < 16 → x = nI b → jp_ok m q nd one oth → K 30 [some (.ref 0), some (.int x), some (.int q), some (.int nd), some (.int one), some (.int oth)] [] n M L := fun K hK b hb hx hj => by
    have q0 := h0 b hb hx hj
    obtain ⟨-, -, -, -, -, -, a6, -⟩ := hP.2.2 b hb
    have st : ∀ (k1 : Int32) (M1 : mc_M), k1 = (if q = 0 then 150 else nd) → M1 = mc_put (mc_put M (7 + 6) b q) (7 + 10) (b * 11 + 10) k1 → K 50 [some (.ref 0), some (.int x), some (.int q), some (.int nd), some (.int one), some (.int oth)] [] n M1 L := fun k1 M1 hk1 hM1 => by
      have j1 : M1 (7 + 5) b = nI b := by
        rw [hM1, mc_put_at, if_neg (by omega), mc_put_at, if_neg (by omega)]
        exact a6
      have fin : ∀ t1 t2 M2, t1 = (if q = 2 then -1 else one) → t2 = (if q = 1 then oth else -1) → M2 = mc_put (mc_put M1 (7 + 7) b t1) (7 + 8) b t2 → n ≤ n + 1 ∧ Q none M2 L := fun t1 t2 M2 w1 w2 w3 => ⟨Nat.le_succ _, q0 M2 (by rw [w3, hM1, w1, w2, hk1])⟩
      have c1 : ¬ (2 : Int32) = 1 := by decide
      exact hK.1 [] 40 50 _ _ _ _ _ ⟨fun w2 => ⟨fun w1 => cF_setTargets (f := 7) (w := 16) (Or.inl ⟨rfl, rfl⟩) (by omega) hx hb j1 hb (fun M2 hM2 => fin _ _ M2 (by rw [if_neg w2]) (by rw [if_neg w1]) hM2), fun w1 => cF_setTargets (f := 7) (w := 16) (Or.inl ⟨rfl, rfl⟩) (by omega) hx hb j1 hb (fun M2 hM2 => fin _ _ M2 (by rw [if_neg w2]) (by rw [if_pos w1]) hM2)⟩, fun w2 => ⟨fun w1 => cF_setTargets (f := 7) (w := 16) (Or.inl ⟨rfl, rfl⟩) (by omega) hx hb j1 hb (fun M2 hM2 => fin _ _ M2 (by rw [if_pos w2]) (by rw [if_neg w1]) hM2), fun w1 => absurd (w2.symm.trans w1) c1⟩⟩
    exact hK.1 [50] 40 30 _ _ _ _ _ ⟨fun w => cF_setJump (f := 7) (w := 16) (Or.inl ⟨rfl, rfl⟩) (by omega) hx hb a6 hb (fun M1 hM1 => st _ M1 (by rw [if_neg w]) hM1), fun w => cF_setJump (f := 7) (w := 16) (Or.inl ⟨rfl, rfl⟩) (by omega) hx hb a6 hb (fun M1 hM1 => st _ M1 (by rw [if_pos w]) hM1)⟩
  exact ixA_jump hg (by omega) (Nat.le_of_ble_eq_true rfl) (fun K hK => hK.1 [30] 60 0 _ _ _ _ _ (cA_isBlock (by omega) (fun b hb hx => ⟨fun w => absurd w (by decide), fun _ => cA_canJump hm hm150 (by omega) (fun hj => ⟨fun _ => yes K hK b hb hx hj, fun w => absurd w (by decide)⟩) (fun w => ⟨fun u => absurd rfl u, fun _ => ⟨Nat.lt_succ_self _, h1 (fun u => w u.2)⟩⟩)⟩) (fun w => ⟨fun _ => ⟨Nat.lt_succ_self _, h1 (fun u => by obtain ⟨⟨j, hj, e⟩, -⟩ := u; exact w j hj e)⟩, fun u => absurd rfl u⟩)))
theorem cA_clear (hg : mc_S0 g) {x : Int32} (hd : 6 ≤ d) (h1 : ¬ bk_is x → Qt 0 M L) (h0 : ∀ b, b < 16 → x = nI b → ∀ r M', r = M 9 b → M' = fl_empty M 7 b (nI b) → Q (some (.int r)) M' L) : cxA_clear g d [.ref 0, .int x] n M L Q Qt := by
  obtain ⟨d, rfl⟩ := Nat.exists_eq_add_of_le' (show 1 ≤ d by omega)
  refine ixA_clear hg (by omega) (Nat.le_of_ble_eq_true rfl) (fun K hK => hK.1 [] 60 0 _ _ _ _ _ (cA_isBlock (by omega) (fun b hb hx => ⟨fun _ => ?_, fun w => absurd w (by decide)⟩) (fun w => ⟨fun u => absurd rfl u, fun _ => ⟨Nat.lt_succ_self _, h1 (fun u => by obtain ⟨j, hj, e⟩ := u; exact w j hj e)⟩⟩)))
  have vb : vp_in x 16 := by rw [hx]; exact vp_in_nI hb (by decide)
  have ex : M 9 x.toNatClampNeg = M 9 b := by rw [hx, nI_clamp (by omega)]
  exact ⟨vb, cF_makeEmpty (f := 7) (w := 16) (Or.inl ⟨rfl, rfl⟩) (by omega) hx hb (fun M' hM' => ⟨Nat.le_succ _, h0 b hb hx _ M' ex (by rw [hM', hx])⟩)⟩
theorem cA_input (hg : mc_S0 g) {x y : Int32} (hd : 6 ≤ d) (h1 : ¬ vr_is x → Qt 0 M L) (h0 : ∀ b, b < 8 → x = nI b → ∀ r M', r = M 20 b → M' = mc_put M 20 b y → Q (some (.int r)) M' L) : cxA_input g d [.ref 0, .int x, .int y] n M L Q Qt := by
  obtain ⟨d, rfl⟩ := Nat.exists_eq_add_of_le' (show 1 ≤ d by omega)
  refine ixA_input hg (by omega) (Nat.le_of_ble_eq_true rfl) (fun K hK => hK.1 [] 60 0 _ _ _ _ _ (cA_isVariable (by omega) (fun b hb hx => ⟨fun _ => ?_, fun w => absurd w (by decide)⟩) (fun w => ⟨fun u => absurd rfl u, fun _ => ⟨Nat.lt_succ_self _, h1 (fun u => by obtain ⟨j, hj, e⟩ := u; exact w j hj e)⟩⟩)))
  have vb : vp_in x 8 := by rw [hx]; exact vp_in_nI hb (by decide)
  have ex : x.toNatClampNeg = b := by rw [hx]; exact nI_clamp (by omega)
  exact ⟨vb, vb, Nat.le_succ _, h0 b hb hx _ _ (by rw [ex]) (by rw [ex])⟩
theorem cA_divide (hg : mc_S0 g) (hT : nt_ok T m) (hN : nt_C M T m) (hP : prg T m M P) {x : Int32} (hd : 6 ≤ d) (h1 : ¬ (0 ≤ x ∧ x ≤ 255) → Qt 2 M L) (h0 : 0 ≤ x → x ≤ 255 → ∀ r, r = 255 &&& (sp_dit T P 8 (255 &&& (x ^^^ (-1))) ^^^ (-1)) → Q (some (.int r)) M L) : cxA_divide g d [.ref 0, .int x] n M L Q Qt := by
  obtain ⟨d, rfl⟩ := Nat.exists_eq_add_of_le' (show 1 ≤ d by omega)
  exact ixA_divide hg (by omega) (Nat.le_of_ble_eq_true rfl) (fun K hK => hK.1 [] 60 0 _ _ _ _ _ (cA_isVariableSet (by omega) (fun l0 l1 => ⟨fun _ => cY_findStatics hT hN hP (by omega) (fun r hr => ⟨Nat.le_succ _, h0 l0 l1 r hr⟩), fun w => absurd w (by decide)⟩) (fun w => ⟨fun u => absurd rfl u, fun _ => ⟨Nat.lt_succ_self _, h1 w⟩⟩)))
theorem cA_live (hg : mc_S0 g) (hT : nt_ok T m) (hN : nt_C M T m) (hP : prg T m M P) (hpt : pt_ok P 16) {x : Int32} (hd : 6 ≤ d) (h1 : ¬ bk_is x → Qt 0 M L) (h0 : ∀ b, b < 16 → x = nI b → ∀ r M', r = sp_Y T P b → lvr M M' (sp_Y T P) → Q (some (.int r)) M' L) : cxA_live g d [.ref 0, .int x] n M L Q Qt := by
  obtain ⟨d, rfl⟩ := Nat.exists_eq_add_of_le' (show 1 ≤ d by omega)
  refine ixA_live hg (by omega) (Nat.le_of_ble_eq_true rfl) (fun K hK => hK.1 [] 60 0 _ _ _ _ _ (cA_isBlock (by omega) (fun b hb hx => ⟨fun _ => cY_findLives hT hN hP hpt (by omega) (fun M' hM' => ?_), fun w => absurd w (by decide)⟩) (fun w => ⟨fun u => absurd rfl u, fun _ => ⟨Nat.lt_succ_self _, h1 (fun u => by obtain ⟨j, hj, e⟩ := u; exact w j hj e)⟩⟩)))
  have vb : vp_in x 16 := by rw [hx]; exact vp_in_nI hb (by decide)
  have ex : M' 22 x.toNatClampNeg = sp_Y T P b := by
    rw [hx, nI_clamp (by omega)]
    exact hM'.2 b hb
  exact ⟨vb, Nat.le_succ _, h0 b hb hx _ M' ex hM'⟩
theorem cA_result (hg : mc_S0 g) {x : Int32} (hd : 6 ≤ d) (h1 : ¬ (0 ≤ x ∧ x ≤ 2) → Qt 2 M L) (h0 : 0 ≤ x → x ≤ 2 → ∀ r, r = (if x = 0 then M 23 1 else if x = 1 then M 23 2 else M 23 3) → Q (some (.int r)) M L) : cxA_result g d [.ref 0, .int x] n M L Q Qt := by
  obtain ⟨d, rfl⟩ := Nat.exists_eq_add_of_le' (show 1 ≤ d by omega)
  refine ixA_result hg (by omega) (Nat.le_of_ble_eq_true rfl) (fun K hK => hK.1 [] 60 0 _ _ _ _ _ ⟨fun z => ⟨Nat.le_succ _, h0 (by rw [z]; decide) (by rw [z]; decide) _ (by rw [if_pos z])⟩, fun z0 => ⟨fun z => ⟨Nat.le_succ _, h0 (by rw [z]; decide) (by rw [z]; decide) _ (by rw [if_neg z0, if_pos z])⟩, fun z1 => ⟨fun z => ⟨Nat.le_succ _, h0 (by rw [z]; decide) (by rw [z]; decide) _ (by rw [if_neg z0, if_neg z1])⟩, fun z2 => ⟨trivial, Nat.lt_succ_self _, h1 (fun w => ?_)⟩⟩⟩⟩)
  exact z0 (q_012 w.1 w.2 z1 z2)
theorem cA_run (hg : mc_S0 g) (hT : nt_ok T m) (hN : nt_C M T m) (hP : prg T m M P) (htg : tg_ok P 16) {x : Int32} (hd : 37 ≤ d) (h1 : ¬ (0 ≤ x ∧ x ≤ 5000) → Qt 2 M L) (h0 : ∀ l, l ≤ 5000 → x = nI l → ∀ M', tr_end M (sp_trav T 0 P l l 0 0 (M 20)) M' → Q (some (.int (bI (sp_trav T 0 P l l 0 0 (M 20)).1))) M' L) : cxA_run g d [.ref 0, .int x] n M L Q Qt := by
  obtain ⟨d, rfl⟩ := Nat.exists_eq_add_of_le' (show 1 ≤ d by omega)
  refine ixA_run hg (by omega) (Nat.le_of_ble_eq_true rfl) (fun K hK => hK.1 [] 60 0 _ _ _ _ _ (cA_isStepLimit (by omega) (fun l0 l2 => ⟨fun _ => ?_, fun w => absurd w (by decide)⟩) (fun w => ⟨fun u => absurd rfl u, fun _ => ⟨Nat.lt_succ_self _, h1 w⟩⟩)))
  obtain ⟨l, hl, hx⟩ := nI_lt_of (x := x) (m := 5001) (by decide) (Int32.not_lt.mpr l0) (fun z => absurd (Int32.le_trans z l2) (by decide))
  have hh := h0 l (by omega) hx
  exact cM_travel (f := 7) (w := 16) (nb := 16) (Or.inl ⟨rfl, rfl⟩) hT hN hP.2.1 hP.2.2 (by decide) (Nat.le_refl _) htg hx (by omega) (by omega) (fun e M' hM' => ⟨Or.inr rfl, Nat.le_succ _, by have q := hh M' hM'; rw [e] at q; exact q⟩) (fun e M' hM' => ⟨Or.inl rfl, Nat.le_succ _, by have q := hh M' hM'; rw [e] at q; exact q⟩)
end AC
