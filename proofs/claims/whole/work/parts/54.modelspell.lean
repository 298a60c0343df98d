/-! The text of a node -/
def sp_op (q : Int32) : Int32 := if q = 2 then 43 else if q = 3 then 45 else if q = 4 then 42 else if q = 5 then 61 else 60
def sp_pt (T : Nat → Nat → Int32) (S : Int32) (E : Nat → Int32) : Nat → Nat → List Int32
  | 0, _ => []
  | f + 1, k => if (T 4 k &&& (S ^^^ (-1))) = 0 then sp_num (nd_val (T 0) (T 1) (T 2) E k) else if T 0 k = 1 then [97 + T 1 k] else 40 :: (sp_pt T S E f (T 1 k).toNatClampNeg ++ (sp_op (T 0 k) :: (sp_pt T S E f (T 2 k).toNatClampNeg ++ [41])))
/-- how an inner node is made -/
theorem nt_in {T : Nat → Nat → Int32} {m : Nat} (hT : nt_ok T m) {k : Nat} (h4 : ¬ T 4 k = 0) (h1 : ¬ T 0 k = 1) : k < m ∧ ∃ a b s sa sb, a < k ∧ b < k ∧ T 1 k = nI a ∧ T 2 k = nI b ∧ T 3 k = nI s ∧ T 3 a = nI sa ∧ T 3 b = nI sb ∧ s = 1 + sa + sb ∧ s ≤ 60 ∧ 1 ≤ sa ∧ 1 ≤ sb ∧ T 4 k = T 4 a ||| T 4 b ∧ 2 ≤ T 0 k ∧ T 0 k ≤ 6 := by
  have hm := hT.1
  have hk : k < m := Nat.lt_of_not_le (fun z => h4 (hT.2.2 4 k z))
  obtain ⟨⟨s, g0, g1, g2, g3⟩, g4⟩ := hT.2.1 k hk
  unfold nd_vx at g4
  rcases g3 with g3 | ⟨g3, -⟩ | ⟨g3, g5, a, b, sa, sb, ha, hb, hA, hB, hsa, hsb, hs⟩
  · rw [if_pos g3] at g4
    exact absurd g4 h4
  · exact absurd g3 h1
  · have n0 : ¬ T 0 k = 0 := fun z => by rw [z] at g3; exact absurd g3 (by decide)
    rw [if_neg n0, if_neg h1, hA, hB, nI_clamp (by omega), nI_clamp (by omega)] at g4
    obtain ⟨⟨s1, c0, c1, c2, -⟩, -⟩ := hT.2.1 a (by omega)
    obtain ⟨⟨s2, d0, d1, d2, -⟩, -⟩ := hT.2.1 b (by omega)
    have e1 : sa = s1 := (nI_eq (by
      have : sa ≤ s := by omega
      omega) (by omega)).mp (hsa.symm.trans c0)
    have e2 : sb = s2 := (nI_eq (by
      have : sb ≤ s := by omega
      omega) (by omega)).mp (hsb.symm.trans d0)
    exact ⟨hk, a, b, s, sa, sb, ha, hb, hA, hB, g0, hsa, hsb, hs, g2, by omega, by omega, g4, g3, g5⟩
theorem and_0_of {x y : Int32} (h : x = 0) : x &&& y = 0 := by rw [h]; simp
theorem sp_pt_env {T : Nat → Nat → Int32} {m : Nat} (hT : nt_ok T m) {S : Int32} {E E' : Nat → Int32} : ∀ (f k : Nat), agr S (T 4 k) E E' → sp_pt T S E f k = sp_pt T S E' f k
  | 0, _, _ => rfl
  | f + 1, k, h => by
    unfold sp_pt
    by_cases e : (T 4 k &&& (S ^^^ (-1))) = 0
    · rw [if_pos e, if_pos e]
      have : nd_val (T 0) (T 1) (T 2) E k = nd_val (T 0) (T 1) (T 2) E' k := nd_val_env hT k (fun v hv hb => h v hv (by
        have := and_0_bit e hv hb
        rw [fl_bit_not _ hv] at this
        simpa using this) hb)
      rw [this]
    · rw [if_neg e, if_neg e]
      by_cases e1 : T 0 k = 1
      · rw [if_pos e1, if_pos e1]
      · rw [if_neg e1, if_neg e1]
        obtain ⟨hk, a, b, s, sa, sb, ha, hb, hA, hB, -, -, -, -, -, -, -, h4, -⟩ := nt_in hT (fun z => e (and_0_of z)) e1
        have hm := hT.1
        rw [hA, hB, nI_clamp (by omega), nI_clamp (by omega)]
        rw [sp_pt_env hT f a (fun v hv hs hx => h v hv hs (by rw [h4, fl_bit_or _ _ hv, hx]; rfl)), sp_pt_env hT f b (fun v hv hs hx => h v hv hs (by rw [h4, fl_bit_or _ _ hv, hx]; simp))]
theorem sp_pt_fuel {T : Nat → Nat → Int32} {m : Nat} (hT : nt_ok T m) {S : Int32} {E : Nat → Int32} : ∀ (k f f' : Nat), k < f → k < f' → sp_pt T S E f k = sp_pt T S E f' k := by
  intro k
  induction k using Nat.strongRecOn with
  | _ k ih =>
    intro f f' h h'
    obtain ⟨f, rfl⟩ := Nat.exists_eq_add_of_le' (show 1 ≤ f by omega)
    obtain ⟨f', rfl⟩ := Nat.exists_eq_add_of_le' (show 1 ≤ f' by omega)
    unfold sp_pt
    by_cases e : (T 4 k &&& (S ^^^ (-1))) = 0
    · rw [if_pos e, if_pos e]
    · rw [if_neg e, if_neg e]
      by_cases e1 : T 0 k = 1
      · rw [if_pos e1, if_pos e1]
      · rw [if_neg e1, if_neg e1]
        obtain ⟨hk, a, b, s, sa, sb, ha, hb, hA, hB, -⟩ := nt_in hT (fun z => e (and_0_of z)) e1
        have hm := hT.1
        rw [hA, hB, nI_clamp (by omega), nI_clamp (by omega), ih a ha f f' (by omega) (by omega), ih b hb f f' (by omega) (by omega)]
theorem sp_num_len (x : Int32) : (sp_num x).length ≤ 11 := by
  unfold sp_num
  split
  · have := sp_dg_len (-x.toInt).toNat 10 (sp_un (-x.toInt).toNat 9 1)
    simp
    omega
  · have := sp_dg_len x.toInt.toNat 10 (sp_un x.toInt.toNat 9 1)
    omega
theorem sp_pt_len {T : Nat → Nat → Int32} {m : Nat} (hT : nt_ok T m) {S : Int32} {E : Nat → Int32} : ∀ (f k : Nat), (sp_pt T S E f k).length ≤ 11 ∨ ∃ s, T 3 k = nI s ∧ s ≤ 60 ∧ (sp_pt T S E f k).length ≤ 12 * s
  | 0, _ => Or.inl (by show 0 ≤ 11; omega)
  | f + 1, k => by
    unfold sp_pt
    by_cases e : (T 4 k &&& (S ^^^ (-1))) = 0
    · rw [if_pos e]
      exact Or.inl (sp_num_len _)
    · rw [if_neg e]
      by_cases e1 : T 0 k = 1
      · rw [if_pos e1]
        exact Or.inl (by show 1 ≤ 11; omega)
      · rw [if_neg e1]
        obtain ⟨hk, a, b, s, sa, sb, ha, hb, hA, hB, hs, hsa, hsb, hss, h60, h1, h2, h4, -⟩ := nt_in hT (fun z => e (and_0_of z)) e1
        have hm := hT.1
        rw [hA, hB, nI_clamp (by omega), nI_clamp (by omega)]
        refine Or.inr ⟨s, hs, h60, ?_⟩
        have la : (sp_pt T S E f a).length ≤ 12 * sa := by
          rcases sp_pt_len hT (S := S) (E := E) f a with q | ⟨s', q1, q2, q3⟩
          · omega
          · have : s' = sa := (nI_eq (by omega) (by omega)).mp (q1.symm.trans hsa)
            rw [← this]
            exact q3
        have lb : (sp_pt T S E f b).length ≤ 12 * sb := by
          rcases sp_pt_len hT (S := S) (E := E) f b with q | ⟨s', q1, q2, q3⟩
          · omega
          · have : s' = sb := (nI_eq (by omega) (by omega)).mp (q1.symm.trans hsb)
            rw [← this]
            exact q3
        simp
        omega
/-! The model's worthOf and spell -/
def wvE (M : mc_M) (D : Int32) (p : Nat) : Nat → Int32 := fun v => if v < 8 ∧ fl_bit D v = false then M 94 (p * 8 + v) else M 78 v
section SP
variable {g : mc_G} {d n : Nat} {M : mc_M} {L : mc_L} {Q : Option Value → mc_M → mc_L → Prop} {T : Nat → Nat → Int32} {m : Nat} {tx : List Int32}
theorem cR_worthOf (hT : nt_ok T m) (hN : nt_R M T m) {D : Int32} (h24 : M 64 24 = D) {x : Int32} {p nd : Nat} (hx : x = nI p) (hp : p < 1100) (hj : jnR m (M 93 p) nd) (hd : 2 ≤ d) (h : ∀ r M', (∀ c, c ≠ 78 → c ≠ 79 → M' c = M c) → (∀ v, M' 78 v = wvE M D p v) → r = nd_val (T 0) (T 1) (T 2) (wvE M D p) nd → (∀ k, k ≤ nd → nd < m → M' 79 k = nd_val (T 0) (T 1) (T 2) (wvE M D p) k) → Q (some (.int r)) M' L) : ctR_worthOf g d [.ref 64, .int x] n M L Q := by
  obtain ⟨d, rfl⟩ := Nat.exists_eq_add_of_le' (show 1 ≤ d by omega)
  subst hx
  have hm := hT.1
  have vp : vp_in (nI p) 1100 := vp_in_nI hp (by decide)
  have ep : (nI p).toNatClampNeg = p := nI_clamp (by omega)
  have e8 : ∀ k v : Nat, (8 : Int32) * nI k + nI v = nI (k * 8 + v) := fun k v => by rw [show (8 : Int32) = nI 8 from rfl, nI_mul, nI_add, Nat.mul_comm]
  have lp : ∀ (K : mc_K), mc_closed true tab0 n 0 (some .int) (shR_worthOf g d) Q (fun _ _ _ => False) tbR_worthOf K → ∀ (y : Int32), y = M 93 p → ∀ (r v : Nat) (i : Int32) (M1 : mc_M), r + v = 8 → i = nI v → (∀ c, c ≠ 78 → M1 c = M c) → (∀ u, M1 78 u = if u < v then wvE M D p u else M 78 u) → K 9 [some (.ref 64), some (.int (nI p)), some (.int y), some (.int i)] [] n M1 L := by
    intro K hK y hy r
    induction r with
    | zero =>
      intro v i M1 hv hi e1 e2
      subst hi
      have hv8 : v = 8 := by omega
      subst hv8
      have c1 : (8 : Int32) ≤ nI 8 := nI_le (a := 8) (b := 8) (Nat.le_refl _) (by decide)
      have e3 : ∀ u, M1 78 u = wvE M D p u := fun u => by
        rw [e2 u]
        by_cases hu : u < 8
        · rw [if_pos hu]
        · rw [if_neg hu]
          unfold wvE
          rw [if_neg (fun z => hu z.1)]
      have f78 : M1 78 = wvE M D p := funext e3
      have hN1 : nt_R M1 T m := nt_R_to hN (by rw [e1 64 (by decide)]) (fun c _ _ => e1 c (by omega))
      subst hy
      refine hK.1 [] 40 9 _ _ _ _ _ ⟨fun _ => cR_worth hT hN1 (by
        rcases hj with hj | hj
        · exact Or.inl hj.1
        · exact Or.inr ⟨nd, hj.1, hj.2⟩) (by omega) (fun z => ⟨Nat.le_refl _, h _ M1 (fun c h1 _ => e1 c h1) e3 ?_ (fun k _ z2 => ?_)⟩) (fun k' hk z M' h1 h2 => ⟨Nat.le_refl _, h _ M' (fun c q1 q2 => (h1 c q2).trans (e1 c q1)) (fun v => by rw [h1 78 (by decide)]; exact e3 v) ?_ (fun k z1 z2 => ?_)⟩), fun z => absurd c1 z⟩
      · rcases hj with hj | hj
        · rw [hj.2, nd_val_0 (hT.2.2 0 150 (by omega)), hT.2.2 1 150 (by omega)]
        · rw [hj.2] at z
          exact absurd z (nI_ne_m1 (by omega))
      · rcases hj with hj | hj
        · omega
        · rw [hj.2] at z
          exact absurd z (nI_ne_m1 (by omega))
      · rcases hj with hj | hj
        · rw [hj.1] at z
          exact absurd z.symm (nI_ne_m1 (by omega))
        · rw [hj.2] at z
          have e := (nI_eq (by omega) (by omega)).mp z
          rw [← e, f78]
      · rcases hj with hj | hj
        · omega
        · rw [hj.2] at z
          have e := (nI_eq (by omega) (by omega)).mp z
          rw [h2 k (by omega), f78]
    | succ r ih =>
      intro v i M1 hv hi e1 e2
      subst hi
      have c1 : ¬ (8 : Int32) ≤ nI v := nI_ge (b := 8) (by omega) (by decide)
      have vi : vp_in (8 * nI p + nI v) 8800 := by rw [e8]; exact vp_in_nI (by omega) (by decide)
      have vv : vp_in (nI v) 8 := vp_in_nI (by omega) (by decide)
      have ei : (8 * nI p + nI v).toNatClampNeg = p * 8 + v := by rw [e8]; exact nI_clamp (by omega)
      have ev : (nI v).toNatClampNeg = v := nI_clamp (by omega)
      have e24 : M1 64 24 = D := by rw [e1 64 (by decide), h24]
      have go : ∀ z, z = wvE M D p v → K 9 [some (.ref 64), some (.int (nI p)), some (.int y), some (.int (nI v + 1))] [] n (mc_put M1 78 (nI v).toNatClampNeg z) L := fun z hz => by
        rw [ev]
        refine ih (v + 1) _ _ (by omega) (nI_1 v) (fun c hc => ?_) (fun u => ?_)
        · funext w
          rw [mc_put_at, if_neg (fun q => hc q.1), e1 c hc]
        · rw [mc_put_at, e2 u]
          by_cases e : u = v
          · rw [if_pos ⟨rfl, e⟩, if_pos (by omega), hz, e]
          · rw [if_neg (fun q => e q.2)]
            by_cases e3 : u < v
            · rw [if_pos e3, if_pos (by omega)]
            · rw [if_neg e3, if_neg (by omega)]
      cases hD : fl_bit D v with
      | true =>
        have hb1 : (M1 64 24 >>> (nI v &&& 31)) &&& 1 = 1 := by rw [e24]; exact fl_bit_t.mp hD
        exact hK.1 [9] 60 9 _ _ _ _ _ ⟨fun z => absurd z c1, fun _ => ⟨fun z => absurd hb1 z, fun _ => ⟨vv, vv, go _ (by
          rw [ev, e2 v, if_neg (Nat.lt_irrefl _)]
          unfold wvE
          rw [if_neg (fun z => by rw [hD] at z; cases z.2)])⟩⟩⟩
      | false =>
        have hb1 : ¬ (M1 64 24 >>> (nI v &&& 31)) &&& 1 = 1 := by
          rw [e24]
          intro z
          rw [fl_bit_t.mpr z] at hD
          cases hD
        exact hK.1 [9] 60 9 _ _ _ _ _ ⟨fun z => absurd z c1, fun _ => ⟨fun _ => ⟨vi, vv, go _ (by
          rw [ei, e1 94 (by decide)]
          unfold wvE
          rw [if_pos ⟨by omega, hD⟩])⟩, fun z => absurd z hb1⟩⟩
  exact inR_worthOf (Nat.le_of_ble_eq_true rfl) (fun K hK => hK.1 [9] 20 0 _ _ _ _ _ ⟨vp, lp K hK _ (by rw [ep]) 8 0 0 M rfl rfl (fun _ _ => rfl) (fun u => by rw [if_neg (Nat.not_lt_zero _)])⟩)
end SP
