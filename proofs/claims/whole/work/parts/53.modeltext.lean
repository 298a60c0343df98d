/-! The model's signs and numbers -/
def txR (M : mc_M) (tx : List Int32) : Prop := M 64 42 = nI tx.length ∧ ∀ i, i < 3000 → ∀ c, tx[i]? = some c → M 96 i = c
def tfR (M M' : mc_M) : Prop := (∀ c, c ≠ 64 → c ≠ 96 → M' c = M c) ∧ ∀ i, i ≠ 42 → M' 64 i = M 64 i
theorem tfR_tr {M M' M'' : mc_M} (h : tfR M M') (h' : tfR M' M'') : tfR M M'' := ⟨fun c h1 h2 => (h'.1 c h1 h2).trans (h.1 c h1 h2), fun i hi => (h'.2 i hi).trans (h.2 i hi)⟩
theorem tfR_rf (M : mc_M) : tfR M M := ⟨fun _ _ _ => rfl, fun _ _ => rfl⟩
section RX
variable {g : mc_G} {d n : Nat} {M : mc_M} {L : mc_L} {Q : Option Value → mc_M → mc_L → Prop} {tx : List Int32}
theorem cR_put {c : Int32} (ht : txR M tx) (hl : tx.length + 1 < 2 ^ 31) (hd : 1 ≤ d) (h : ∀ M', txR M' (tx ++ [c]) → tfR M M' → Q none M' L) : ctR_put g d [.ref 64, .int c] n M L Q := by
  obtain ⟨d, rfl⟩ := Nat.exists_eq_add_of_le' hd
  have full : (3000 : Int32) ≤ M 64 42 → Q none (mc_put M 64 42 (M 64 42 + 1)) L := fun z => by
    rw [ht.1] at z
    have z' : 3000 ≤ tx.length := (nI_leI (a := 3000) (by decide) (by omega)).mp z
    refine h _ ⟨?_, fun i hi c' hc' => ?_⟩ ⟨fun x h1 h2 => ?_, fun i hi => ?_⟩
    · rw [mc_put_at, if_pos ⟨rfl, rfl⟩, ht.1, nI_1, List.length_append]
      rfl
    · rw [List.getElem?_append_left (by omega)] at hc'
      rw [mc_put_at, if_neg (by omega)]
      exact ht.2 i hi c' hc'
    · funext y
      rw [mc_put_at, if_neg (fun w => h1 w.1)]
    · rw [mc_put_at, if_neg (fun w => hi w.2)]
  have room : ¬ (3000 : Int32) ≤ M 64 42 → vp_in (M 64 42) 3000 ∧ ∀ M1, M1 = mc_put M 96 (M 64 42).toNatClampNeg c → Q none (mc_put M1 64 42 (M1 64 42 + 1)) L := fun z => by
    have z' : tx.length < 3000 := Nat.lt_of_not_le (fun w => z (by rw [ht.1]; exact nI_le (a := 3000) w (by omega)))
    refine ⟨by rw [ht.1]; exact vp_in_nI z' (by decide), fun M1 z1 => ?_⟩
    rw [ht.1, nI_clamp (by omega)] at z1
    have m64 : M1 64 = M 64 := by
      funext y
      rw [z1, mc_put_at, if_neg (by omega)]
    refine h _ ⟨?_, fun i hi c' hc' => ?_⟩ ⟨fun x h1 h2 => ?_, fun i hi => ?_⟩
    · rw [mc_put_at, if_pos ⟨rfl, rfl⟩, m64, ht.1, nI_1, List.length_append]
      rfl
    · rw [mc_put_at, if_neg (by omega), z1, mc_put_at]
      by_cases e : i = tx.length
      · rw [if_pos ⟨rfl, e⟩]
        rw [e, List.getElem?_append_right (Nat.le_refl _), Nat.sub_self] at hc'
        exact Option.some.inj hc'
      · have hlt : i < tx.length := by
          have h1 := (List.getElem?_eq_some_iff.mp hc').1
          rw [List.length_append] at h1
          have h2 : i < tx.length + 1 := h1
          omega
        rw [List.getElem?_append_left hlt] at hc'
        rw [if_neg (fun w => e w.2)]
        exact ht.2 i hi c' hc'
    · funext y
      rw [mc_put_at, if_neg (fun w => h1 w.1), z1, mc_put_at, if_neg (fun w => h2 w.1)]
    · rw [mc_put_at, if_neg (fun w => hi w.2), m64]
  exact inR_put (Nat.le_of_ble_eq_true rfl) (fun K hK => hK.1 [] 30 0 _ _ _ _ _ ⟨fun z => ⟨Nat.le_refl _, full z⟩, fun z => ⟨(room z).1, Nat.le_refl _, (room z).2 _ rfl⟩⟩)
theorem cR_digits {r : Nat} (hr : r < 2 ^ 32) {x : Int32} (hl : tx.length + 11 < 2 ^ 31) (hd : 1 ≤ d) (h : ∀ M', txR M' (tx ++ sp_dg r 10 (sp_un r 9 1)) → tfR M M' → Q none M' L) (ht : txR M tx) (K : mc_K) (hK : mc_closed true tab0 n 0 none (shR_number g d) Q (fun _ _ _ => False) tbR_number K) : K 24 [some (.ref 64), some (.int x), some (.long (lN r)), none, none, none] [] n M L := by
  have l2 : ∀ (fu k u : Nat) (M1 : mc_M) (t1 : List Int32), fu + k = 10 → u < 10 ^ fu → txR M1 t1 → tfR M M1 → t1.length ≤ tx.length + k → (∀ M', txR M' (t1 ++ sp_dg r fu u) → tfR M M' → Q none M' L) → K 49 [some (.ref 64), some (.int x), some (.long (lN r)), none, some (.long (lN u)), none] [] n M1 L := by
    intro fu
    induction fu with
    | zero =>
      intro k u M1 t1 hk hu h1 h2 h3 h
      have u0 : u = 0 := by
        have : u < 1 := hu
        omega
      subst u0
      have c1 : lg_cmp (lN 0) 0 ≤ 0 := (lg_cmp_le _ _).mpr ((lN_le' (a := 0) (b := 0) (by decide) (by decide)).mpr (Nat.le_refl _))
      have q := h M1 (by rw [show sp_dg r 0 0 = [] from rfl, List.append_nil]; exact h1) h2
      exact hK.1 [] 20 49 _ _ _ _ _ ⟨fun _ => ⟨Nat.le_refl _, q⟩, fun z => absurd c1 z⟩
    | succ fu ih =>
      intro k u M1 t1 hk hu h1 h2 h3 h
      have hu63 : u < 2 ^ 63 := Nat.lt_of_lt_of_le hu (Nat.le_trans (Nat.pow_le_pow_right (n := 10) (by decide) (show fu + 1 ≤ 10 by omega)) (by decide))
      have stop : lg_cmp (lN u) 0 ≤ 0 → Q none M1 L := fun z => by
        have z' : u ≤ 0 := (lN_le' (b := 0) hu63 (by decide)).mp ((lg_cmp_le _ _).mp z)
        refine h M1 ?_ h2
        unfold sp_dg
        rw [if_neg (by omega), List.append_nil]
        exact h1
      have pos : ¬ lg_cmp (lN u) 0 ≤ 0 → 0 < u := fun z => Nat.lt_of_not_le (fun w => z ((lg_cmp_le _ _).mpr ((lN_le' (b := 0) hu63 (by decide)).mpr w)))
      have nz : ¬ lg_cmp (lN u) 0 ≤ 0 → ¬ lN u = 0 := fun z w => by
        have := (lN_eq' (b := 0) hu63 (by decide)).mp w
        have := pos z
        omega
      have q1 : lN r / lN u = lN (r / u) := lN_div (by omega) hu63
      have hq : r / u ≤ r := Nat.div_le_self r u
      have q2 : lN r / lN u - lN r / lN u / 10 * 10 = lN (r / u % 10) := by
        rw [q1, show lN (r / u) / 10 = lN (r / u / 10) from lN_div (b := 10) (by omega) (by decide), show lN (r / u / 10) * 10 = lN (r / u / 10 * 10) from lN_mul _ 10, lN_sub (Nat.div_mul_le_self _ _)]
        rw [show r / u - r / u / 10 * 10 = r / u % 10 by omega]
      have hm : r / u % 10 < 10 := Nat.mod_lt _ (by decide)
      have q3 : (48 : Int32) + (lN r / lN u - lN r / lN u / 10 * 10).toInt32 = nI (48 + r / u % 10) := by
        rw [q2, lN_i]
        exact nI_add 48 _
      have q5 : lN u / 10 = lN (u / 10) := lN_div (b := 10) hu63 (by decide)
      have nx : ¬ lg_cmp (lN u) 0 ≤ 0 → ∀ M2, txR M2 (t1 ++ [(48 : Int32) + (lN r / lN u - lN r / lN u / 10 * 10).toInt32]) → tfR M1 M2 → K 49 [some (.ref 64), some (.int x), some (.long (lN r)), none, some (.long (lN u / 10)), none] [] n M2 L := fun z M2 a1 a2 => by
        rw [q3] at a1
        rw [q5]
        refine ih (k + 1) (u / 10) M2 _ (by omega) (by rw [Nat.pow_succ] at hu; omega) a1 (tfR_tr h2 a2) (by rw [List.length_append]; simp; omega) (fun M' b1 b2 => h M' ?_ b2)
        rw [List.append_assoc] at b1
        conv => arg 2; arg 2; unfold sp_dg
        rw [if_pos (pos z)]
        exact b1
      exact hK.1 [49] 60 49 _ _ _ _ _ ⟨fun z => ⟨Nat.le_refl _, stop z⟩, fun z => ⟨nz z, by decide, cR_put h1 (by omega) hd (fun M2 a1 a2 => ⟨by decide, nx z M2 a1 a2⟩)⟩⟩
  have l1 : ∀ (fu k u : Nat), fu + k = 9 → u = 10 ^ k → sp_un r 9 1 = sp_un r fu u → K 27 [some (.ref 64), some (.int x), some (.long (lN r)), none, some (.long (lN u)), none] [] n M L := by
    intro fu
    have fin : ∀ u, u < 10 ^ 10 → sp_un r 9 1 = u → K 49 [some (.ref 64), some (.int x), some (.long (lN r)), none, some (.long (lN u)), none] [] n M L := fun u hu hq => l2 10 0 u M tx rfl hu ht (tfR_rf M) (by omega) (by rw [← hq]; exact h)
    induction fu with
    | zero =>
      intro k u hk hu hq
      have hk9 : k = 9 := by omega
      subst hk9
      have m1 : lN u * 10 = lN (u * 10) := lN_mul u 10
      have c1 : 0 < lg_cmp (lN u * 10) (lN r) := by
        rw [m1]
        refine (lg_cmp_gt _ _).mpr ((lN_lt' (by omega) (by omega)).mpr ?_)
        omega
      exact hK.1 [49] 20 27 _ _ _ _ _ ⟨fun _ => fin u (by omega) hq, fun z => absurd c1 z⟩
    | succ fu ih =>
      intro k u hk hu hq
      have hu9 : u ≤ 10 ^ 9 := by rw [hu]; exact Nat.pow_le_pow_right (by decide) (by omega)
      have hu0 : 0 < u := by rw [hu]; exact Nat.pow_pos (by decide)
      have m1 : lN u * 10 = lN (u * 10) := lN_mul u 10
      have stop : 0 < lg_cmp (lN u * 10) (lN r) → sp_un r 9 1 = u := fun z => by
        rw [m1] at z
        have z' := (lN_lt' (by omega) (by omega)).mp ((lg_cmp_gt _ _).mp z)
        rw [hq]
        unfold sp_un
        rw [if_neg (fun w => by have := (Nat.le_div_iff_mul_le hu0).mp w; omega)]
      have go : ¬ 0 < lg_cmp (lN u * 10) (lN r) → K 27 [some (.ref 64), some (.int x), some (.long (lN r)), none, some (.long (lN u * 10)), none] [] n M L := fun z => by
        rw [m1] at z ⊢
        have z' : u * 10 ≤ r := Nat.le_of_not_lt (fun w => z ((lg_cmp_gt _ _).mpr ((lN_lt' (by omega) (by omega)).mpr w)))
        refine ih (k + 1) (u * 10) (by omega) (by rw [hu, Nat.pow_succ]) (hq.trans ?_)
        conv => lhs; unfold sp_un
        rw [if_pos ((Nat.le_div_iff_mul_le hu0).mpr (by omega))]
      exact hK.1 [27, 49] 30 27 _ _ _ _ _ ⟨fun z => fin u (by omega) (stop z), go⟩
  exact hK.1 [27] 20 24 _ _ _ _ _ (l1 9 0 1 rfl (by decide) rfl)
theorem cR_number {x : Int32} (ht : txR M tx) (hl : tx.length + 12 < 2 ^ 31) (hd : 2 ≤ d) (h : ∀ M', txR M' (tx ++ sp_num x) → tfR M M' → Q none M' L) : ctR_number g d [.ref 64, .int x] n M L Q := by
  obtain ⟨d, rfl⟩ := Nat.exists_eq_add_of_le' (show 1 ≤ d by omega)
  have b1 := Int32.le_toInt x
  have b2 := Int32.toInt_lt x
  have neg : x < 0 ↔ x.toInt < 0 := by
    rw [Int32.lt_iff_toInt_lt]
    rfl
  have np : ¬ x < 0 → x.toInt64 = lN x.toInt.toNat := fun z => by
    apply Int64.toInt_inj.mp
    rw [Int32.toInt_toInt64, lN_toInt' (by rw [neg] at z; omega)]
    rw [neg] at z
    omega
  have nn : x < 0 → 0 - x.toInt64 = lN (-x.toInt).toNat := fun z => by
    apply Int64.toInt_inj.mp
    rw [neg] at z
    rw [Int64.zero_sub, Int64.toInt_neg, Int32.toInt_toInt64, lN_toInt' (by omega)]
    rw [Int.bmod_eq_of_le (by omega) (by omega)]
    omega
  by_cases z : x < 0
  · have z1 : ¬ 0 ≤ x := Int32.not_le.mpr z
    have hsn : sp_num x = 45 :: sp_dg (-x.toInt).toNat 10 (sp_un (-x.toInt).toNat 9 1) := by
      unfold sp_num
      rw [if_pos z]
    rw [hsn] at h
    have gn : ∀ K, mc_closed true tab0 n 0 none (shR_number g d) Q (fun _ _ _ => False) tbR_number K → ∀ M1, txR M1 (tx ++ [45]) → tfR M M1 → K 24 [some (.ref 64), some (.int x), some (.long (0 - x.toInt64)), none, none, none] [] n M1 L := fun K hK M1 a1 a2 => by
      rw [nn z]
      exact cR_digits (tx := tx ++ [45]) (r := (-x.toInt).toNat) (by omega) (by rw [List.length_append]; simp; omega) (by omega) (fun M' c1 c2 => h M' (by rw [List.append_assoc] at c1; exact c1) (tfR_tr a2 c2)) a1 K hK
    exact inR_number (Nat.le_of_ble_eq_true rfl) (fun K hK => hK.1 [24] 30 0 _ _ _ _ _ ⟨fun w => absurd w z1, fun _ => ⟨fun w => absurd w z1, fun _ => cR_put ht (by omega) (by omega) (fun M1 a1 a2 => gn K hK M1 a1 a2)⟩⟩)
  · have z1 : 0 ≤ x := Int32.not_lt.mp z
    have hsn : sp_num x = sp_dg x.toInt.toNat 10 (sp_un x.toInt.toNat 9 1) := by
      unfold sp_num
      rw [if_neg z]
    rw [hsn] at h
    have gp : ∀ K, mc_closed true tab0 n 0 none (shR_number g d) Q (fun _ _ _ => False) tbR_number K → K 24 [some (.ref 64), some (.int x), some (.long x.toInt64), none, none, none] [] n M L := fun K hK => by
      rw [np z]
      exact cR_digits (tx := tx) (r := x.toInt.toNat) (by omega) (by omega) (by omega) h ht K hK
    exact inR_number (Nat.le_of_ble_eq_true rfl) (fun K hK => hK.1 [24] 30 0 _ _ _ _ _ ⟨fun _ => ⟨fun _ => gp K hK, fun w => absurd z1 w⟩, fun w => absurd z1 w⟩)
end RX
