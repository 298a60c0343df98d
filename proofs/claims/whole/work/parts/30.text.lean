/-! Text: signs and numbers -/
theorem lN_toInt' {n : Nat} (h : n < 2 ^ 63) : (lN n).toInt = (n : Int) := lg_ofNat_toInt h
theorem lN_div {a b : Nat} (ha : a < 2 ^ 63) (hb : b < 2 ^ 63) : lN a / lN b = lN (a / b) := by
  have hle : a / b ≤ a := Nat.div_le_self a b
  apply Int64.toInt_inj.mp
  rw [Int64.toInt_div, lN_toInt' ha, lN_toInt' hb, lN_toInt' (by omega), ← Int.ofNat_tdiv]
  generalize a / b = q at hle ⊢
  refine Int.bmod_eq_of_le ?_ ?_ <;> omega
theorem lN_lt' {a b : Nat} (ha : a < 2 ^ 63) (hb : b < 2 ^ 63) : lN a < lN b ↔ a < b := by
  rw [Int64.lt_iff_toInt_lt, lN_toInt' ha, lN_toInt' hb]
  omega
theorem lN_le' {a b : Nat} (ha : a < 2 ^ 63) (hb : b < 2 ^ 63) : lN a ≤ lN b ↔ a ≤ b := by
  rw [Int64.le_iff_toInt_le, lN_toInt' ha, lN_toInt' hb]
  omega
theorem lN_eq' {a b : Nat} (ha : a < 2 ^ 63) (hb : b < 2 ^ 63) : lN a = lN b ↔ a = b := by
  rw [← Int64.toInt_inj, lN_toInt' ha, lN_toInt' hb]
  omega
/-- the text so far -/
def txt (M : mc_M) (tx : List Int32) : Prop := M 35 2 = nI tx.length ∧ ∀ i, i < 3000 → ∀ c, tx[i]? = some c → M 36 i = c
def txf (M M' : mc_M) : Prop := (∀ c, c ≠ 35 → c ≠ 36 → M' c = M c) ∧ M' 35 3 = M 35 3
theorem txf_tr {M M' M'' : mc_M} (h : txf M M') (h' : txf M' M'') : txf M M'' := ⟨fun c h1 h2 => (h'.1 c h1 h2).trans (h.1 c h1 h2), h'.2.trans h.2⟩
section TX
variable {g : mc_G} {d n : Nat} {M : mc_M} {L : mc_L} {Q : Option Value → mc_M → mc_L → Prop} {tx : List Int32}
theorem cT_put {c : Int32} (ht : txt M tx) (hc : vp_nar .char c = c) (hl : tx.length + 1 < 2 ^ 31) (hd : 1 ≤ d) (h : ∀ M', txt M' (tx ++ [c]) → txf M M' → Q none M' L) : ctT_put g d [.ref 35, .int c] n M L Q := by
  obtain ⟨d, rfl⟩ := Nat.exists_eq_add_of_le' hd
  have full : (3000 : Int32) ≤ M 35 2 → Q none (mc_put M 35 2 (M 35 2 + 1)) L := fun z => by
    rw [ht.1] at z
    have z' : 3000 ≤ tx.length := (nI_leI (a := 3000) (by decide) (by omega)).mp z
    refine h _ ⟨?_, fun i hi c' hc' => ?_⟩ ⟨fun x h1 h2 => ?_, ?_⟩
    · rw [mc_put_at, if_pos ⟨rfl, rfl⟩, ht.1, nI_1, List.length_append]
      rfl
    · rw [List.getElem?_append_left (by omega)] at hc'
      rw [mc_put_at, if_neg (by omega)]
      exact ht.2 i hi c' hc'
    · funext y
      rw [mc_put_at, if_neg (fun w => h1 w.1)]
    · rw [mc_put_at, if_neg (by decide)]
  have room : ¬ (3000 : Int32) ≤ M 35 2 → vp_in (M 35 2) 3000 ∧ ∀ M1, M1 = mc_put M 36 (M 35 2).toNatClampNeg (vp_nar .char c) → Q none (mc_put M1 35 2 (M1 35 2 + 1)) L := fun z => by
    have z' : tx.length < 3000 := Nat.lt_of_not_le (fun w => z (by rw [ht.1]; exact nI_le (a := 3000) w (by omega)))
    refine ⟨by rw [ht.1]; exact vp_in_nI z' (by decide), fun M1 z1 => ?_⟩
    rw [hc, ht.1, nI_clamp (by omega)] at z1
    have m35 : M1 35 = M 35 := by
      funext y
      rw [z1, mc_put_at, if_neg (by omega)]
    refine h _ ⟨?_, fun i hi c' hc' => ?_⟩ ⟨fun x h1 h2 => ?_, ?_⟩
    · rw [mc_put_at, if_pos ⟨rfl, rfl⟩, m35, ht.1, nI_1, List.length_append]
      rfl
    · rw [mc_put_at, if_neg (by omega), z1, mc_put_at]
      by_cases e : i = tx.length
      · rw [if_pos ⟨rfl, e⟩]
        rw [e, List.getElem?_append_right (Nat.le_refl _), Nat.sub_self] at hc'
        exact Option.some.inj hc'
      · have hlt : i < tx.length := by
          have h1 := (List.getElem?_eq_some_iff.mp hc').1
          rw [List.length_append] at h1
          have h2 : i < tx.length + 1 := h1
          omega
        rw [List.getElem?_append_left hlt] at hc'
        rw [if_neg (fun w => e w.2)]
        exact ht.2 i hi c' hc'
    · funext y
      rw [mc_put_at, if_neg (fun w => h1 w.1), z1, mc_put_at, if_neg (fun w => h2 w.1)]
    · rw [mc_put_at, if_neg (by decide), m35]
  exact inT_put (Nat.le_of_ble_eq_true rfl) (fun K hK => hK.1 [] 30 0 _ _ _ _ _ ⟨fun z => ⟨Nat.le_refl _, full z⟩, fun z => ⟨(room z).1, Nat.le_refl _, (room z).2 _ rfl⟩⟩)
theorem cT_putLetter {v : Nat} {x : Int32} (hx : x = nI v) (hv : v < 8) (ht : txt M tx) (hl : tx.length + 1 < 2 ^ 31) (hd : 2 ≤ d) (h : ∀ M', txt M' (tx ++ [nI (97 + v)]) → txf M M' → Q none M' L) : ctT_putLetter g d [.ref 35, .int x] n M L Q := by
  obtain ⟨d, rfl⟩ := Nat.exists_eq_add_of_le' (show 1 ≤ d by omega)
  subst hx
  have e : (((97 : Int32) + nI v).toUInt32 % 65536).toInt32 = nI (97 + v) ∧ vp_nar .char ((((97 : Int32) + nI v).toUInt32 % 65536).toInt32) = (((97 : Int32) + nI v).toUInt32 % 65536).toInt32 := by
    have h9 : v = 0 ∨ v = 1 ∨ v = 2 ∨ v = 3 ∨ v = 4 ∨ v = 5 ∨ v = 6 ∨ v = 7 := by omega
    rcases h9 with rfl | rfl | rfl | rfl | rfl | rfl | rfl | rfl <;> decide +kernel
  exact inT_putLetter (Nat.le_of_ble_eq_true rfl) (fun K hK => hK.1 [] 30 0 _ _ _ _ _ (cT_put ht e.2 hl (by omega) (fun M' h1 h2 => ⟨Nat.le_refl _, h M' (by rw [← e.1]; exact h1) h2⟩)))
def sp_un (r : Nat) : Nat → Nat → Nat
  | 0, u => u
  | f + 1, u => if 10 ≤ r / u then sp_un r f (u * 10) else u
def sp_dg (r : Nat) : Nat → Nat → List Int32
  | 0, _ => []
  | f + 1, u => if 0 < u then nI (48 + r / u % 10) :: sp_dg r f (u / 10) else []
def sp_num (x : Int32) : List Int32 := if x < 0 then 45 :: sp_dg (-x.toInt).toNat 10 (sp_un (-x.toInt).toNat 9 1) else sp_dg x.toInt.toNat 10 (sp_un x.toInt.toNat 9 1)
theorem sp_dg_len (r : Nat) : ∀ f u, (sp_dg r f u).length ≤ f
  | 0, _ => Nat.le_refl _
  | f + 1, u => by
    unfold sp_dg
    split
    · have := sp_dg_len r f (u / 10)
      simp
      omega
    · simp
theorem sp_un_le (r : Nat) : ∀ f u, sp_un r f u ≤ u * 10 ^ f
  | 0, u => by simp [sp_un]
  | f + 1, u => by
    unfold sp_un
    split
    · have := sp_un_le r f (u * 10)
      rw [Nat.pow_succ, Nat.mul_comm (10 ^ f) 10, ← Nat.mul_assoc]
      exact this
    · exact Nat.le_mul_of_pos_right _ (Nat.pow_pos (by decide))
theorem ch_ok : ∀ q, q < 10 → ((nI (48 + q)).toUInt32 % 65536).toInt32 = nI (48 + q) ∧ vp_nar .char (nI (48 + q)) = nI (48 + q) := by
  intro q hq
  have h9 : q = 0 ∨ q = 1 ∨ q = 2 ∨ q = 3 ∨ q = 4 ∨ q = 5 ∨ q = 6 ∨ q = 7 ∨ q = 8 ∨ q = 9 := by omega
  rcases h9 with rfl | rfl | rfl | rfl | rfl | rfl | rfl | rfl | rfl | rfl <;> decide +kernel
theorem cT_digits {r : Nat} (hr : r < 2 ^ 32) {x : Int32} (hl : tx.length + 11 < 2 ^ 31) (hd : 1 ≤ d) (h : ∀ M', txt M' (tx ++ sp_dg r 10 (sp_un r 9 1)) → txf M M' → Q none M' L) (ht : txt M tx) (K : mc_K) (hK : mc_closed true tab0 n 0 none (shT_putNumber g d) Q (fun _ _ _ => False) tbT_putNumber K) : K 18 [some (.ref 35), some (.int x), some (.long (lN r)), none, none, none, none] [] n M L := by
  have l2 : ∀ (fu k : Nat) (i : Int32) (u : Nat) (M1 : mc_M) (t1 : List Int32), fu + k = 10 → i = nI k → u < 2 ^ 63 → txt M1 t1 → txf M M1 → t1.length ≤ tx.length + k → (∀ M', txt M' (t1 ++ sp_dg r fu u) → txf M M' → Q none M' L) → K 59 [some (.ref 35), some (.int x), some (.long (lN r)), none, some (.long (lN u)), none, some (.int i)] [] n M1 L := by
    intro fu
    induction fu with
    | zero =>
      intro k i u M1 t1 hk hi hu h1 h2 h3 h
      subst hi
      have c1 : (10 : Int32) ≤ nI k := nI_le (a := 10) (by omega) (by omega)
      have q := h M1 (by rw [show sp_dg r 0 u = [] from rfl, List.append_nil]; exact h1) h2
      exact hK.1 [] 20 59 _ _ _ _ _ ⟨fun _ => ⟨Nat.le_refl _, q⟩, fun z => absurd c1 z⟩
    | succ fu ih =>
      intro k i u M1 t1 hk hi hu h1 h2 h3 h
      subst hi
      have c1 : ¬ (10 : Int32) ≤ nI k := nI_ge (b := 10) (by omega) (by decide)
      have stop : lg_cmp (lN u) 0 ≤ 0 → Q none M1 L := fun z => by
        have z' : u ≤ 0 := (lN_le' (b := 0) hu (by decide)).mp ((lg_cmp_le _ _).mp z)
        refine h M1 ?_ h2
        unfold sp_dg
        rw [if_neg (by omega), List.append_nil]
        exact h1
      have pos : ¬ lg_cmp (lN u) 0 ≤ 0 → 0 < u := fun z => Nat.lt_of_not_le (fun w => z ((lg_cmp_le _ _).mpr ((lN_le' (b := 0) hu (by decide)).mpr w)))
      have nz : ¬ lg_cmp (lN u) 0 ≤ 0 → ¬ lN u = 0 := fun z w => by
        have := (lN_eq' (b := 0) hu (by decide)).mp w
        have := pos z
        omega
      have q1 : lN r / lN u = lN (r / u) := lN_div (by omega) hu
      have hq : r / u ≤ r := Nat.div_le_self r u
      have q2 : (48 : Int64) + (lN r / lN u - lN r / lN u / 10 * 10) = lN (48 + r / u % 10) := by
        rw [q1, show lN (r / u) / 10 = lN (r / u / 10) from lN_div (b := 10) (by omega) (by decide), show lN (r / u / 10) * 10 = lN (r / u / 10 * 10) from lN_mul _ 10, lN_sub (Nat.div_mul_le_self _ _)]
        rw [show r / u - r / u / 10 * 10 = r / u % 10 by omega]
        exact lN_add 48 _
      have hm : r / u % 10 < 10 := Nat.mod_lt _ (by decide)
      have q3 : (((48 : Int64) + (lN r / lN u - lN r / lN u / 10 * 10)).toInt32.toUInt32 % 65536).toInt32 = nI (48 + r / u % 10) := by
        rw [q2, lN_i]
        exact (ch_ok _ hm).1
      have q4 : vp_nar .char ((((48 : Int64) + (lN r / lN u - lN r / lN u / 10 * 10)).toInt32.toUInt32 % 65536).toInt32) = (((48 : Int64) + (lN r / lN u - lN r / lN u / 10 * 10)).toInt32.toUInt32 % 65536).toInt32 := by
        rw [q3]
        exact (ch_ok _ hm).2
      have q5 : lN u / 10 = lN (u / 10) := lN_div (b := 10) hu (by decide)
      have hu10 : u / 10 ≤ u := Nat.div_le_self u 10
      have nx : ¬ lg_cmp (lN u) 0 ≤ 0 → ∀ M2, txt M2 (t1 ++ [(((48 : Int64) + (lN r / lN u - lN r / lN u / 10 * 10)).toInt32.toUInt32 % 65536).toInt32]) → txf M1 M2 → K 59 [some (.ref 35), some (.int x), some (.long (lN r)), none, some (.long (lN u / 10)), none, some (.int (nI k + 1))] [] n M2 L := fun z M2 a1 a2 => by
        rw [q3] at a1
        rw [q5]
        refine ih (k + 1) _ (u / 10) M2 _ (by omega) (nI_1 k) (by omega) a1 (txf_tr h2 a2) (by rw [List.length_append]; simp; omega) (fun M' b1 b2 => h M' ?_ b2)
        rw [List.append_assoc] at b1
        conv => arg 2; arg 2; unfold sp_dg
        rw [if_pos (pos z)]
        exact b1
      exact hK.1 [59] 60 59 _ _ _ _ _ ⟨fun z => absurd z c1, fun _ => ⟨fun z => ⟨Nat.le_refl _, stop z⟩, fun z => ⟨nz z, by decide, cT_put h1 q4 (by omega) hd (fun M2 a1 a2 => ⟨by decide, nx z M2 a1 a2⟩)⟩⟩⟩
  have l1 : ∀ (fu k : Nat) (i : Int32) (u : Nat), fu + k = 9 → i = nI k → 0 < u → u ≤ 10 ^ k → sp_un r 9 1 = sp_un r fu u → K 24 [some (.ref 35), some (.int x), some (.long (lN r)), none, some (.long (lN u)), none, some (.int i)] [] n M L := by
    intro fu
    have fin : ∀ u, u < 2 ^ 63 → sp_un r 9 1 = u → ∀ i, K 56 [some (.ref 35), some (.int x), some (.long (lN r)), none, some (.long (lN u)), none, some (.int i)] [] n M L := fun u hu hq i => by
      have q := l2 10 0 0 u M tx rfl rfl hu ht ⟨fun _ _ _ => rfl, rfl⟩ (by omega) (by rw [← hq]; exact h)
      exact hK.1 [59] 20 56 _ _ _ _ _ q
    induction fu with
    | zero =>
      intro k i u hk hi hu0 hu hq
      subst hi
      have hk9 : k = 9 := by omega
      subst hk9
      have c1 : (9 : Int32) ≤ nI 9 := by decide
      have q := fin u (by omega) hq (nI 9)
      exact hK.1 [56] 20 24 _ _ _ _ _ ⟨fun _ => q, fun z => absurd c1 z⟩
    | succ fu ih =>
      intro k i u hk hi hu0 hu hq
      subst hi
      have c1 : ¬ (9 : Int32) ≤ nI k := nI_ge (b := 9) (by omega) (by decide)
      have hu9 : u ≤ 10 ^ 9 := Nat.le_trans hu (Nat.pow_le_pow_right (by decide) (by omega))
      have q1 : lN r / lN u = lN (r / u) := lN_div (by omega) (by omega)
      have hrq : r / u ≤ r := Nat.div_le_self r u
      have nz : ¬ lN u = 0 := fun w => by
        have := (lN_eq' (b := 0) (by omega) (by decide)).mp w
        omega
      have stop : lg_cmp (lN r / lN u) 10 < 0 → sp_un r 9 1 = u := fun z => by
        rw [q1] at z
        have z' : r / u < 10 := (lN_lt' (b := 10) (by omega) (by decide)).mp ((lg_cmp_lt _ _).mp z)
        rw [hq]
        unfold sp_un
        rw [if_neg (by omega)]
      have go : ¬ lg_cmp (lN r / lN u) 10 < 0 → K 24 [some (.ref 35), some (.int x), some (.long (lN r)), none, some (.long (lN u * 10)), none, some (.int (nI k + 1))] [] n M L := fun z => by
        rw [q1] at z
        have z' : 10 ≤ r / u := Nat.le_of_not_lt (fun w => z ((lg_cmp_lt _ _).mpr ((lN_lt' (b := 10) (by omega) (by decide)).mpr w)))
        rw [show lN u * 10 = lN (u * 10) from lN_mul u 10]
        refine ih (k + 1) _ (u * 10) (by omega) (nI_1 k) (by omega) (by rw [Nat.pow_succ]; omega) (hq.trans ?_)
        conv => lhs; unfold sp_un
        rw [if_pos z']
      exact hK.1 [24, 56] 30 24 _ _ _ _ _ ⟨fun z => absurd z c1, fun _ => ⟨nz, fun z => fin u (by omega) (stop z) _, go⟩⟩
  exact hK.1 [24] 20 18 _ _ _ _ _ (l1 9 0 0 1 rfl rfl (by decide) (by decide) rfl)
theorem cT_putNumber {x : Int32} (ht : txt M tx) (hl : tx.length + 12 < 2 ^ 31) (hd : 2 ≤ d) (h : ∀ M', txt M' (tx ++ sp_num x) → txf M M' → Q none M' L) : ctT_putNumber g d [.ref 35, .int x] n M L Q := by
  obtain ⟨d, rfl⟩ := Nat.exists_eq_add_of_le' (show 1 ≤ d by omega)
  have b1 := Int32.le_toInt x
  have b2 := Int32.toInt_lt x
  have neg : x < 0 ↔ x.toInt < 0 := by
    rw [Int32.lt_iff_toInt_lt]
    rfl
  have cmp : 0 ≤ lg_cmp x.toInt64 0 ↔ ¬ x < 0 := by
    rw [lg_cmp_ge, Int64.le_iff_toInt_le, Int32.toInt_toInt64, neg]
    show 0 ≤ x.toInt ↔ _
    omega
  have np : ¬ x < 0 → x.toInt64 = lN x.toInt.toNat := fun z => by
    apply Int64.toInt_inj.mp
    rw [Int32.toInt_toInt64, lN_toInt' (by rw [neg] at z; omega)]
    rw [neg] at z
    omega
  have nn : x < 0 → -x.toInt64 = lN (-x.toInt).toNat := fun z => by
    apply Int64.toInt_inj.mp
    rw [neg] at z
    rw [Int64.toInt_neg, Int32.toInt_toInt64, lN_toInt' (by omega)]
    rw [Int.bmod_eq_of_le (by omega) (by omega)]
    omega
  have gp : ∀ K, mc_closed true tab0 n 0 none (shT_putNumber g d) Q (fun _ _ _ => False) tbT_putNumber K → ¬ x < 0 → K 18 [some (.ref 35), some (.int x), some (.long x.toInt64), none, none, none, none] [] n M L := fun K hK z => by
    rw [np z]
    have hsn : sp_num x = sp_dg x.toInt.toNat 10 (sp_un x.toInt.toNat 9 1) := by
      unfold sp_num
      rw [if_neg z]
    rw [hsn] at h
    exact cT_digits (tx := tx) (r := x.toInt.toNat) (by omega) (by omega) (by omega) h ht K hK
  have gn : ∀ K, mc_closed true tab0 n 0 none (shT_putNumber g d) Q (fun _ _ _ => False) tbT_putNumber K → x < 0 → ∀ M1, txt M1 (tx ++ [45]) → txf M M1 → K 18 [some (.ref 35), some (.int x), some (.long (-x.toInt64)), none, none, none, none] [] n M1 L := fun K hK z M1 a1 a2 => by
    rw [nn z]
    have hsn : sp_num x = 45 :: sp_dg (-x.toInt).toNat 10 (sp_un (-x.toInt).toNat 9 1) := by
      unfold sp_num
      rw [if_pos z]
    rw [hsn] at h
    exact cT_digits (tx := tx ++ [45]) (r := (-x.toInt).toNat) (by omega) (by rw [List.length_append]; simp; omega) (by omega) (fun M' c1 c2 => h M' (by rw [List.append_assoc] at c1; exact c1) (txf_tr a2 c2)) a1 K hK
  exact inT_putNumber (Nat.le_of_ble_eq_true rfl) (fun K hK => hK.1 [18] 30 0 _ _ _ _ _ ⟨fun z => gp K hK (cmp.mp z), fun z => cT_put ht (by decide +kernel) (by omega) (by omega) (fun M1 a1 a2 => gn K hK (Decidable.of_not_not (fun w => z (cmp.mpr w))) M1 a1 a2)⟩)
end TX
