/-! The model's dynamics -/
theorem nI_div {a b : Nat} (ha : a < 2 ^ 31) (hb : b < 2 ^ 31) : nI a / nI b = nI (a / b) := by
  have hle : a / b ≤ a := Nat.div_le_self a b
  apply Int32.toInt_inj.mp
  rw [Int32.toInt_div, nI_toInt ha, nI_toInt hb, nI_toInt (by omega), ← Int.ofNat_tdiv]
  generalize a / b = q at hle ⊢
  refine Int.bmod_eq_of_le ?_ ?_ <;> omega
theorem nI_sub {a b : Nat} (h : b ≤ a) : nI a - nI b = nI (a - b) := by
  have : nI a = nI (a - b) + nI b := by rw [nI_add, Nat.sub_add_cancel h]
  rw [this, Int32.add_sub_cancel]
theorem nI_rem10 {a : Nat} (ha : a < 2 ^ 31) : nI a - nI a / 10 * 10 = nI (a % 10) := by
  rw [show nI a / 10 = nI (a / 10) from nI_div (b := 10) ha (by decide), show nI (a / 10) * 10 = nI (a / 10 * 10) from nI_mul _ 10, nI_sub (Nat.div_mul_le_self _ _)]
  congr 1
  omega
/-- how the model holds the program's assignments -/
def pgR (M : mc_M) (m : Nat) (P : Nat → Blk) : Prop := ∀ b, b < 16 → M 70 b = nI (P b).2.1.length ∧ (P b).2.1.length ≤ 10 ∧ ∀ i, i < (P b).2.1.length → ∃ v k, v < 8 ∧ k < m ∧ (P b).2.1[i]? = some (v, k, fun _ => 0) ∧ M 71 (b * 10 + i) = nI v ∧ M 72 (b * 10 + i) = nI k
def rmd (T : Nat → Nat → Int32) (P : Nat → Blk) (k : Nat) (D : Int32) : Int32 := sp_dr T P (16 - (k / 10 + 1)) (k / 10 + 1) (sp_dyn T ((P (k / 10)).2.1.drop (k % 10)) D)
theorem rmd_out {T : Nat → Nat → Int32} {P : Nat → Blk} {k : Nat} {D : Int32} (h10 : (P (k / 10)).2.1.length ≤ 10) (hk : k < 160) (h : (P (k / 10)).2.1.length ≤ k % 10) : rmd T P k D = if k + 1 < 160 then rmd T P (k + 1) D else D := by
  unfold rmd
  rw [List.drop_eq_nil_of_le h]
  by_cases h1 : k + 1 < 160
  · rw [if_pos h1]
    by_cases h9 : k % 10 = 9
    · rw [show (k + 1) / 10 = k / 10 + 1 by omega, show (k + 1) % 10 = 0 by omega, List.drop_zero, show 16 - (k / 10 + 1) = (16 - (k / 10 + 1 + 1)) + 1 by omega]
      rfl
    · rw [show (k + 1) / 10 = k / 10 by omega, List.drop_eq_nil_of_le (by omega)]
  · rw [if_neg h1, show k / 10 = 15 by omega]
    rfl
theorem rmd_in {T : Nat → Nat → Int32} {P : Nat → Blk} {k v nd : Nat} {fr : Nat → Int32} {D : Int32} (h10 : (P (k / 10)).2.1.length ≤ 10) (hk : k < 160) (h : (P (k / 10)).2.1[k % 10]? = some (v, nd, fr)) : rmd T P k D = if k + 1 < 160 then rmd T P (k + 1) (if ¬ (T 4 nd &&& D) = 0 then D ||| (1 <<< (nI v &&& 31)) else D) else (if ¬ (T 4 nd &&& D) = 0 then D ||| (1 <<< (nI v &&& 31)) else D) := by
  have hl := (List.getElem?_eq_some_iff.mp h).1
  have hd : (P (k / 10)).2.1.drop (k % 10) = (v, nd, fr) :: (P (k / 10)).2.1.drop (k % 10 + 1) := by
    rw [List.drop_eq_getElem_cons hl, (List.getElem?_eq_some_iff.mp h).2]
  have e : ∀ D, rmd T P k D = sp_dr T P (16 - (k / 10 + 1)) (k / 10 + 1) (sp_dyn T ((P (k / 10)).2.1.drop (k % 10 + 1)) (if ¬ (T 4 nd &&& D) = 0 then D ||| (1 <<< (nI v &&& 31)) else D)) := fun D => by
    unfold rmd
    rw [hd]
    rfl
  rw [e]
  generalize (if ¬ (T 4 nd &&& D) = 0 then D ||| (1 <<< (nI v &&& 31)) else D) = D'
  by_cases h1 : k + 1 < 160
  · rw [if_pos h1]
    unfold rmd
    by_cases h9 : k % 10 = 9
    · rw [show (k + 1) / 10 = k / 10 + 1 by omega, show (k + 1) % 10 = 0 by omega, List.drop_zero, show 16 - (k / 10 + 1) = (16 - (k / 10 + 1 + 1)) + 1 by omega, List.drop_eq_nil_of_le (by omega)]
      rfl
    · rw [show (k + 1) / 10 = k / 10 by omega, show (k + 1) % 10 = k % 10 + 1 by omega]
  · rw [if_neg h1, show k / 10 = 15 by omega, List.drop_eq_nil_of_le (by rw [show k / 10 = 15 by omega] at h10; omega)]
    rfl
