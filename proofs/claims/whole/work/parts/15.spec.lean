/-! What a flow is, apart from how it is held -/
theorem bv_and1 (x : BitVec 32) : (x &&& 1#32 = 0#32) ↔ x.getLsbD 0 = false := by
  rw [BitVec.and_one_eq_setWidth_ofBool_getLsbD]
  cases x.getLsbD 0 <;> decide
theorem fl_bit_get (S : Int32) (v : Nat) (hv : v < 8) : fl_bit S v = S.toBitVec.getLsbD v := by
  have h : ∀ k : Nat, k < 8 → ((S >>> (nI k &&& 31)) &&& 1).toBitVec = S.toBitVec.sshiftRight k &&& 1#32 := by
    intro k hk
    rw [Int32.toBitVec_and, Int32.toBitVec_shiftRight]
    have h8 : k = 0 ∨ k = 1 ∨ k = 2 ∨ k = 3 ∨ k = 4 ∨ k = 5 ∨ k = 6 ∨ k = 7 := by omega
    rcases h8 with rfl | rfl | rfl | rfl | rfl | rfl | rfl | rfl <;> rfl
  have h2 : (((S >>> (nI v &&& 31)) &&& 1) = 0) ↔ S.toBitVec.getLsbD v = false := by
    rw [← Int32.toBitVec_inj, h v hv]
    show (_ &&& 1#32 = 0#32) ↔ _
    rw [bv_and1, BitVec.getLsbD_sshiftRight]
    simp
    omega
  unfold fl_bit
  cases hb : S.toBitVec.getLsbD v with
  | false => simp [h2.mpr hb]
  | true =>
    have : ¬ ((S >>> (nI v &&& 31)) &&& 1) = 0 := fun z => by rw [h2.mp z] at hb; cases hb
    simp [this]
theorem fl_bit_or (x y : Int32) {v : Nat} (hv : v < 8) : fl_bit (x ||| y) v = (fl_bit x v || fl_bit y v) := by
  rw [fl_bit_get _ _ hv, fl_bit_get _ _ hv, fl_bit_get _ _ hv]
  simp
theorem fl_bit_and (x y : Int32) {v : Nat} (hv : v < 8) : fl_bit (x &&& y) v = (fl_bit x v && fl_bit y v) := by
  rw [fl_bit_get _ _ hv, fl_bit_get _ _ hv, fl_bit_get _ _ hv]
  simp
theorem fl_bit_not (x : Int32) {v : Nat} (hv : v < 8) : fl_bit (x ^^^ (-1)) v = !fl_bit x v := by
  rw [fl_bit_get _ _ hv, fl_bit_get _ _ hv, Int32.toBitVec_xor, BitVec.getLsbD_xor]
  have : ((-1 : Int32).toBitVec).getLsbD v = true := by
    have h8 : v = 0 ∨ v = 1 ∨ v = 2 ∨ v = 3 ∨ v = 4 ∨ v = 5 ∨ v = 6 ∨ v = 7 := by omega
    rcases h8 with rfl | rfl | rfl | rfl | rfl | rfl | rfl | rfl <;> decide
  rw [this]
  simp
theorem fl_bit_one {a v : Nat} (ha : a < 8) (hv : v < 8) : fl_bit (1 <<< (nI a &&& 31)) v = decide (v = a) := by
  have h8 : a = 0 ∨ a = 1 ∨ a = 2 ∨ a = 3 ∨ a = 4 ∨ a = 5 ∨ a = 6 ∨ a = 7 := by omega
  have h9 : v = 0 ∨ v = 1 ∨ v = 2 ∨ v = 3 ∨ v = 4 ∨ v = 5 ∨ v = 6 ∨ v = 7 := by omega
  rcases h8 with rfl | rfl | rfl | rfl | rfl | rfl | rfl | rfl <;> rcases h9 with rfl | rfl | rfl | rfl | rfl | rfl | rfl | rfl <;> decide
theorem fl_bit_255 {v : Nat} (hv : v < 8) : fl_bit 255 v = true := by
  have h9 : v = 0 ∨ v = 1 ∨ v = 2 ∨ v = 3 ∨ v = 4 ∨ v = 5 ∨ v = 6 ∨ v = 7 := by omega
  rcases h9 with rfl | rfl | rfl | rfl | rfl | rfl | rfl | rfl <;> decide
theorem fl_bit_0 (v : Nat) : fl_bit 0 v = false := by
  simp [fl_bit]
