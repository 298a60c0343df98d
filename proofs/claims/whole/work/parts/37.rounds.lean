/-! Eight rounds suffice for the dynamic variables -/
def hi_eq (x y : Int32) : Prop := ∀ i, 8 ≤ i → x.toBitVec.getLsbD i = y.toBitVec.getLsbD i
theorem st_ext {x y : Int32} (h : hi_eq x y) (hb : ∀ v, v < 8 → fl_bit x v = fl_bit y v) : x = y := by
  apply Int32.toBitVec_inj.mp
  apply BitVec.eq_of_getLsbD_eq
  intro i hi
  by_cases h8 : i < 8
  · have := hb i h8
    rw [fl_bit_get _ _ h8, fl_bit_get _ _ h8] at this
    exact this
  · exact h i (by omega)
theorem one_hi {v i : Nat} (hv : v < 8) (hi : 8 ≤ i) : ((1 : Int32) <<< (nI v &&& 31)).toBitVec.getLsbD i = false := by
  have key : ∀ q : Nat, q < 256 → (BitVec.ofNat 32 q).getLsbD i = false := fun q hq => by
    rw [BitVec.getLsbD_ofNat]
    have : q.testBit i = false := Nat.testBit_lt_two_pow (Nat.lt_of_lt_of_le hq (Nat.pow_le_pow_right (n := 2) (by decide) hi : 2 ^ 8 ≤ 2 ^ i))
    rw [this]
    simp
  have h9 : v = 0 ∨ v = 1 ∨ v = 2 ∨ v = 3 ∨ v = 4 ∨ v = 5 ∨ v = 6 ∨ v = 7 := by omega
  rcases h9 with rfl | rfl | rfl | rfl | rfl | rfl | rfl | rfl
  · exact key 1 (by decide)
  · exact key 2 (by decide)
  · exact key 4 (by decide)
  · exact key 8 (by decide)
  · exact key 16 (by decide)
  · exact key 32 (by decide)
  · exact key 64 (by decide)
  · exact key 128 (by decide)
/-- grows within the eight variables -/
def grw (x y : Int32) : Prop := hi_eq y x ∧ ∀ v, v < 8 → fl_bit x v = true → fl_bit y v = true
theorem grw_rf (x : Int32) : grw x x := ⟨fun _ _ => rfl, fun _ _ h => h⟩
theorem grw_tr {x y z : Int32} (h : grw x y) (h' : grw y z) : grw x z := ⟨fun i hi => (h'.1 i hi).trans (h.1 i hi), fun v hv hb => h'.2 v hv (h.2 v hv hb)⟩
theorem grw_or {x : Int32} {v : Nat} (hv : v < 8) : grw x (x ||| (1 <<< (nI v &&& 31))) := by
  refine ⟨fun i hi => ?_, fun u hu hb => ?_⟩
  · rw [Int32.toBitVec_or, BitVec.getLsbD_or, one_hi hv hi, Bool.or_false]
  · rw [fl_bit_or _ _ hu, hb]
    rfl
theorem sp_dyn_grw {T : Nat → Nat → Int32} : ∀ (l : List Asg) (D : Int32), (∀ a ∈ l, a.1 < 8) → grw D (sp_dyn T l D)
  | [], D, _ => grw_rf D
  | (v, k, fr) :: l, D, h => by
    unfold sp_dyn
    have hv : v < 8 := h _ List.mem_cons_self
    refine grw_tr ?_ (sp_dyn_grw l _ (fun a ha => h a (List.mem_cons_of_mem _ ha)))
    split
    · exact grw_or hv
    · exact grw_rf D
theorem sp_dr_grw {T : Nat → Nat → Int32} {P : Nat → Blk} (hP : ∀ b, b < 16 → ∀ a ∈ (P b).2.1, a.1 < 8) : ∀ (r b : Nat) (D : Int32), r + b = 16 → grw D (sp_dr T P r b D)
  | 0, b, D, _ => grw_rf D
  | r + 1, b, D, h => by
    unfold sp_dr
    exact grw_tr (sp_dyn_grw _ _ (hP b (by omega))) (sp_dr_grw hP r (b + 1) _ (by omega))
/-- how many of the first k variables are in a set -/
def pc (x : Int32) : Nat → Nat
  | 0 => 0
  | k + 1 => pc x k + (if fl_bit x k = true then 1 else 0)
theorem pc_le (x : Int32) : ∀ k, pc x k ≤ k
  | 0 => Nat.le_refl _
  | k + 1 => by
    have := pc_le x k
    unfold pc
    split <;> omega
theorem pc_mono {x y : Int32} : ∀ k, k ≤ 8 → (∀ v, v < 8 → fl_bit x v = true → fl_bit y v = true) → pc x k ≤ pc y k
  | 0, _, _ => Nat.le_refl _
  | k + 1, hk, h => by
    have := pc_mono k (by omega) h
    unfold pc
    by_cases hx : fl_bit x k = true
    · rw [if_pos hx, if_pos (h k (by omega) hx)]
      omega
    · rw [if_neg hx]
      omega
theorem pc_lt {x y : Int32} : ∀ k, k ≤ 8 → (∀ v, v < 8 → fl_bit x v = true → fl_bit y v = true) → (∃ v, v < k ∧ fl_bit x v ≠ fl_bit y v) → pc x k < pc y k
  | 0, _, _, h => by
    obtain ⟨v, hv, -⟩ := h
    omega
  | k + 1, hk, h, hv => by
    unfold pc
    by_cases e : fl_bit x k = fl_bit y k
    · have := pc_lt k (by omega) h (by
        obtain ⟨v, hv, hne⟩ := hv
        refine ⟨v, ?_, hne⟩
        have : v ≠ k := fun z => hne (z ▸ e)
        omega)
      rw [e]
      omega
    · have m := pc_mono k (by omega) h
      cases hx : fl_bit x k with
      | true =>
        rw [hx, h k (by omega) hx] at e
        exact absurd rfl e
      | false =>
        cases hy : fl_bit y k with
        | true => simp; omega
        | false =>
          rw [hx, hy] at e
          exact absurd rfl e
theorem grw_pc {x y : Int32} (h : grw x y) (hne : ¬ y = x) : pc x 8 < pc y 8 := by
  refine pc_lt 8 (Nat.le_refl _) h.2 ?_
  refine Classical.byContradiction (fun z => hne ?_)
  refine st_ext h.1 (fun v hv => ?_)
  refine Classical.byContradiction (fun w => z ⟨v, hv, fun e => w e.symm⟩)
/-- the rounds end in a set that a round leaves as it is, and it doesn't matter how many more there are -/
theorem sp_dit_fix {T : Nat → Nat → Int32} {P : Nat → Blk} (hP : ∀ b, b < 16 → ∀ a ∈ (P b).2.1, a.1 < 8) : ∀ (fu : Nat) (D : Int32), 8 ≤ fu + pc D 8 → sp_dr T P 16 0 (sp_dit T P fu D) = sp_dit T P fu D
  | 0, D, h => by
    show sp_dr T P 16 0 D = D
    refine Classical.byContradiction (fun z => ?_)
    have h1 := grw_pc (sp_dr_grw hP 16 0 D rfl) z
    have h2 := pc_le (sp_dr T P 16 0 D) 8
    omega
  | fu + 1, D, h => by
    unfold sp_dit
    by_cases e : sp_dr T P 16 0 D = D
    · rw [if_pos e, e, e]
    · rw [if_neg e]
      have h1 := grw_pc (sp_dr_grw hP 16 0 D rfl) e
      exact sp_dit_fix hP fu _ (by omega)
