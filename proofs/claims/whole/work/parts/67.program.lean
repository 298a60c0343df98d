/-! The program as the class holds it -/
def pbC (M : mc_M) (m b : Nat) (B : Blk) : Prop :=
  M 8 b = B.1 ∧ M 9 b = nI B.2.1.length ∧ B.2.1.length ≤ 10 ∧ (0 < B.2.1.length → M 10 b = nI (b * 11) ∧ M 11 b = nI (b * 11 + (B.2.1.length - 1))) ∧ (∀ i, i + 1 < B.2.1.length → M 18 (b * 11 + i) = nI (b * 11 + (i + 1))) ∧ (∀ i, i < B.2.1.length → ∃ v k, v < 8 ∧ k < m ∧ B.2.1[i]? = some (v, k, fun _ => 0) ∧ M 16 (b * 11 + i) = nI v ∧ M 17 (b * 11 + i) = nI k) ∧
  M 12 b = nI b ∧ M 13 b = B.2.2.1 ∧ (∃ nd, (nd < m ∨ nd = 150) ∧ M 17 (b * 11 + 10) = nI nd ∧ B.2.2.2.1 = (nd, fun _ => 0)) ∧ M 14 b = B.2.2.2.2.1 ∧ M 15 b = B.2.2.2.2.2
def prC (M : mc_M) (m : Nat) (P : Nat → Blk) : Prop := M 7 0 = nI 16 ∧ M 7 1 = 0 ∧ ∀ b, b < 16 → pbC M m b (P b)
theorem fl_fr_0 (T : Nat → Nat → Int32) (F : Nat → Int32) (s k : Nat) : fl_fr T 0 F s k = fun _ => 0 := by
  funext v
  unfold fl_fr
  rw [if_neg (fun z => by rw [fl_bit_0] at z; cases z.2.1)]
theorem prC_prg {T : Nat → Nat → Int32} {m : Nat} {M : mc_M} {P : Nat → Blk} (hm : m ≤ 150) (h : prC M m P) : prg T m M P := by
  obtain ⟨h1, h2, h3⟩ := h
  refine ⟨h1, h2, fun b hb => ⟨stp b 0 (P b).2.1.length, b, ?_⟩⟩
  obtain ⟨a0, a1, a2, a3, a4, a5, a6, a7, ⟨nd, b1, b2, b3⟩, a9, a10⟩ := h3 b hb
  refine ⟨a0, by rw [stp_len]; exact a1, by rw [stp_len]; omega, ?_, fun s hs => ?_, ?_, a6, hb, a7, ⟨nd, b1, b2, by rw [b3, fl_fr_0]⟩, a9, a10⟩
  · exact stp_ch (fun z => (a3 z).1) (fun k _ hk => a4 k (by omega)) (fun k _ hk => by omega)
  · obtain ⟨k, k1, k2, rfl⟩ := stp_mem b 0 _ s hs
    obtain ⟨v, nd', q1, q2, -, q4, q5⟩ := a5 k (by omega)
    exact ⟨⟨v, q1, q4⟩, nd', Or.inl q2, q5⟩
  · refine stp_map _ 0 (fun k hk => ?_)
    obtain ⟨v, nd', q1, q2, q3, q4, q5⟩ := a5 k hk
    have q4' : M (7 + 9) (b * 11 + (0 + k)) = nI v := by rw [Nat.zero_add]; exact q4
    have q5' : M (7 + 10) (b * 11 + (0 + k)) = nI nd' := by rw [Nat.zero_add]; exact q5
    rw [q3]
    unfold fl_as
    rw [q4', q5', fl_fr_0, nI_clamp (by omega), nI_clamp (by omega)]
theorem prC_to {m : Nat} {M M' : mc_M} {P : Nat → Blk} (h : prC M m P) (hM : ∀ c, 7 ≤ c → c ≤ 18 → M' c = M c) : prC M' m P := by
  unfold prC pbC at *
  rw [hM 7 (by omega) (by omega), hM 8 (by omega) (by omega), hM 9 (by omega) (by omega), hM 10 (by omega) (by omega), hM 11 (by omega) (by omega), hM 12 (by omega) (by omega), hM 13 (by omega) (by omega), hM 14 (by omega) (by omega), hM 15 (by omega) (by omega), hM 16 (by omega) (by omega), hM 17 (by omega) (by omega), hM 18 (by omega) (by omega)]
  exact h
theorem prC_m {m m' : Nat} {M : mc_M} {P : Nat → Blk} (h : prC M m P) (hm : m ≤ m') : prC M m' P := by
  obtain ⟨h1, h2, h3⟩ := h
  refine ⟨h1, h2, fun b hb => ?_⟩
  obtain ⟨a0, a1, a2, a3, a4, a5, a6, a7, ⟨nd, b1, b2, b3⟩, a9, a10⟩ := h3 b hb
  exact ⟨a0, a1, a2, a3, a4, fun i hi => by
    obtain ⟨v, k, q1, q2, q3⟩ := a5 i hi
    exact ⟨v, k, q1, by omega, q3⟩, a6, a7, ⟨nd, by omega, b2, b3⟩, a9, a10⟩
theorem pbC_eq {m b : Nat} {M M' : mc_M} {B : Blk} (h : pbC M m b B) (hb : b < 16) (h1 : ∀ c, 8 ≤ c → c ≤ 15 → M' c b = M c b) (h2 : ∀ c, 16 ≤ c → c ≤ 18 → ∀ i, i < 11 → M' c (b * 11 + i) = M c (b * 11 + i)) : pbC M' m b B := by
  obtain ⟨a0, a1, a2, a3, a4, a5, a6, a7, ⟨nd, b1, b2, b3⟩, a9, a10⟩ := h
  refine ⟨by rw [h1 8 (by omega) (by omega)]; exact a0, by rw [h1 9 (by omega) (by omega)]; exact a1, a2, fun z => by rw [h1 10 (by omega) (by omega), h1 11 (by omega) (by omega)]; exact a3 z, fun i hi => by rw [h2 18 (by omega) (by omega) i (by omega)]; exact a4 i hi, fun i hi => ?_, by rw [h1 12 (by omega) (by omega)]; exact a6, by rw [h1 13 (by omega) (by omega)]; exact a7, ⟨nd, b1, by rw [h2 17 (by omega) (by omega) 10 (by omega)]; exact b2, b3⟩, by rw [h1 14 (by omega) (by omega)]; exact a9, by rw [h1 15 (by omega) (by omega)]; exact a10⟩
  obtain ⟨v, k, q1, q2, q3, q4, q5⟩ := a5 i hi
  exact ⟨v, k, q1, q2, q3, by rw [h2 16 (by omega) (by omega) i (by omega)]; exact q4, by rw [h2 17 (by omega) (by omega) i (by omega)]; exact q5⟩
/-- an assignment more -/
def pAsg (P : Nat → Blk) (b v k : Nat) : Nat → Blk := fun i => if i = b then ((P b).1, (P b).2.1 ++ [(v, k, fun _ => 0)], (P b).2.2) else P i
theorem prC_asg {m : Nat} {M M' : mc_M} {P : Nat → Blk} (h : prC M m P) {b v k : Nat} (hb : b < 16) (hl : (P b).2.1.length < 10) (hv : v < 8) (hk : k < m) (hM : M' = fl_app M 7 b (P b).2.1.length (b * 11 + ((P b).2.1.length - 1)) (nI v) (nI k)) : prC M' m (pAsg P b v k) := by
  obtain ⟨h1, h2, h3⟩ := h
  obtain ⟨a2, a3, a4, a9, a10, a11, ao⟩ := fl_app_at M 7 b (P b).2.1.length (b * 11 + ((P b).2.1.length - 1)) (nI v) (nI k)
  rw [← hM] at a2 a3 a4 a9 a10 a11 ao
  have o : ∀ c x, c ≠ 9 → c ≠ 10 → c ≠ 11 → c ≠ 16 → c ≠ 17 → c ≠ 18 → M' c x = M c x := fun c x q1 q2 q3 q4 q5 q6 => ao c x q1 q2 q3 q4 q5 q6
  have o9 : ∀ x, M' 9 x = if x = b then nI ((P b).2.1.length + 1) else M 9 x := a2
  have o10 : ∀ x, M' 10 x = if (P b).2.1.length = 0 ∧ x = b then nI (b * 11 + (P b).2.1.length) else M 10 x := a3
  have o11 : ∀ x, M' 11 x = if x = b then nI (b * 11 + (P b).2.1.length) else M 11 x := a4
  have o16 : ∀ x, M' 16 x = if x = b * 11 + (P b).2.1.length then nI v else M 16 x := a9
  have o17 : ∀ x, M' 17 x = if x = b * 11 + (P b).2.1.length then nI k else M 17 x := a10
  have o18 : ∀ x, M' 18 x = if ¬ (P b).2.1.length = 0 ∧ x = b * 11 + ((P b).2.1.length - 1) then nI (b * 11 + (P b).2.1.length) else M 18 x := a11
  refine ⟨by rw [o 7 0 (by decide) (by decide) (by decide) (by decide) (by decide) (by decide)]; exact h1, by rw [o 7 1 (by decide) (by decide) (by decide) (by decide) (by decide) (by decide)]; exact h2, fun i hi => ?_⟩
  unfold pAsg
  by_cases e : i = b
  · subst e
    rw [if_pos rfl]
    obtain ⟨c0, c1, c2, c3, c4, c5, c6, c7, ⟨nd, d1, d2, d3⟩, c9, c10⟩ := h3 i hb
    have len : ((P i).2.1 ++ [(v, k, fun _ => (0 : Int32))]).length = (P i).2.1.length + 1 := by simp
    refine ⟨by rw [o 8 i (by decide) (by decide) (by decide) (by decide) (by decide) (by decide)]; exact c0, ?_, ?_, fun _ => ⟨?_, ?_⟩, fun j hj => ?_, fun j hj => ?_, by rw [o 12 i (by decide) (by decide) (by decide) (by decide) (by decide) (by decide)]; exact c6, by rw [o 13 i (by decide) (by decide) (by decide) (by decide) (by decide) (by decide)]; exact c7, ⟨nd, d1, ?_, d3⟩, by rw [o 14 i (by decide) (by decide) (by decide) (by decide) (by decide) (by decide)]; exact c9, by rw [o 15 i (by decide) (by decide) (by decide) (by decide) (by decide) (by decide)]; exact c10⟩
    · show M' 9 i = nI ((P i).2.1 ++ [(v, k, fun _ => (0 : Int32))]).length
      rw [o9, if_pos rfl, len]
    · show ((P i).2.1 ++ [(v, k, fun _ => (0 : Int32))]).length ≤ 10
      rw [len]
      omega
    · rw [o10]
      by_cases z : (P i).2.1.length = 0
      · rw [if_pos ⟨z, rfl⟩, z, Nat.add_zero]
      · rw [if_neg (fun w => z w.1)]
        exact (c3 (by omega)).1
    · show M' 11 i = nI (i * 11 + (((P i).2.1 ++ [(v, k, fun _ => (0 : Int32))]).length - 1))
      rw [o11, if_pos rfl, len, Nat.add_sub_cancel]
    · have hj' : j + 1 < ((P i).2.1 ++ [(v, k, fun _ => (0 : Int32))]).length := hj
      rw [len] at hj'
      rw [o18]
      by_cases z : j + 1 = (P i).2.1.length
      · rw [if_pos ⟨by omega, by omega⟩, z]
      · rw [if_neg (fun w => z (by omega))]
        exact c4 j (by omega)
    · have hj' : j < ((P i).2.1 ++ [(v, k, fun _ => (0 : Int32))]).length := hj
      rw [len] at hj'
      show ∃ v' k', v' < 8 ∧ k' < m ∧ ((P i).2.1 ++ [(v, k, fun _ => (0 : Int32))])[j]? = some (v', k', fun _ => 0) ∧ M' 16 (i * 11 + j) = nI v' ∧ M' 17 (i * 11 + j) = nI k'
      by_cases z : j = (P i).2.1.length
      · refine ⟨v, k, hv, hk, ?_, by rw [o16, if_pos (by omega)], by rw [o17, if_pos (by omega)]⟩
        rw [z, List.getElem?_append_right (Nat.le_refl _), Nat.sub_self]
        rfl
      · obtain ⟨v', k', q1, q2, q3, q4, q5⟩ := c5 j (by omega)
        refine ⟨v', k', q1, q2, ?_, by rw [o16, if_neg (by omega)]; exact q4, by rw [o17, if_neg (by omega)]; exact q5⟩
        rw [List.getElem?_append_left (by omega)]
        exact q3
    · rw [o17, if_neg (by omega)]
      exact d2
  · rw [if_neg e]
    refine pbC_eq (h3 i hi) hi (fun c q1 q2 => ?_) (fun c q1 q2 j hj => ?_)
    · by_cases z9 : c = 9
      · subst z9
        rw [o9, if_neg e]
      · by_cases z10 : c = 10
        · subst z10
          rw [o10, if_neg (fun w => e w.2)]
        · by_cases z11 : c = 11
          · subst z11
            rw [o11, if_neg e]
          · exact o c i z9 z10 z11 (by omega) (by omega) (by omega)
    · have hc : c = 16 ∨ c = 17 ∨ c = 18 := by omega
      rcases hc with rfl | rfl | rfl
      · rw [o16, if_neg (by omega)]
      · rw [o17, if_neg (by omega)]
      · rw [o18, if_neg (by omega)]
/-- a jump set -/
def pJmp (P : Nat → Blk) (b : Nat) (q : Int32) (nd : Nat) (one oth : Int32) : Nat → Blk := fun i => if i = b then ((P b).1, (P b).2.1, q, (nd, fun _ => 0), one, oth) else P i
theorem prC_jmp {m : Nat} {M M' : mc_M} {P : Nat → Blk} (h : prC M m P) {b nd : Nat} {q one oth : Int32} (hb : b < 16) (hnd : nd < m ∨ nd = 150) (hM : M' = mc_put (mc_put (mc_put (mc_put M 13 b q) 17 (b * 11 + 10) (nI nd)) 14 b one) 15 b oth) : prC M' m (pJmp P b q nd one oth) := by
  obtain ⟨h1, h2, h3⟩ := h
  have o : ∀ c x, (c ≠ 13 ∧ c ≠ 14 ∧ c ≠ 15 ∨ x ≠ b) → (c ≠ 17 ∨ x ≠ b * 11 + 10) → M' c x = M c x := fun c x q1 q2 => by
    rw [hM, mc_put_at, if_neg (by omega), mc_put_at, if_neg (by omega), mc_put_at, if_neg (by omega), mc_put_at, if_neg (by omega)]
  refine ⟨by rw [o 7 0 (by omega) (by omega)]; exact h1, by rw [o 7 1 (by omega) (by omega)]; exact h2, fun i hi => ?_⟩
  unfold pJmp
  by_cases e : i = b
  · subst e
    rw [if_pos rfl]
    obtain ⟨c0, c1, c2, c3, c4, c5, c6, c7, -, c9, c10⟩ := h3 i hb
    refine ⟨by rw [o 8 i (by omega) (by omega)]; exact c0, by rw [o 9 i (by omega) (by omega)]; exact c1, c2, fun z => by rw [o 10 i (by omega) (by omega), o 11 i (by omega) (by omega)]; exact c3 z, fun j hj => by rw [o 18 _ (by omega) (by omega)]; exact c4 j hj, fun j hj => ?_, by rw [o 12 i (by omega) (by omega)]; exact c6, ?_, ⟨nd, hnd, ?_, rfl⟩, ?_, ?_⟩
    · obtain ⟨v', k', q1, q2, q3, q4, q5⟩ := c5 j hj
      have hj' : j < (P i).2.1.length := hj
      exact ⟨v', k', q1, q2, q3, by rw [o 16 _ (by omega) (by omega)]; exact q4, by rw [o 17 _ (by omega) (by omega)]; exact q5⟩
    · rw [hM, mc_put_at, if_neg (by omega), mc_put_at, if_neg (by omega), mc_put_at, if_neg (by omega), mc_put_at, if_pos ⟨rfl, rfl⟩]
    · rw [hM, mc_put_at, if_neg (by omega), mc_put_at, if_neg (by omega), mc_put_at, if_pos ⟨rfl, rfl⟩]
    · rw [hM, mc_put_at, if_neg (by omega), mc_put_at, if_pos ⟨rfl, rfl⟩]
    · rw [hM, mc_put_at, if_pos ⟨rfl, rfl⟩]
  · rw [if_neg e]
    exact pbC_eq (h3 i hi) hi (fun c q1 q2 => o c i (by omega) (by omega)) (fun c q1 q2 j hj => o c _ (by omega) (by omega))
/-- a block made empty -/
def pClr (P : Nat → Blk) (b : Nat) : Nat → Blk := fun i => if i = b then (nI b, [], 2, (150, fun _ => 0), -1, -1) else P i
theorem prC_clr {m : Nat} {M M' : mc_M} {P : Nat → Blk} (h : prC M m P) {b : Nat} (hb : b < 16) (hM : M' = fl_empty M 7 b (nI b)) : prC M' m (pClr P b) := by
  obtain ⟨h1, h2, h3⟩ := h
  have o : ∀ c x, (c < 8 ∨ c = 10 ∨ c = 11 ∨ 15 < c ∨ x ≠ b) → (c ≠ 17 ∨ x ≠ b * 11 + 10) → M' c x = M c x := fun c x q1 q2 => by
    rw [hM]
    unfold fl_empty
    rw [mc_put_at, if_neg (by omega), mc_put_at, if_neg (by omega), mc_put_at, if_neg (by omega), mc_put_at, if_neg (by omega), mc_put_at, if_neg (by omega), mc_put_at, if_neg (by omega), mc_put_at, if_neg (by omega)]
  have e8 : M' 8 b = nI b ∧ M' 9 b = 0 ∧ M' 12 b = nI b ∧ M' 13 b = 2 ∧ M' 17 (b * 11 + 10) = 150 ∧ M' 14 b = -1 ∧ M' 15 b = -1 := by
    rw [hM]
    unfold fl_empty
    simp [mc_put_at]
  refine ⟨by rw [o 7 0 (by omega) (by omega)]; exact h1, by rw [o 7 1 (by omega) (by omega)]; exact h2, fun i hi => ?_⟩
  unfold pClr
  by_cases e : i = b
  · subst e
    rw [if_pos rfl]
    obtain ⟨q1, q2, q3, q4, q5, q6, q7⟩ := e8
    exact ⟨q1, q2, Nat.zero_le _, fun z => absurd z (Nat.lt_irrefl _), fun j hj => absurd hj (Nat.not_lt_zero _), fun j hj => absurd hj (Nat.not_lt_zero _), q3, q4, ⟨150, Or.inr rfl, q5, rfl⟩, q6, q7⟩
  · rw [if_neg e]
    exact pbC_eq (h3 i hi) hi (fun c q1 q2 => o c i (by omega) (by omega)) (fun c q1 q2 j hj => o c _ (by omega) (by omega))
