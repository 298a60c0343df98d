/-! The nodes' table T (rows: kinds, firsts, seconds, sizes, variables), and how the class holds it -/
def nd_vx (T : Nat → Nat → Int32) (k : Nat) : Int32 := if T 0 k = 0 then 0 else if T 0 k = 1 then 1 <<< (T 1 k &&& 31) else T 4 (T 1 k).toNatClampNeg ||| T 4 (T 2 k).toNatClampNeg
def nt_ok (T : Nat → Nat → Int32) (m : Nat) : Prop := m ≤ 150 ∧ (∀ k, k < m → nd_row (T 0) (T 1) (T 2) (T 3) k ∧ T 4 k = nd_vx T k) ∧ ∀ i k, m ≤ k → T i k = 0
def nt_C (M : mc_M) (T : Nat → Nat → Int32) (m : Nat) : Prop := M 1 5 = nI m ∧ ∀ i, i < 5 → ∀ k, k < m ∨ k = 150 → M (2 + i) k = T i k
theorem nd_wk_rows {K A B K' A' B' E : Nat → Int32} : ∀ (k : Nat), (∀ j, j < k → K j = K' j ∧ A j = A' j ∧ B j = B' j) → nd_wk K A B E k = nd_wk K' A' B' E k
  | 0, _ => rfl
  | k + 1, h => by
    have ih := nd_wk_rows (E := E) k (fun j hj => h j (by omega))
    obtain ⟨h1, h2, h3⟩ := h k (by omega)
    show upd _ _ _ = upd _ _ _
    rw [ih, h1, h2, h3]
theorem nd_val_rows {K A B K' A' B' E : Nat → Int32} {k : Nat} (h : ∀ j, j ≤ k → K j = K' j ∧ A j = A' j ∧ B j = B' j) : nd_val K A B E k = nd_val K' A' B' E k := by
  unfold nd_val
  rw [nd_wk_rows (k + 1) (fun j hj => h j (by omega))]
/-- a node's value depends on its variables alone -/
theorem nd_val_env {T : Nat → Nat → Int32} {m : Nat} (hT : nt_ok T m) {E E' : Nat → Int32} (k : Nat) : (∀ v, v < 8 → fl_bit (T 4 k) v = true → E v = E' v) → nd_val (T 0) (T 1) (T 2) E k = nd_val (T 0) (T 1) (T 2) E' k := by
  induction k using Nat.strongRecOn with
  | _ k ih =>
    intro h
    obtain ⟨h150, hr, hz⟩ := hT
    rcases Nat.lt_or_ge k m with hk | hk
    · obtain ⟨⟨s, g0, g1, g2, g3⟩, g4⟩ := hr k hk
      rcases g3 with g3 | ⟨g3, a, ha, hA⟩ | ⟨g3, g5, a, b, sa, sb, ha, hb, hA, hB, -⟩
      · rw [nd_val_0 g3, nd_val_0 g3]
      · rw [nd_val_1 g3 hA ha, nd_val_1 g3 hA ha]
        refine h a ha ?_
        unfold nd_vx at g4
        rw [g4, if_neg (by rw [g3]; decide), if_pos g3, hA, fl_bit_one ha ha]
        simp
      · have n0 : ¬ T 0 k = 0 := fun z => by rw [z] at g3; exact absurd g3 (by decide)
        have n1 : ¬ T 0 k = 1 := fun z => by rw [z] at g3; exact absurd g3 (by decide)
        unfold nd_vx at g4
        rw [if_neg n0, if_neg n1, hA, hB, nI_clamp (by omega), nI_clamp (by omega)] at g4
        rw [nd_val_2 n0 n1 hA hB ha hb (by omega), nd_val_2 n0 n1 hA hB ha hb (by omega), ih a ha (fun v hv hb => h v hv (by rw [g4, fl_bit_or _ _ hv, hb]; rfl)), ih b hb (fun v hv hb => h v hv (by rw [g4, fl_bit_or _ _ hv, hb]; simp))]
    · rw [nd_val_0 (hz 0 k hk), nd_val_0 (hz 0 k hk)]
section NV
variable {g : mc_G} {d n : Nat} {M : mc_M} {L : mc_L} {Q : Option Value → mc_M → mc_L → Prop} {T : Nat → Nat → Int32} {m : Nat}
theorem cN_value (hT : nt_ok T m) (hM : nt_C M T m) {c k : Nat} (hc : c = 24 ∨ c = 29 ∨ c = 37) {x : Int32} (hx : x = nI k) (hk : k < m ∨ k = 150) (hd : 33 ≤ d) (h : ∀ r, r = nd_val (T 0) (T 1) (T 2) (M c) k → Q (some (.int r)) M L) : ctN_valueOf g d [.ref 1, .int x, .ref c, .int 0] n M L Q := by
  obtain ⟨h150, hr, hz⟩ := hT
  obtain ⟨hm, hrow⟩ := hM
  by_cases hkm : k < m
  · have hr' : ∀ j, j ≤ k → nd_row (M 2) (M 3) (M 4) (M 5) j := by
      intro j hj
      obtain ⟨⟨s, g0, g1, g2, g3⟩, -⟩ := hr j (by omega)
      have r0 : M 2 j = T 0 j := hrow 0 (by decide) j (Or.inl (by omega))
      have r1 : M 3 j = T 1 j := hrow 1 (by decide) j (Or.inl (by omega))
      have r2 : M 4 j = T 2 j := hrow 2 (by decide) j (Or.inl (by omega))
      have r3 : M 5 j = T 3 j := hrow 3 (by decide) j (Or.inl (by omega))
      refine ⟨s, r3.trans g0, g1, g2, ?_⟩
      rw [r0, r1, r2]
      rcases g3 with g3 | g3 | ⟨g3, g5, a, b, sa, sb, ha, hb, hA, hB, hsa, hsb, hs⟩
      · exact Or.inl g3
      · exact Or.inr (Or.inl g3)
      · exact Or.inr (Or.inr ⟨g3, g5, a, b, sa, sb, ha, hb, hA, hB, (hrow 3 (by decide) a (Or.inl (by omega))).trans hsa, (hrow 3 (by decide) b (Or.inl (by omega))).trans hsb, hs⟩)
    obtain ⟨s, g0, g1, g2, -⟩ := hr' k (Nat.le_refl _)
    refine cN_valueOf hc k (by omega) hr' x 0 s 0 d Q hx rfl g0 (by omega) (by omega) (fun r z => h r (z.trans ?_))
    exact nd_val_rows (fun j hj => ⟨hrow 0 (by decide) j (Or.inl (by omega)), hrow 1 (by decide) j (Or.inl (by omega)), hrow 2 (by decide) j (Or.inl (by omega))⟩)
  · have h15 : k = 150 := by omega
    subst h15
    subst hx
    obtain ⟨d, rfl⟩ := Nat.exists_eq_add_of_le' (show 1 ≤ d by omega)
    have k0 : T 0 150 = 0 := hz 0 150 (by omega)
    have m0 : M 2 150 = 0 := (hrow 0 (by decide) 150 (Or.inr rfl)).trans k0
    have m1 : M 3 150 = T 1 150 := hrow 1 (by decide) 150 (Or.inr rfl)
    have v1 : vp_in (nI 150) 151 := vp_in_nI (by decide) (by decide)
    have t : ∀ r, r = M 3 (nI 150).toNatClampNeg → Q (some (.int r)) M L := fun r z => h r (by rw [z, nd_val_0 k0, ← m1]; rfl)
    have z0 : M 2 (nI 150).toNatClampNeg = 0 := m0
    rcases hc with rfl | rfl | rfl <;>
    exact inN_valueOf (Nat.le_of_ble_eq_true rfl) (fun K hK => hK.1 [] 60 0 _ _ _ _ _ ⟨v1, fun z => absurd z0 z, fun _ => ⟨v1, Nat.le_refl _, t _ rfl⟩⟩)
end NV
/-! A block: its origin, its assignments (variable, node, frozen values), its jump (kind, node and frozen values, targets) -/
abbrev Asg : Type := Nat × Nat × (Nat → Int32)
abbrev Blk : Type := Int32 × List Asg × Int32 × (Nat × (Nat → Int32)) × Int32 × Int32
def fl_fr (T : Nat → Nat → Int32) (S : Int32) (F : Nat → Int32) (s k : Nat) : Nat → Int32 := fun v => if v < 8 ∧ fl_bit S v = true ∧ fl_bit (T 4 k) v = true then F (s * 8 + v) else 0
def sp_val (T : Nat → Nat → Int32) (S : Int32) (k : Nat) (fr e : Nat → Int32) : Int32 := nd_val (T 0) (T 1) (T 2) (fun v => if fl_bit S v = true then fr v else e v) k
theorem sp_val_tw {T : Nat → Nat → Int32} {m : Nat} (hT : nt_ok T m) {S : Int32} {E F e : Nat → Int32} (k s : Nat) (h : ∀ v, v < 8 → fl_bit S v = false → E v = e v) : nd_val (T 0) (T 1) (T 2) (fl_tw S E F s 8) k = sp_val T S k (fl_fr T S F s k) e := by
  refine nd_val_env hT k (fun v hv hb => ?_)
  unfold fl_tw
  cases hS : fl_bit S v with
  | true =>
    rw [if_pos ⟨hv, rfl⟩, if_pos rfl]
    unfold fl_fr
    rw [if_pos ⟨hv, hS, hb⟩]
  | false =>
    rw [if_neg (fun z => by cases z.2), if_neg (fun z => by cases z)]
    exact h v hv hS
/-- the steps of a chain -/
def fl_ch (N : Nat → Int32) (W : Nat) : Int32 → List Nat → Prop
  | _, [] => True
  | x, t :: r => x = nI t ∧ t < W ∧ fl_ch N W (N t) r
def fl_as (T : Nat → Nat → Int32) (S : Int32) (M : mc_M) (f s : Nat) : Asg := ((M (f + 9) s).toNatClampNeg, (M (f + 10) s).toNatClampNeg, fl_fr T S (M (f + 12)) s (M (f + 10) s).toNatClampNeg)
def fl_sv (M : mc_M) (f m s : Nat) : Prop := (∃ v, v < 8 ∧ M (f + 9) s = nI v) ∧ ∃ k, (k < m ∨ k = 150) ∧ M (f + 10) s = nI k
def fl_blk (T : Nat → Nat → Int32) (m : Nat) (S : Int32) (M : mc_M) (f w : Nat) (b : Nat) (B : Blk) (ss : List Nat) (j : Nat) : Prop :=
  M (f + 1) b = B.1 ∧ M (f + 2) b = nI ss.length ∧ ss.length ≤ 1100 ∧ fl_ch (M (f + 11)) (w * 11) (M (f + 3) b) ss ∧ (∀ s ∈ ss, fl_sv M f m s) ∧ B.2.1 = ss.map (fl_as T S M f) ∧
  M (f + 5) b = nI j ∧ j < w ∧ M (f + 6) j = B.2.2.1 ∧ (∃ k, (k < m ∨ k = 150) ∧ M (f + 10) (j * 11 + 10) = nI k ∧ B.2.2.2.1 = (k, fl_fr T S (M (f + 12)) (j * 11 + 10) k)) ∧ M (f + 7) j = B.2.2.2.2.1 ∧ M (f + 8) j = B.2.2.2.2.2
/-- assignments, as long as there are steps -/
def sp_asg (T : Nat → Nat → Int32) (S : Int32) (lim : Nat) : List Asg → Nat → (Nat → Int32) → Nat × (Nat → Int32)
  | [], s, e => (s, e)
  | (v, k, fr) :: r, s, e => if s < lim then sp_asg T S lim r (s + 1) (upd e v (sp_val T S k fr e)) else (s, e)
def sp_trav (T : Nat → Nat → Int32) (S : Int32) (P : Nat → Blk) (lim : Nat) : Nat → Nat → Nat → (Nat → Int32) → Bool × Int32 × Nat × Nat
  | 0, b, s, _ => (false, 0, s, b)
  | f + 1, b, s, e =>
    let r := sp_asg T S lim (P b).2.1 s e
    if r.1 < lim then
      let x := sp_val T S (P b).2.2.2.1.1 (P b).2.2.2.1.2 r.2
      if (P b).2.2.1 = 2 then (true, x, r.1 + 1, b)
      else sp_trav T S P lim f (if (P b).2.2.1 = 0 ∨ ¬ x = 0 then (P b).2.2.2.2.1 else (P b).2.2.2.2.2).toNatClampNeg (r.1 + 1) r.2
    else (false, 0, r.1, b)
