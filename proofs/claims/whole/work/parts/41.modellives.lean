/-! The model's lives: a block's, bit by bit -/
def asb : List Asg → Nat → Bool
  | [], _ => false
  | (u, _, _) :: r, v => decide (v = u) || asb r v
def fdb (T : Nat → Nat → Int32) : List Asg → Nat → Bool
  | [], _ => false
  | (u, k, _) :: r, v => fl_bit (T 4 k) v || (!decide (v = u) && fdb T r v)
def mback (T : Nat → Nat → Int32) : List Asg → Int32 → Int32
  | [], s => s
  | (v, k, _) :: r, s => (mback T r s &&& ((1 <<< (nI v &&& 31)) ^^^ (-1))) ||| T 4 k
def mF (T : Nat → Nat → Int32) (B : Blk) (X : Nat → Int32) : Int32 := mback T B.2.1 (T 4 B.2.2.2.1.1 ||| sp_at X B.2.2.2.2.1 ||| sp_at X B.2.2.2.2.2)
theorem sp_lvs_bits {T : Nat → Nat → Int32} {v : Nat} (hv : v < 8) : ∀ (l : List Asg) (a fo : Int32), (∀ x ∈ l, x.1 < 8) → fl_bit (sp_lvs T l a fo).1 v = (fl_bit a v || asb l v) ∧ fl_bit (sp_lvs T l a fo).2 v = (fl_bit fo v || (!fl_bit a v && fdb T l v))
  | [], a, fo, _ => by simp [sp_lvs, asb, fdb]
  | (u, k, fr) :: r, a, fo, h => by
    have hu : u < 8 := h _ List.mem_cons_self
    obtain ⟨h1, h2⟩ := sp_lvs_bits hv r (a ||| (1 <<< (nI u &&& 31))) (fo ||| (T 4 k &&& (a ^^^ (-1)))) (fun x hx => h x (List.mem_cons_of_mem _ hx))
    unfold sp_lvs asb fdb
    rw [h1, h2, fl_bit_or _ _ hv, fl_bit_one hu hv, fl_bit_or _ _ hv, fl_bit_and _ _ hv, fl_bit_not _ hv]
    cases fl_bit a v <;> cases fl_bit fo v <;> cases fl_bit (T 4 k) v <;> cases decide (v = u) <;> cases asb r v <;> cases fdb T r v <;> exact ⟨rfl, rfl⟩
theorem mback_bits {T : Nat → Nat → Int32} {v : Nat} (hv : v < 8) : ∀ (l : List Asg) (s : Int32), (∀ x ∈ l, x.1 < 8) → fl_bit (mback T l s) v = (fdb T l v || (fl_bit s v && !asb l v))
  | [], s, _ => by simp [mback, asb, fdb]
  | (u, k, fr) :: r, s, h => by
    have hu : u < 8 := h _ List.mem_cons_self
    have ih := mback_bits (T := T) hv r s (fun x hx => h x (List.mem_cons_of_mem _ hx))
    unfold mback asb fdb
    rw [fl_bit_or _ _ hv, fl_bit_and _ _ hv, fl_bit_not _ hv, fl_bit_one hu hv, ih]
    cases fl_bit s v <;> cases fl_bit (T 4 k) v <;> cases decide (v = u) <;> cases asb r v <;> cases fdb T r v <;> rfl
theorem mF_bit {T : Nat → Nat → Int32} {B : Blk} {X : Nat → Int32} (hB : ∀ x ∈ B.2.1, x.1 < 8) {v : Nat} (hv : v < 8) : fl_bit (mF T B X) v = fl_bit (sp_lv T B X) v := by
  obtain ⟨h1, h2⟩ := sp_lvs_bits (T := T) hv B.2.1 0 0 hB
  unfold mF sp_lv
  rw [mback_bits hv _ _ hB]
  generalize (T 4 B.2.2.2.1.1 ||| sp_at X B.2.2.2.2.1 ||| sp_at X B.2.2.2.2.2) = s
  rw [fl_bit_or _ _ hv, fl_bit_and _ _ hv, fl_bit_not _ hv, h1, h2, fl_bit_0]
  cases fl_bit s v <;> cases asb B.2.1 v <;> cases fdb T B.2.1 v <;> rfl
/-- sets of the eight variables -/
def low8 (x : Int32) : Prop := ∀ i, 8 ≤ i → x.toBitVec.getLsbD i = false
theorem low8_0 : low8 0 := fun i _ => by
  show (0#32).getLsbD i = false
  simp
theorem low8_or {x y : Int32} (hx : low8 x) (hy : low8 y) : low8 (x ||| y) := fun i hi => by
  rw [Int32.toBitVec_or, BitVec.getLsbD_or, hx i hi, hy i hi]
  rfl
theorem low8_and {x : Int32} (hx : low8 x) (y : Int32) : low8 (x &&& y) := fun i hi => by
  rw [Int32.toBitVec_and, BitVec.getLsbD_and, hx i hi]
  rfl
theorem low8_ext {x y : Int32} (hx : low8 x) (hy : low8 y) (h : ∀ v, v < 8 → fl_bit x v = fl_bit y v) : x = y := st_ext (fun i hi => by rw [hx i hi, hy i hi]) h
theorem low8_T {T : Nat → Nat → Int32} {m : Nat} (hT : nt_ok T m) (k : Nat) : low8 (T 4 k) := by
  induction k using Nat.strongRecOn with
  | _ k ih =>
    obtain ⟨h150, hr, hz⟩ := hT
    rcases Nat.lt_or_ge k m with hk | hk
    · obtain ⟨⟨s, -, -, -, g3⟩, g4⟩ := hr k hk
      unfold nd_vx at g4
      rcases g3 with g3 | ⟨g3, a, ha, hA⟩ | ⟨g3, g5, a, b, sa, sb, ha, hb, hA, hB, -⟩
      · rw [if_pos g3] at g4
        rw [g4]
        exact low8_0
      · rw [if_neg (by rw [g3]; decide), if_pos g3, hA] at g4
        rw [g4]
        exact fun i hi => one_hi ha hi
      · have n0 : ¬ T 0 k = 0 := fun z => by rw [z] at g3; exact absurd g3 (by decide)
        have n1 : ¬ T 0 k = 1 := fun z => by rw [z] at g3; exact absurd g3 (by decide)
        rw [if_neg n0, if_neg n1, hA, hB, nI_clamp (by omega), nI_clamp (by omega)] at g4
        rw [g4]
        exact low8_or (ih a ha) (ih b hb)
    · rw [hz 4 k hk]
      exact low8_0
theorem low8_back {T : Nat → Nat → Int32} {m : Nat} (hT : nt_ok T m) : ∀ (l : List Asg) (s : Int32), low8 s → low8 (mback T l s)
  | [], _, h => h
  | (v, k, fr) :: r, s, h => low8_or (low8_and (low8_back hT r s h) _) (low8_T hT k)
theorem low8_lvs {T : Nat → Nat → Int32} {m : Nat} (hT : nt_ok T m) : ∀ (l : List Asg) (a fo : Int32), low8 fo → low8 (sp_lvs T l a fo).2
  | [], _, _, h => h
  | (v, k, fr) :: r, a, fo, h => low8_lvs hT r _ _ (low8_or h (low8_and (low8_T hT k) _))
theorem low8_at {X : Nat → Int32} (hX : ∀ b, low8 (X b)) (t : Int32) : low8 (sp_at X t) := by
  unfold sp_at
  split
  · exact low8_0
  · exact hX _
theorem mF_eq {T : Nat → Nat → Int32} {m : Nat} (hT : nt_ok T m) {B : Blk} {X : Nat → Int32} (hB : ∀ x ∈ B.2.1, x.1 < 8) (hX : ∀ b, low8 (X b)) : mF T B X = sp_lv T B X ∧ low8 (sp_lv T B X) := by
  have h1 : low8 (T 4 B.2.2.2.1.1 ||| sp_at X B.2.2.2.2.1 ||| sp_at X B.2.2.2.2.2) := low8_or (low8_or (low8_T hT _) (low8_at hX _)) (low8_at hX _)
  have h2 : low8 (sp_lv T B X) := low8_or (low8_lvs hT _ _ _ low8_0) (low8_and h1 _)
  exact ⟨low8_ext (low8_back hT _ _ h1) h2 (fun v hv => mF_bit hB hv), h2⟩
