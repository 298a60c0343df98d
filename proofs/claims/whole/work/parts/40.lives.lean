/-! The lives, bit by bit -/
def lab (t : Int32) (x : Nat → Bool) : Bool := if t = -1 then false else x t.toNatClampNeg
def lsys (T : Nat → Nat → Int32) (P : Nat → Blk) (v : Nat) : (Nat → Bool) → Nat → Bool := fun x b => fl_bit (sp_lvs T (P b).2.1 0 0).2 v || ((fl_bit (T 4 (P b).2.2.2.1.1) v || lab (P b).2.2.2.2.1 x || lab (P b).2.2.2.2.2 x) && !fl_bit (sp_lvs T (P b).2.1 0 0).1 v)
def bts (X : Nat → Int32) (v : Nat) : Nat → Bool := fun c => fl_bit (X c) v
theorem sp_at_bit (X : Nat → Int32) (t : Int32) (v : Nat) : fl_bit (sp_at X t) v = lab t (bts X v) := by
  unfold sp_at lab bts
  split
  · exact fl_bit_0 v
  · rfl
theorem lv_bit {T : Nat → Nat → Int32} {P : Nat → Blk} {X : Nat → Int32} {v b : Nat} (hv : v < 8) : fl_bit (sp_lv T (P b) X) v = lsys T P v (bts X v) b := by
  unfold sp_lv lsys
  rw [fl_bit_or _ _ hv, fl_bit_and _ _ hv, fl_bit_or _ _ hv, fl_bit_or _ _ hv, fl_bit_not _ hv, sp_at_bit, sp_at_bit]
theorem lab_mono {t : Int32} (ht : t = -1 ∨ ∃ u, u < 16 ∧ t = nI u) {x y : Nat → Bool} (h : ble x y) (hx : lab t x = true) : lab t y = true := by
  unfold lab at *
  rcases ht with ht | ⟨u, hu, ht⟩
  · rw [if_pos ht] at hx
    cases hx
  · have n1 : ¬ t = -1 := by rw [ht]; exact nI_ne_m1 (by omega)
    rw [if_neg n1] at hx ⊢
    rw [ht, nI_clamp (by omega)] at hx ⊢
    exact h u hu hx
theorem lsys_mono {T : Nat → Nat → Int32} {P : Nat → Blk} (hpt : pt_ok P 16) (v : Nat) : bmono (lsys T P v) := by
  intro x y h b hb hx
  obtain ⟨p1, p2⟩ := hpt b hb
  unfold lsys at *
  have m1 := lab_mono p1 h
  have m2 := lab_mono p2 h
  generalize fl_bit (sp_lvs T (P b).2.1 0 0).2 v = p at hx ⊢
  generalize fl_bit (T 4 (P b).2.2.2.1.1) v = q at hx ⊢
  generalize fl_bit (sp_lvs T (P b).2.1 0 0).1 v = r at hx ⊢
  revert hx m1 m2
  cases p <;> cases q <;> cases r <;> cases lab (P b).2.2.2.2.1 x <;> cases lab (P b).2.2.2.2.1 y <;> cases lab (P b).2.2.2.2.2 x <;> cases lab (P b).2.2.2.2.2 y <;> simp
theorem bts_upd (X : Nat → Int32) (b : Nat) (y : Int32) (v : Nat) : bts (upd X b y) v = bup (bts X v) b (fl_bit y v) := by
  funext i
  unfold bts bup upd
  by_cases e : i = b
  · rw [if_pos e, if_pos e]
  · rw [if_neg e, if_neg e]
theorem sp_lr_bits {T : Nat → Nat → Int32} {P : Nat → Blk} {v : Nat} (hv : v < 8) : ∀ (b : Nat) (X : Nat → Int32) (c : Bool), bts (sp_lr T P b X c).1 v = brd (lsys T P v) b (bts X v)
  | 0, X, c => rfl
  | b + 1, X, c => by
    unfold sp_lr brd
    rw [sp_lr_bits hv b, bts_upd, lv_bit hv]
theorem sp_lr_flag {T : Nat → Nat → Int32} {P : Nat → Blk} : ∀ (b : Nat) (X : Nat → Int32) (c : Bool), (sp_lr T P b X c).2 = false → c = false ∧ (sp_lr T P b X c).1 = X
  | 0, X, c, h => ⟨h, rfl⟩
  | b + 1, X, c, h => by
    unfold sp_lr at h ⊢
    obtain ⟨h1, h2⟩ := sp_lr_flag b _ _ h
    have h3 : c = false ∧ sp_lv T (P b) X = X b := by simpa using h1
    refine ⟨h3.1, ?_⟩
    rw [h2, h3.2]
    funext i
    unfold upd
    split
    · next e => rw [e]
    · rfl
theorem sp_lit_bits {T : Nat → Nat → Int32} {P : Nat → Blk} (hpt : pt_ok P 16) {v : Nat} (hv : v < 8) : ∀ (fu : Nat) (X : Nat → Int32), bpost (lsys T P v) (bts X v) → ∀ i, i < 16 → bts (sp_lit T P fu X) v i = bit_ (lsys T P v) fu (bts X v) i
  | 0, X, _, i, hi => rfl
  | fu + 1, X, hp, i, hi => by
    have hb := sp_lr_bits (T := T) (P := P) hv 16 X false
    have hm := lsys_mono (T := T) hpt v
    unfold sp_lit bit_
    cases hc : (sp_lr T P 16 X false).2 with
    | true =>
      rw [if_pos rfl, ← hb]
      exact sp_lit_bits hpt hv fu _ (by rw [hb]; exact (brd_post hm 16 _ (Nat.le_refl _) hp).2) i hi
    | false =>
      rw [if_neg (by decide)]
      have e := (sp_lr_flag 16 X false hc).2
      rw [e] at hb ⊢
      have fx := brd_fix hm 16 (bts X v) (Nat.le_refl _) hp (fun c _ => by rw [← hb])
      rw [← hb, bit_keep hm fu (bts X v) fx i hi]
/-- the class's lives are a fixed point, and below every other one -/
theorem sp_lit_fixed {T : Nat → Nat → Int32} {P : Nat → Blk} (hpt : pt_ok P 16) {v : Nat} (hv : v < 8) {b : Nat} (hb : b < 16) : fl_bit (sp_lv T (P b) (sp_lit T P 16 (fun _ => 0))) v = fl_bit (sp_lit T P 16 (fun _ => 0) b) v := by
  have hm := lsys_mono (T := T) hpt v
  have h0 : bts (fun _ => 0) v = fun _ => false := by
    funext i
    exact fl_bit_0 v
  have hp : bpost (lsys T P v) (bts (fun _ => 0) v) := by
    rw [h0]
    intro b _ h
    cases h
  have e := sp_lit_bits (T := T) hpt hv 16 (fun _ => 0) hp
  rw [lv_bit hv, b_congr hm e hb]
  show _ = bts (sp_lit T P 16 (fun _ => 0)) v b
  rw [e b hb]
  exact bit_fixed hm 16 _ hp (by omega) b hb
theorem bit_below {f : (Nat → Bool) → Nat → Bool} (hf : bmono f) {y : Nat → Bool} (hy : ∀ b, b < 16 → f y b = true → y b = true) : ∀ (k : Nat) (x : Nat → Bool), ble x y → ble (bit_ f k x) y
  | 0, _, h => h
  | k + 1, x, h => bit_below hf hy k _ (brd_below hf hy 16 x (Nat.le_refl _) h)
theorem sp_lit_least {T : Nat → Nat → Int32} {P : Nat → Blk} (hpt : pt_ok P 16) {v : Nat} (hv : v < 8) {Y : Nat → Int32} (hY : ∀ b, b < 16 → fl_bit (sp_lv T (P b) Y) v = fl_bit (Y b) v) {b : Nat} (hb : b < 16) (h : fl_bit (sp_lit T P 16 (fun _ => 0) b) v = true) : fl_bit (Y b) v = true := by
  have hm := lsys_mono (T := T) hpt v
  have h0 : bts (fun _ => 0) v = fun _ => false := by
    funext i
    exact fl_bit_0 v
  have hp : bpost (lsys T P v) (bts (fun _ => 0) v) := by
    rw [h0]
    intro b _ h
    cases h
  have e := sp_lit_bits (T := T) hpt hv 16 (fun _ => 0) hp b hb
  have h' : bts (sp_lit T P 16 (fun _ => 0)) v b = true := h
  rw [e] at h'
  refine bit_below hm (y := bts Y v) (fun c hc hx => ?_) 16 _ (fun c hc hx => ?_) b hb h'
  · rw [← lv_bit hv, hY c hc] at hx
    exact hx
  · rw [h0] at hx
    cases hx
