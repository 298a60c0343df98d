/-! Rounds of a monotone system of sixteen booleans: after sixteen rounds nothing changes -/
def bup (x : Nat → Bool) (b : Nat) (y : Bool) : Nat → Bool := fun i => if i = b then y else x i
def bmono (f : (Nat → Bool) → Nat → Bool) : Prop := ∀ x y : Nat → Bool, (∀ b, b < 16 → x b = true → y b = true) → ∀ b, b < 16 → f x b = true → f y b = true
def ble (x y : Nat → Bool) : Prop := ∀ b, b < 16 → x b = true → y b = true
def brd (f : (Nat → Bool) → Nat → Bool) : Nat → (Nat → Bool) → Nat → Bool
  | 0, x => x
  | b + 1, x => brd f b (bup x b (f x b))
def bit_ (f : (Nat → Bool) → Nat → Bool) : Nat → (Nat → Bool) → Nat → Bool
  | 0, x => x
  | k + 1, x => bit_ f k (brd f 16 x)
def bpost (f : (Nat → Bool) → Nat → Bool) (x : Nat → Bool) : Prop := ∀ b, b < 16 → x b = true → f x b = true
theorem bup_post {f : (Nat → Bool) → Nat → Bool} (hf : bmono f) {x : Nat → Bool} (h : bpost f x) {b : Nat} (hb : b < 16) : ble x (bup x b (f x b)) ∧ bpost f (bup x b (f x b)) := by
  have h1 : ble x (bup x b (f x b)) := fun c hc hx => by
    unfold bup
    by_cases e : c = b
    · rw [if_pos e, ← e]
      exact h c hc hx
    · rw [if_neg e]
      exact hx
  refine ⟨h1, fun c hc hx => ?_⟩
  unfold bup at hx
  by_cases e : c = b
  · rw [if_pos e] at hx
    rw [e]
    exact hf _ _ h1 b hb hx
  · rw [if_neg e] at hx
    exact hf _ _ h1 c hc (h c hc hx)
theorem brd_post {f : (Nat → Bool) → Nat → Bool} (hf : bmono f) : ∀ (b : Nat) (x : Nat → Bool), b ≤ 16 → bpost f x → ble x (brd f b x) ∧ bpost f (brd f b x)
  | 0, x, _, h => ⟨fun _ _ h => h, h⟩
  | b + 1, x, hb, h => by
    obtain ⟨h1, h2⟩ := bup_post hf h (b := b) (by omega)
    obtain ⟨h3, h4⟩ := brd_post hf b _ (by omega) h2
    exact ⟨fun c hc hx => h3 c hc (h1 c hc hx), h4⟩
/-- a round keeps below what the system leaves below itself -/
theorem brd_below {f : (Nat → Bool) → Nat → Bool} (hf : bmono f) {y : Nat → Bool} (hy : ∀ b, b < 16 → f y b = true → y b = true) : ∀ (b : Nat) (x : Nat → Bool), b ≤ 16 → ble x y → ble (brd f b x) y
  | 0, x, _, h => h
  | b + 1, x, hb, h => by
    refine brd_below hf hy b _ (by omega) (fun c hc hx => ?_)
    unfold bup at hx
    by_cases e : c = b
    · rw [if_pos e] at hx
      rw [e]
      exact hy b (by omega) (hf _ _ h b (by omega) hx)
    · rw [if_neg e] at hx
      exact h c hc hx
/-- a round that changes nothing: the system's fixed point -/
theorem brd_fix {f : (Nat → Bool) → Nat → Bool} (hf : bmono f) : ∀ (b : Nat) (x : Nat → Bool), b ≤ 16 → bpost f x → (∀ c, c < 16 → brd f b x c = x c) → ∀ c, c < b → f x c = x c
  | 0, x, _, _, _, c, hc => absurd hc (Nat.not_lt_zero _)
  | b + 1, x, hb, hp, h, c, hc => by
    obtain ⟨h1, h2⟩ := bup_post hf hp (b := b) (by omega)
    obtain ⟨h3, -⟩ := brd_post hf b _ (by omega) h2
    have same : ∀ c, c < 16 → bup x b (f x b) c = x c := fun c hc => by
      have a1 : x c = true → bup x b (f x b) c = true := h1 c hc
      have a2 : bup x b (f x b) c = true → brd f (b + 1) x c = true := h3 c hc
      rw [h c hc] at a2
      cases hx : x c with
      | true => exact a1 hx
      | false =>
        cases hu : bup x b (f x b) c with
        | false => rfl
        | true =>
          rw [a2 hu] at hx
          cases hx
    have eqf : ∀ c, c < 16 → f (bup x b (f x b)) c = f x c := fun c hc => by
      have a1 : f (bup x b (f x b)) c = true → f x c = true := hf _ _ (fun d hd hx => by rw [same d hd] at hx; exact hx) c hc
      have a2 : f x c = true → f (bup x b (f x b)) c = true := hf _ _ h1 c hc
      cases h5 : f x c with
      | true => exact a2 h5
      | false =>
        cases h6 : f (bup x b (f x b)) c with
        | false => rfl
        | true =>
          rw [a1 h6] at h5
          cases h5
    by_cases e : c = b
    · have := same b (by omega)
      unfold bup at this
      rw [if_pos rfl] at this
      rw [e]
      exact this
    · have ih := brd_fix hf b (bup x b (f x b)) (by omega) h2 (fun d hd => by
        rw [same d hd]
        exact h d hd) c (by omega)
      rw [eqf c (by omega), same c (by omega)] at ih
      exact ih
def bct (x : Nat → Bool) : Nat → Nat
  | 0 => 0
  | k + 1 => bct x k + (if x k = true then 1 else 0)
theorem bct_le (x : Nat → Bool) : ∀ k, bct x k ≤ k
  | 0 => Nat.le_refl _
  | k + 1 => by
    have := bct_le x k
    unfold bct
    split <;> omega
theorem bct_mono {x y : Nat → Bool} (h : ble x y) : ∀ k, k ≤ 16 → bct x k ≤ bct y k
  | 0, _ => Nat.le_refl _
  | k + 1, hk => by
    have := bct_mono h k (by omega)
    unfold bct
    by_cases hx : x k = true
    · rw [if_pos hx, if_pos (h k (by omega) hx)]
      omega
    · rw [if_neg hx]
      omega
theorem bct_eq {x y : Nat → Bool} (h : ble x y) : ∀ k, k ≤ 16 → bct x k = bct y k → ∀ c, c < k → x c = y c
  | 0, _, _, c, hc => absurd hc (Nat.not_lt_zero _)
  | k + 1, hk, he, c, hc => by
    have m := bct_mono h k (by omega)
    unfold bct at he
    have hk1 : x k = y k := by
      cases hx : x k with
      | true => rw [h k (by omega) hx]
      | false =>
        cases hy : y k with
        | false => rfl
        | true =>
          rw [hx, hy] at he
          simp at he
          omega
    rw [hk1] at he
    by_cases e : c = k
    · rw [e, hk1]
    · exact bct_eq h k (by omega) (by omega) c (by omega)
theorem b_congr {f : (Nat → Bool) → Nat → Bool} (hf : bmono f) {x y : Nat → Bool} (h : ∀ c, c < 16 → x c = y c) {c : Nat} (hc : c < 16) : f x c = f y c := by
  have a1 : f x c = true → f y c = true := hf _ _ (fun d hd hx => by rw [← h d hd]; exact hx) c hc
  have a2 : f y c = true → f x c = true := hf _ _ (fun d hd hx => by rw [h d hd]; exact hx) c hc
  cases h5 : f y c with
  | true => exact a2 h5
  | false =>
    cases h6 : f x c with
    | false => rfl
    | true =>
      rw [a1 h6] at h5
      cases h5
theorem brd_keep {f : (Nat → Bool) → Nat → Bool} (hf : bmono f) : ∀ (b : Nat) (x : Nat → Bool), b ≤ 16 → (∀ c, c < 16 → f x c = x c) → ∀ c, c < 16 → brd f b x c = x c
  | 0, _, _, _, _, _ => rfl
  | b + 1, x, hb, h, c, hc => by
    have same : ∀ c, c < 16 → bup x b (f x b) c = x c := fun c hc => by
      unfold bup
      by_cases e : c = b
      · rw [if_pos e, e]
        exact h b (by omega)
      · rw [if_neg e]
    have ih := brd_keep hf b (bup x b (f x b)) (by omega) (fun d hd => by rw [b_congr hf same hd, h d hd, same d hd]) c hc
    rw [same c hc] at ih
    exact ih
theorem bit_keep {f : (Nat → Bool) → Nat → Bool} (hf : bmono f) : ∀ (k : Nat) (x : Nat → Bool), (∀ c, c < 16 → f x c = x c) → ∀ c, c < 16 → bit_ f k x c = x c
  | 0, _, _, _, _ => rfl
  | k + 1, x, h, c, hc => by
    have same := brd_keep hf 16 x (Nat.le_refl _) h
    have ih := bit_keep hf k (brd f 16 x) (fun d hd => by rw [b_congr hf same hd, h d hd, same d hd]) c hc
    rw [same c hc] at ih
    exact ih
theorem bit_fixed {f : (Nat → Bool) → Nat → Bool} (hf : bmono f) : ∀ (k : Nat) (x : Nat → Bool), bpost f x → 16 ≤ k + bct x 16 → ∀ c, c < 16 → f (bit_ f k x) c = bit_ f k x c
  | 0, x, hp, h, c, hc => by
    show f x c = x c
    have hle := bct_le x 16
    have full : ∀ c, c < 16 → x c = true := by
      have e := bct_eq (x := x) (y := fun _ => true) (fun _ _ _ => rfl) 16 (Nat.le_refl _) (by
        have : bct (fun _ => true) 16 = 16 := by decide
        omega)
      exact e
    rw [full c hc]
    exact hp c hc (full c hc)
  | k + 1, x, hp, h, c, hc => by
    obtain ⟨h1, h2⟩ := brd_post hf 16 x (Nat.le_refl _) hp
    unfold bit_
    by_cases e : bct x 16 = bct (brd f 16 x) 16
    · have same := bct_eq h1 16 (Nat.le_refl _) e
      have fx := brd_fix hf 16 x (Nat.le_refl _) hp (fun c hc => (same c hc).symm)
      have same' : ∀ c, c < 16 → brd f 16 x c = x c := fun c hc => (same c hc).symm
      have fx' : ∀ c, c < 16 → f (brd f 16 x) c = brd f 16 x c := fun d hd => by rw [b_congr hf same' hd, fx d hd, same' d hd]
      have kp := bit_keep hf k (brd f 16 x) fx'
      rw [b_congr hf kp hc, fx' c hc, kp c hc]
    · have m := bct_mono h1 16 (Nat.le_refl _)
      exact bit_fixed hf k _ h2 (by omega) c hc
