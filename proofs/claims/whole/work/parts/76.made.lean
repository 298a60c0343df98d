/-! The constructors -/
def zer (M : mc_M) (a b : Nat) : Prop := ∀ c, a ≤ c → c ≤ b → M c = fun _ => 0
theorem mc_put_n {M : mc_M} {i k c : Nat} {x : Int32} (h : c ≠ i) : mc_put M i k x c = M c := mc_set_n h
section MD
variable {g : mc_G} {d n : Nat} {M : mc_M} {L : mc_L} {Q : Option Value → mc_M → mc_L → Prop}
theorem cB_N (hd : 2 ≤ d) (h : ∀ M' L', (∀ c, c < 1 → M' c = M c) → zer M' 2 6 → M' 1 0 = 1 → M' 1 1 = 1 → M' 1 2 = 1 → M' 1 3 = 1 → M' 1 4 = 1 → M' 1 5 = M 1 5 → M' 1 6 = M 1 6 → Q none M' L') : cbN_init g d 5 [.ref 1] 2 M L Q := by
  obtain ⟨d, rfl⟩ := Nat.exists_eq_add_of_le' (show 1 ≤ d by omega)
  refine ibN_init (Nat.le_of_ble_eq_true rfl) (fun K hK => hK.1 [] 60 0 _ _ _ _ _ ⟨rfl, by decide, by decide, rfl, by decide, by decide, rfl, by decide, by decide, rfl, by decide, by decide, rfl, by decide, by decide, rfl, h _ _ (fun c hc => ?_) (fun c h1 h2 => ?_) rfl rfl rfl rfl rfl rfl rfl⟩)
  · rw [mc_put_n (show c ≠ 1 by omega), mc_set_n (show c ≠ 6 by omega), mc_put_n (show c ≠ 1 by omega), mc_set_n (show c ≠ 5 by omega), mc_put_n (show c ≠ 1 by omega), mc_set_n (show c ≠ 4 by omega), mc_put_n (show c ≠ 1 by omega), mc_set_n (show c ≠ 3 by omega), mc_put_n (show c ≠ 1 by omega), mc_set_n (show c ≠ 2 by omega)]
  · have : c = 2 ∨ c = 3 ∨ c = 4 ∨ c = 5 ∨ c = 6 := by omega
    rcases this with rfl | rfl | rfl | rfl | rfl <;> rfl
theorem cB_Y (hd : 2 ≤ d) (h : ∀ M' L', (∀ c, c < 21 → M' c = M c) → zer M' 22 22 → M' 21 0 = 1 → Q none M' L') : cbY_init g d 1 [.ref 21] 22 M L Q := by
  obtain ⟨d, rfl⟩ := Nat.exists_eq_add_of_le' (show 1 ≤ d by omega)
  refine ibY_init (Nat.le_of_ble_eq_true rfl) (fun K hK => hK.1 [] 28 0 _ _ _ _ _ ⟨rfl, by decide, by decide, rfl, h _ _ (fun c hc => ?_) (fun c h1 h2 => ?_) rfl⟩)
  · rw [mc_put_n (show c ≠ 21 by omega), mc_set_n (show c ≠ 22 by omega)]
  · obtain rfl : c = 22 := by omega
    rfl
theorem cB_M (hd : 2 ≤ d) (h : ∀ M' L', (∀ c, c < 23 → M' c = M c) → zer M' 24 24 → M' 23 0 = 1 → M' 23 1 = M 23 1 → M' 23 2 = M 23 2 → M' 23 3 = M 23 3 → Q none M' L') : cbM_init g d 1 [.ref 23] 24 M L Q := by
  obtain ⟨d, rfl⟩ := Nat.exists_eq_add_of_le' (show 1 ≤ d by omega)
  refine ibM_init (Nat.le_of_ble_eq_true rfl) (fun K hK => hK.1 [] 28 0 _ _ _ _ _ ⟨rfl, by decide, by decide, rfl, h _ _ (fun c hc => ?_) (fun c h1 h2 => ?_) rfl rfl rfl rfl⟩)
  · rw [mc_put_n (show c ≠ 23 by omega), mc_set_n (show c ≠ 24 by omega)]
  · obtain rfl : c = 24 := by omega
    rfl
theorem cB_X (hd : 2 ≤ d) (h : ∀ M' L', (∀ c, c < 25 → M' c = M c) → zer M' 26 30 → M' 25 0 = 1 → M' 25 1 = 1 → M' 25 2 = 1 → M' 25 3 = 1 → M' 25 4 = 1 → M' 25 5 = M 25 5 → M' 25 6 = M 25 6 → Q none M' L') : cbX_init g d 5 [.ref 25] 26 M L Q := by
  obtain ⟨d, rfl⟩ := Nat.exists_eq_add_of_le' (show 1 ≤ d by omega)
  refine ibX_init (Nat.le_of_ble_eq_true rfl) (fun K hK => hK.1 [] 60 0 _ _ _ _ _ ⟨rfl, by decide, by decide, rfl, by decide, by decide, rfl, by decide, by decide, rfl, by decide, by decide, rfl, by decide, by decide, rfl, h _ _ (fun c hc => ?_) (fun c h1 h2 => ?_) rfl rfl rfl rfl rfl rfl rfl⟩)
  · rw [mc_put_n (show c ≠ 25 by omega), mc_set_n (show c ≠ 30 by omega), mc_put_n (show c ≠ 25 by omega), mc_set_n (show c ≠ 29 by omega), mc_put_n (show c ≠ 25 by omega), mc_set_n (show c ≠ 28 by omega), mc_put_n (show c ≠ 25 by omega), mc_set_n (show c ≠ 27 by omega), mc_put_n (show c ≠ 25 by omega), mc_set_n (show c ≠ 26 by omega)]
  · have : c = 26 ∨ c = 27 ∨ c = 28 ∨ c = 29 ∨ c = 30 := by omega
    rcases this with rfl | rfl | rfl | rfl | rfl <;> rfl
theorem cB_C (hd : 2 ≤ d) (h : ∀ M' L', (∀ c, c < 31 → M' c = M c) → zer M' 32 34 → M' 31 0 = 1 → M' 31 1 = 1 → M' 31 2 = 1 → Q none M' L') : cbC_init g d 3 [.ref 31] 32 M L Q := by
  obtain ⟨d, rfl⟩ := Nat.exists_eq_add_of_le' (show 1 ≤ d by omega)
  refine ibC_init (Nat.le_of_ble_eq_true rfl) (fun K hK => hK.1 [] 44 0 _ _ _ _ _ ⟨rfl, by decide, by decide, rfl, by decide, by decide, rfl, by decide, by decide, rfl, h _ _ (fun c hc => ?_) (fun c h1 h2 => ?_) rfl rfl rfl⟩)
  · rw [mc_put_n (show c ≠ 31 by omega), mc_set_n (show c ≠ 34 by omega), mc_put_n (show c ≠ 31 by omega), mc_set_n (show c ≠ 33 by omega), mc_put_n (show c ≠ 31 by omega), mc_set_n (show c ≠ 32 by omega)]
  · have : c = 32 ∨ c = 33 ∨ c = 34 := by omega
    rcases this with rfl | rfl | rfl <;> rfl
theorem cB_T (hd : 2 ≤ d) (h : ∀ M' L', (∀ c, c < 35 → M' c = M c) → zer M' 36 37 → M' 35 0 = 1 → M' 35 1 = 1 → M' 35 2 = M 35 2 → M' 35 3 = M 35 3 → Q none M' L') : cbT_init g d 2 [.ref 35] 36 M L Q := by
  obtain ⟨d, rfl⟩ := Nat.exists_eq_add_of_le' (show 1 ≤ d by omega)
  refine ibT_init (Nat.le_of_ble_eq_true rfl) (fun K hK => hK.1 [] 36 0 _ _ _ _ _ ⟨rfl, by decide, by decide, rfl, by decide, by decide, rfl, h _ _ (fun c hc => ?_) (fun c h1 h2 => ?_) rfl rfl rfl rfl⟩)
  · rw [mc_put_n (show c ≠ 35 by omega), mc_set_n (show c ≠ 37 by omega), mc_put_n (show c ≠ 35 by omega), mc_set_n (show c ≠ 36 by omega)]
  · have : c = 36 ∨ c = 37 := by omega
    rcases this with rfl | rfl <;> rfl
theorem cB_F38 (hd : 2 ≤ d) (h : ∀ M' L', (∀ c, c < 38 → M' c = M c) → zer M' 39 50 → M' 38 2 = 1 → M' 38 3 = 1 → M' 38 4 = 1 → M' 38 5 = 1 → M' 38 6 = 1 → M' 38 7 = 1 → M' 38 8 = 1 → M' 38 9 = 1 → M' 38 10 = 1 → M' 38 11 = 1 → M' 38 12 = 1 → M' 38 13 = 1 → M' 38 0 = 0 → M' 38 1 = M 38 1 → Q none M' L') : cbF_init g d 12 [.ref 38, .int 100, .int 0] 39 M L Q := by
  obtain ⟨d, rfl⟩ := Nat.exists_eq_add_of_le' (show 1 ≤ d by omega)
  refine ibF_init (Nat.le_of_ble_eq_true rfl) (fun K hK => hK.1 [] 160 0 _ _ _ _ _ ⟨rfl, by decide, by decide, rfl, by decide, by decide, rfl, by decide, by decide, rfl, by decide, by decide, rfl, by decide, by decide, rfl, by decide, by decide, rfl, by decide, by decide, rfl, by decide, by decide, rfl, by decide, by decide, rfl, by decide, by decide, rfl, by decide, by decide, rfl, by decide, by decide, by decide, fun _ => ⟨rfl, h _ _ (fun c hc => ?_) (fun c h1 h2 => ?_) rfl rfl rfl rfl rfl rfl rfl rfl rfl rfl rfl rfl rfl rfl⟩, fun z => absurd (show (0 : Int32) ≤ 0 by decide) z⟩)
  · rw [mc_put_n (show c ≠ 38 by omega), mc_put_n (show c ≠ 38 by omega), mc_set_n (show c ≠ 50 by omega), mc_put_n (show c ≠ 38 by omega), mc_set_n (show c ≠ 49 by omega), mc_put_n (show c ≠ 38 by omega), mc_set_n (show c ≠ 48 by omega), mc_put_n (show c ≠ 38 by omega), mc_set_n (show c ≠ 47 by omega), mc_put_n (show c ≠ 38 by omega), mc_set_n (show c ≠ 46 by omega), mc_put_n (show c ≠ 38 by omega), mc_set_n (show c ≠ 45 by omega), mc_put_n (show c ≠ 38 by omega), mc_set_n (show c ≠ 44 by omega), mc_put_n (show c ≠ 38 by omega), mc_set_n (show c ≠ 43 by omega), mc_put_n (show c ≠ 38 by omega), mc_set_n (show c ≠ 42 by omega), mc_put_n (show c ≠ 38 by omega), mc_set_n (show c ≠ 41 by omega), mc_put_n (show c ≠ 38 by omega), mc_set_n (show c ≠ 40 by omega), mc_put_n (show c ≠ 38 by omega), mc_set_n (show c ≠ 39 by omega)]
  · have : c = 39 ∨ c = 40 ∨ c = 41 ∨ c = 42 ∨ c = 43 ∨ c = 44 ∨ c = 45 ∨ c = 46 ∨ c = 47 ∨ c = 48 ∨ c = 49 ∨ c = 50 := by omega
    rcases this with rfl | rfl | rfl | rfl | rfl | rfl | rfl | rfl | rfl | rfl | rfl | rfl <;> rfl
theorem cB_F51 (hd : 2 ≤ d) (h : ∀ M' L', (∀ c, c < 51 → M' c = M c) → zer M' 52 63 → M' 51 2 = 1 → M' 51 3 = 1 → M' 51 4 = 1 → M' 51 5 = 1 → M' 51 6 = 1 → M' 51 7 = 1 → M' 51 8 = 1 → M' 51 9 = 1 → M' 51 10 = 1 → M' 51 11 = 1 → M' 51 12 = 1 → M' 51 13 = 1 → M' 51 0 = 0 → M' 51 1 = M 51 1 → Q none M' L') : cbF_init g d 12 [.ref 51, .int 100, .int 0] 52 M L Q := by
  obtain ⟨d, rfl⟩ := Nat.exists_eq_add_of_le' (show 1 ≤ d by omega)
  refine ibF_init (Nat.le_of_ble_eq_true rfl) (fun K hK => hK.1 [] 160 0 _ _ _ _ _ ⟨rfl, by decide, by decide, rfl, by decide, by decide, rfl, by decide, by decide, rfl, by decide, by decide, rfl, by decide, by decide, rfl, by decide, by decide, rfl, by decide, by decide, rfl, by decide, by decide, rfl, by decide, by decide, rfl, by decide, by decide, rfl, by decide, by decide, rfl, by decide, by decide, by decide, fun _ => ⟨rfl, h _ _ (fun c hc => ?_) (fun c h1 h2 => ?_) rfl rfl rfl rfl rfl rfl rfl rfl rfl rfl rfl rfl rfl rfl⟩, fun z => absurd (show (0 : Int32) ≤ 0 by decide) z⟩)
  · rw [mc_put_n (show c ≠ 51 by omega), mc_put_n (show c ≠ 51 by omega), mc_set_n (show c ≠ 63 by omega), mc_put_n (show c ≠ 51 by omega), mc_set_n (show c ≠ 62 by omega), mc_put_n (show c ≠ 51 by omega), mc_set_n (show c ≠ 61 by omega), mc_put_n (show c ≠ 51 by omega), mc_set_n (show c ≠ 60 by omega), mc_put_n (show c ≠ 51 by omega), mc_set_n (show c ≠ 59 by omega), mc_put_n (show c ≠ 51 by omega), mc_set_n (show c ≠ 58 by omega), mc_put_n (show c ≠ 51 by omega), mc_set_n (show c ≠ 57 by omega), mc_put_n (show c ≠ 51 by omega), mc_set_n (show c ≠ 56 by omega), mc_put_n (show c ≠ 51 by omega), mc_set_n (show c ≠ 55 by omega), mc_put_n (show c ≠ 51 by omega), mc_set_n (show c ≠ 54 by omega), mc_put_n (show c ≠ 51 by omega), mc_set_n (show c ≠ 53 by omega), mc_put_n (show c ≠ 51 by omega), mc_set_n (show c ≠ 52 by omega)]
  · have : c = 52 ∨ c = 53 ∨ c = 54 ∨ c = 55 ∨ c = 56 ∨ c = 57 ∨ c = 58 ∨ c = 59 ∨ c = 60 ∨ c = 61 ∨ c = 62 ∨ c = 63 := by omega
    rcases this with rfl | rfl | rfl | rfl | rfl | rfl | rfl | rfl | rfl | rfl | rfl | rfl <;> rfl
end MD
