/-! The model and the class, made -/
def flR : List Nat := [2, 3, 4, 5, 6, 8, 9, 10, 11, 12, 13, 14, 15, 16, 17, 19, 20, 22, 25, 26, 27, 28, 29, 30, 31, 32, 34, 35, 36, 37, 38, 43, 44]
def inR : List Nat := [0, 1, 7, 18, 21, 23, 24, 33, 39, 40, 41, 42]
section MR
variable {g : mc_G} {d n : Nat} {M : mc_M} {L : mc_L} {Q : Option Value → mc_M → mc_L → Prop}
theorem cB_plain {b : Nat} {x : Int32} (h8 : M 64 8 ≠ 0) (h11 : M 64 11 ≠ 0) (h12 : M 64 12 ≠ 0) (hx : x = nI b) (hb : b < 16) (hd : 1 ≤ d) (h : ∀ M', M' = mc_put (mc_put (mc_put M 70 b 0) 73 b 2) 74 b (-1) → Q none M' L) : cbR_plain g d 0 [.ref 64, .int x] 98 M L Q := by
  obtain ⟨d, rfl⟩ := Nat.exists_eq_add_of_le' hd
  have vb : vp_in x 16 := by rw [hx]; exact vp_in_nI hb (by decide)
  have q : Q none (mc_put (mc_put (mc_put M 70 x.toNatClampNeg 0) 73 x.toNatClampNeg 2) 74 x.toNatClampNeg (-1)) L := h _ (by rw [hx, nI_clamp (by omega)])
  exact ibR_plain (Nat.le_of_ble_eq_true rfl) (fun K hK => hK.1 [] 40 0 _ _ _ _ _ ⟨by decide, h8, by decide, vb, by decide, h11, by decide, vb, by decide, h12, by decide, vb, rfl, q⟩)
def mtR (M : mc_M) : Prop := (∀ c, 65 ≤ c → c ≤ 97 → c ≠ 73 → c ≠ 74 → M c = fun _ => 0) ∧ (∀ b, b < 16 → M 73 b = 2 ∧ M 74 b = -1) ∧ ∀ s ∈ flR, M 64 s = 1
theorem cB_R (hd : 2 ≤ d) (h : ∀ M' L', (∀ c, c < 64 → M' c = M c) → mtR M' → (∀ s ∈ inR, M' 64 s = M 64 s) → Q none M' L') : cbR_init g d 33 [.ref 64] 65 M L Q := by
  obtain ⟨d, rfl⟩ := Nat.exists_eq_add_of_le' (show 1 ≤ d by omega)
  have lp : ∀ (K : mc_K) (L1 : mc_L), mc_closed false tab0 65 33 none (sbR_init g d) Q (fun _ _ _ => False) tbR_init K → ∀ (r b : Nat) (i : Int32) (M1 : mc_M), r + b = 16 → i = nI b → (∀ c, c < 64 → M1 c = M c) → (∀ c, 65 ≤ c → c ≤ 97 → c ≠ 73 → c ≠ 74 → M1 c = fun _ => 0) → (∀ c, c < b → M1 73 c = 2 ∧ M1 74 c = -1) → (∀ s ∈ flR, M1 64 s = 1) → (∀ s ∈ inR, M1 64 s = M 64 s) → K 285 [some (.ref 64), some (.int i)] [] 98 M1 L1 := by
    intro K L1 hK r
    induction r with
    | zero =>
      intro b i M1 hr hi e1 e2 e3 e4 e5
      subst hi
      have c1 : (16 : Int32) ≤ nI b := nI_le (a := 16) (by omega) (by omega)
      exact hK.1 [] 20 285 _ _ _ _ _ ⟨fun _ => ⟨rfl, h M1 L1 e1 ⟨e2, fun c hc => e3 c (by omega), e4⟩ e5⟩, fun z => absurd c1 z⟩
    | succ r ih =>
      intro b i M1 hr hi e1 e2 e3 e4 e5
      subst hi
      have c1 : ¬ (16 : Int32) ≤ nI b := nI_ge (b := 16) (by omega) (by decide)
      have fl : ∀ s, s ∈ flR → M1 64 s ≠ 0 := fun s hs => by rw [e4 s hs]; decide
      refine hK.1 [285] 20 285 _ _ _ _ _ ⟨fun z => absurd z c1, fun _ => ⟨by decide, cB_plain (b := b) (fl 8 (by decide)) (fl 11 (by decide)) (fl 12 (by decide)) rfl (by omega) (by omega) (fun M2 hM2 => ?_)⟩⟩
      have o : ∀ c x, c ≠ 70 → (c ≠ 73 ∧ c ≠ 74 ∨ x ≠ b) → M2 c x = M1 c x := fun c x q1 q2 => by
        rw [hM2, mc_put_at, if_neg (by omega), mc_put_at, if_neg (by omega), mc_put_at, if_neg (by omega)]
      refine ih (b + 1) _ M2 (by omega) (nI_1 b) (fun c hc => ?_) (fun c q1 q2 q3 q4 => ?_) (fun c hc => ?_) (fun s hs => ?_) (fun s hs => ?_)
      · funext w
        rw [o c w (by omega) (by omega), e1 c hc]
      · funext w
        by_cases e : c = 70
        · subst e
          rw [hM2, mc_put_at, if_neg (by omega), mc_put_at, if_neg (by omega), mc_put_at]
          by_cases ew : w = b
          · rw [if_pos ⟨rfl, ew⟩]
          · rw [if_neg (fun z => ew z.2), e2 70 (by omega) (by omega) (by omega) (by omega)]
        · rw [o c w e (by omega), e2 c q1 q2 q3 q4]
      · by_cases e : c = b
        · subst e
          refine ⟨?_, ?_⟩
          · rw [hM2, mc_put_at, if_neg (by omega), mc_put_at, if_pos ⟨rfl, rfl⟩]
          · rw [hM2, mc_put_at, if_pos ⟨rfl, rfl⟩]
        · rw [o 73 c (by omega) (by omega), o 74 c (by omega) (by omega)]
          exact e3 c (by omega)
      · rw [o 64 s (by omega) (by omega)]
        exact e4 s hs
      · rw [o 64 s (by omega) (by omega)]
        exact e5 s hs
  refine ibR_init (Nat.le_of_ble_eq_true rfl) (fun K hK => hK.1 [285] 400 0 _ _ _ _ _ ⟨rfl, by decide, by decide, rfl, by decide, by decide, rfl, by decide, by decide, rfl, by decide, by decide, rfl, by decide, by decide, rfl, by decide, by decide, rfl, by decide, by decide, rfl, by decide, by decide, rfl, by decide, by decide, rfl, by decide, by decide, rfl, by decide, by decide, rfl, by decide, by decide, rfl, by decide, by decide, rfl, by decide, by decide, rfl, by decide, by decide, rfl, by decide, by decide, rfl, by decide, by decide, rfl, by decide, by decide, rfl, by decide, by decide, rfl, by decide, by decide, rfl, by decide, by decide, rfl, by decide, by decide, rfl, by decide, by decide, rfl, by decide, by decide, rfl, by decide, by decide, rfl, by decide, by decide, rfl, by decide, by decide, rfl, by decide, by decide, rfl, by decide, by decide, rfl, by decide, by decide, rfl, by decide, by decide, rfl, by decide, by decide, rfl, by decide, by decide, lp K _ hK 16 0 0 _ rfl rfl (fun c hc => ?_) (fun c h1 h2 h3 h4 => ?_) (fun c hc => absurd hc (Nat.not_lt_zero _)) ?_ ?_⟩)
  · rw [mc_put_n (show c ≠ 64 by omega), mc_set_n (show c ≠ 97 by omega), mc_put_n (show c ≠ 64 by omega), mc_set_n (show c ≠ 96 by omega), mc_put_n (show c ≠ 64 by omega), mc_set_n (show c ≠ 95 by omega), mc_put_n (show c ≠ 64 by omega), mc_set_n (show c ≠ 94 by omega), mc_put_n (show c ≠ 64 by omega), mc_set_n (show c ≠ 93 by omega), mc_put_n (show c ≠ 64 by omega), mc_set_n (show c ≠ 92 by omega), mc_put_n (show c ≠ 64 by omega), mc_set_n (show c ≠ 91 by omega), mc_put_n (show c ≠ 64 by omega), mc_set_n (show c ≠ 90 by omega), mc_put_n (show c ≠ 64 by omega), mc_set_n (show c ≠ 89 by omega), mc_put_n (show c ≠ 64 by omega), mc_set_n (show c ≠ 88 by omega), mc_put_n (show c ≠ 64 by omega), mc_set_n (show c ≠ 87 by omega), mc_put_n (show c ≠ 64 by omega), mc_set_n (show c ≠ 86 by omega), mc_put_n (show c ≠ 64 by omega), mc_set_n (show c ≠ 85 by omega), mc_put_n (show c ≠ 64 by omega), mc_set_n (show c ≠ 84 by omega), mc_put_n (show c ≠ 64 by omega), mc_set_n (show c ≠ 83 by omega), mc_put_n (show c ≠ 64 by omega), mc_set_n (show c ≠ 82 by omega), mc_put_n (show c ≠ 64 by omega), mc_set_n (show c ≠ 81 by omega), mc_put_n (show c ≠ 64 by omega), mc_set_n (show c ≠ 80 by omega), mc_put_n (show c ≠ 64 by omega), mc_set_n (show c ≠ 79 by omega), mc_put_n (show c ≠ 64 by omega), mc_set_n (show c ≠ 78 by omega), mc_put_n (show c ≠ 64 by omega), mc_set_n (show c ≠ 77 by omega), mc_put_n (show c ≠ 64 by omega), mc_set_n (show c ≠ 76 by omega), mc_put_n (show c ≠ 64 by omega), mc_set_n (show c ≠ 75 by omega), mc_put_n (show c ≠ 64 by omega), mc_set_n (show c ≠ 74 by omega), mc_put_n (show c ≠ 64 by omega), mc_set_n (show c ≠ 73 by omega), mc_put_n (show c ≠ 64 by omega), mc_set_n (show c ≠ 72 by omega), mc_put_n (show c ≠ 64 by omega), mc_set_n (show c ≠ 71 by omega), mc_put_n (show c ≠ 64 by omega), mc_set_n (show c ≠ 70 by omega), mc_put_n (show c ≠ 64 by omega), mc_set_n (show c ≠ 69 by omega), mc_put_n (show c ≠ 64 by omega), mc_set_n (show c ≠ 68 by omega), mc_put_n (show c ≠ 64 by omega), mc_set_n (show c ≠ 67 by omega), mc_put_n (show c ≠ 64 by omega), mc_set_n (show c ≠ 66 by omega), mc_put_n (show c ≠ 64 by omega), mc_set_n (show c ≠ 65 by omega)]
  · have : c = 65 ∨ c = 66 ∨ c = 67 ∨ c = 68 ∨ c = 69 ∨ c = 70 ∨ c = 71 ∨ c = 72 ∨ c = 75 ∨ c = 76 ∨ c = 77 ∨ c = 78 ∨ c = 79 ∨ c = 80 ∨ c = 81 ∨ c = 82 ∨ c = 83 ∨ c = 84 ∨ c = 85 ∨ c = 86 ∨ c = 87 ∨ c = 88 ∨ c = 89 ∨ c = 90 ∨ c = 91 ∨ c = 92 ∨ c = 93 ∨ c = 94 ∨ c = 95 ∨ c = 96 ∨ c = 97 := by omega
    rcases this with rfl | rfl | rfl | rfl | rfl | rfl | rfl | rfl | rfl | rfl | rfl | rfl | rfl | rfl | rfl | rfl | rfl | rfl | rfl | rfl | rfl | rfl | rfl | rfl | rfl | rfl | rfl | rfl | rfl | rfl | rfl <;> rfl
  · exact List.forall_mem_cons.mpr ⟨rfl, List.forall_mem_cons.mpr ⟨rfl, List.forall_mem_cons.mpr ⟨rfl, List.forall_mem_cons.mpr ⟨rfl, List.forall_mem_cons.mpr ⟨rfl, List.forall_mem_cons.mpr ⟨rfl, List.forall_mem_cons.mpr ⟨rfl, List.forall_mem_cons.mpr ⟨rfl, List.forall_mem_cons.mpr ⟨rfl, List.forall_mem_cons.mpr ⟨rfl, List.forall_mem_cons.mpr ⟨rfl, List.forall_mem_cons.mpr ⟨rfl, List.forall_mem_cons.mpr ⟨rfl, List.forall_mem_cons.mpr ⟨rfl, List.forall_mem_cons.mpr ⟨rfl, List.forall_mem_cons.mpr ⟨rfl, List.forall_mem_cons.mpr ⟨rfl, List.forall_mem_cons.mpr ⟨rfl, List.forall_mem_cons.mpr ⟨rfl, List.forall_mem_cons.mpr ⟨rfl, List.forall_mem_cons.mpr ⟨rfl, List.forall_mem_cons.mpr ⟨rfl, List.forall_mem_cons.mpr ⟨rfl, List.forall_mem_cons.mpr ⟨rfl, List.forall_mem_cons.mpr ⟨rfl, List.forall_mem_cons.mpr ⟨rfl, List.forall_mem_cons.mpr ⟨rfl, List.forall_mem_cons.mpr ⟨rfl, List.forall_mem_cons.mpr ⟨rfl, List.forall_mem_cons.mpr ⟨rfl, List.forall_mem_cons.mpr ⟨rfl, List.forall_mem_cons.mpr ⟨rfl, List.forall_mem_cons.mpr ⟨rfl, fun _ h => absurd h List.not_mem_nil⟩⟩⟩⟩⟩⟩⟩⟩⟩⟩⟩⟩⟩⟩⟩⟩⟩⟩⟩⟩⟩⟩⟩⟩⟩⟩⟩⟩⟩⟩⟩⟩⟩
  · exact List.forall_mem_cons.mpr ⟨rfl, List.forall_mem_cons.mpr ⟨rfl, List.forall_mem_cons.mpr ⟨rfl, List.forall_mem_cons.mpr ⟨rfl, List.forall_mem_cons.mpr ⟨rfl, List.forall_mem_cons.mpr ⟨rfl, List.forall_mem_cons.mpr ⟨rfl, List.forall_mem_cons.mpr ⟨rfl, List.forall_mem_cons.mpr ⟨rfl, List.forall_mem_cons.mpr ⟨rfl, List.forall_mem_cons.mpr ⟨rfl, List.forall_mem_cons.mpr ⟨rfl, fun _ h => absurd h List.not_mem_nil⟩⟩⟩⟩⟩⟩⟩⟩⟩⟩⟩⟩
end MR
