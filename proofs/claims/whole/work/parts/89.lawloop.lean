/-! The law's loop -/
def LPS (g : mc_G) (d : Nat) (INV : mc_M → Prop) : Prop :=
  (∀ a0 a1 a2, pI INV (ctL_node g d) (ctR_node g d) [.ref 0, .int a0, .int a1, .int a2, .ref 98] [.ref 64, .int a0, .int a1, .int a2]) ∧
  (∀ a0 a1 a2, pI INV (ctL_assign g d) (ctR_assign g d) [.ref 0, .int a0, .int a1, .int a2, .ref 98] [.ref 64, .int a0, .int a1, .int a2]) ∧
  (∀ a0 a1 a2 a3 a4, pV INV (ctL_jump g d) (ctR_jump g d) [.ref 0, .int a0, .int a1, .int a2, .int a3, .int a4] [.ref 64, .int a0, .int a1, .int a2, .int a3, .int a4]) ∧
  (∀ a0, pI INV (ctL_clear g d) (ctR_clear g d) [.ref 0, .int a0, .ref 98] [.ref 64, .int a0]) ∧
  (∀ a0 a1, pI INV (ctL_input g d) (ctR_input g d) [.ref 0, .int a0, .int a1, .ref 98] [.ref 64, .int a0, .int a1]) ∧
  (∀ a0, pB INV (ctL_run g d) (ctR_run g d) [.ref 0, .int a0, .ref 98] [.ref 64, .int a0]) ∧
  (∀ a0, pB INV (ctL_follow g d) (ctR_follow g d) [.ref 0, .int a0, .ref 98] [.ref 64, .int a0]) ∧
  (∀ a0, pI INV (ctL_result g d) (ctR_result g d) [.ref 0, .int a0, .ref 98] [.ref 64, .int a0]) ∧
  (∀ a0, pI INV (ctL_divide g d) (ctR_divide g d) [.ref 0, .int a0, .ref 98] [.ref 64, .int a0]) ∧
  (∀ a0, pI INV (ctL_live g d) (ctR_live g d) [.ref 0, .int a0, .ref 98] [.ref 64, .int a0]) ∧
  (∀ a0, pI INV (ctL_mix g d) (ctR_mix g d) [.ref 0, .int a0, .ref 98] [.ref 64, .int a0]) ∧
  pI INV (ctL_compress g d) (ctR_compress g d) [.ref 0, .ref 98] [.ref 64] ∧
  (∀ a0 a1, pI INV (ctL_about g d) (ctR_about g d) [.ref 0, .int a0, .int a1, .ref 98] [.ref 64, .int a0, .int a1]) ∧
  (∀ a0, pI INV (ctL_sign g d) (ctR_sign g d) [.ref 0, .int a0, .ref 98] [.ref 64, .int a0]) ∧
  (∀ a0, pI INV (ctL_count g d) (ctR_count g d) [.ref 0, .int a0, .ref 98] [.ref 64, .int a0])
theorem lw_lt {len q : Nat} (hl : len ≤ 3072) (hq : q ≤ 3072) : (Int32.ofNat len - 6 < nI q) ↔ len < q + 6 := by
  show nI len - 6 < nI q ↔ _
  by_cases h : 6 ≤ len
  · obtain ⟨k, rfl⟩ := Nat.exists_eq_add_of_le' h
    have : nI (k + 6) - 6 = nI k := by
      rw [← nI_add]
      show nI k + 6 - 6 = nI k
      exact Int32.add_sub_cancel _ _
    rw [this, nI_ltI (by omega) (by omega)]
    omega
  · have hc : len = 0 ∨ len = 1 ∨ len = 2 ∨ len = 3 ∨ len = 4 ∨ len = 5 := by omega
    have hn : nI len - 6 < 0 := by rcases hc with rfl | rfl | rfl | rfl | rfl | rfl <;> decide +kernel
    exact ⟨fun _ => by omega, fun _ => Int32.lt_of_lt_of_le hn (nI_pos' (by omega))⟩
section LWO
variable {g : mc_G} {d sa len : Nat} {xs : Nat → Int32} {K : mc_K} {Qr : Option Value → mc_M → mc_L → Prop} {INV : mc_M → Prop}
set_option maxRecDepth 20000 in
theorem lw_loop (hK : mc_closed true tab0 0 611 (some .boolean) (shL g d sa len xs) Qr (fun _ _ _ => False) tbL_law K) (hd : 1 ≤ d) (hl : len ≤ 3072) (hp : LPS g d INV) (hQ : ∀ M L, Qr (some (.int 1)) M L) : ∀ (r j n : Nat) (M : mc_M) (L : mc_L), r + j = 512 → n ≤ 99 + j → INV M → K 23 [some (.retAddr sa), some (.ref 0), some (.ref 64), some (.ref 98), some (.int (nI (6 * j))), none, none] [] n M L := by
  intro r
  induction r with
  | zero =>
    intro j n M L hr hn hI
    have hj : 6 * j ≤ 3072 := by omega
    exact hK.1 [33] 20 23 _ _ _ _ _ ⟨rfl, fun _ => ⟨Or.inr rfl, by omega, hQ M L⟩, fun z => absurd ((lw_lt hl hj).mpr (by omega)) z⟩
  | succ r ih =>
    intro j n M L hr hn hI
    have hj : 6 * j ≤ 3072 := by omega
    refine hK.1 [33] 20 23 _ _ _ _ _ ⟨rfl, fun _ => ⟨Or.inr rfl, by omega, hQ M L⟩, fun z => ?_⟩
    have hle : 6 * j + 6 ≤ len := by
      rcases Nat.lt_or_ge len (6 * j + 6) with q | q
      · exact absurd ((lw_lt hl hj).mpr q) z
      · exact q
    have hv : ∀ t, t ≤ 5 → vp_in (nI (6 * j) + nI t) len := fun t ht => by
      rw [nI_add]
      exact vp_in_nI (by omega) (by omega)
    have hv0 : vp_in (nI (6 * j)) len := vp_in_nI (by omega) (by omega)
    have h1 := hv 1 (by decide)
    have h2 := hv 2 (by decide)
    have h3 := hv 3 (by decide)
    have h4 := hv 4 (by decide)
    have h5 := hv 5 (by decide)
    have hn1 : n + 1 ≤ 0 + 611 := by omega
    have hend1 : ∀ n' M2 L2, n' ≤ 99 + (j + 1) → INV M2 → K 1058 [some (.retAddr sa), some (.ref 0), some (.ref 64), some (.ref 98), some (.int (nI (6 * j))), none, none] [] n' M2 L2 := fun n' M2 L2 hn' hI2 => by
      refine hK.1 [23] 20 1058 _ _ _ _ _ ?_
      have := ih (j + 1) n' M2 L2 (by omega) hn' hI2
      rw [show 6 * (j + 1) = 6 * j + 6 by omega, ← nI_add] at this
      exact this
    have hend : ∀ M2 L2, INV M2 → K 1058 [some (.retAddr sa), some (.ref 0), some (.ref 64), some (.ref 98), some (.int (nI (6 * j))), none, none] [] (n + 1) M2 L2 := fun M2 L2 h => hend1 (n + 1) M2 L2 (by omega) h
    obtain ⟨p0, p1, p2, p3, p4, p5, p6, p7, p8, p9, p10, p11, p12, p13, p14⟩ := hp
    have c0 := lwc_node (L := L) hK hd h1 h2 h3 hn1 hI p0 hend
    have c1 := lwc_assign (L := L) hK hd h1 h2 h3 hn1 hI p1 hend
    have c2 := lwc_jump (L := L) hK hd h1 h2 h3 h4 h5 hn1 hI p2 hend
    have c3 := lwc_clear (L := L) hK hd h1 hn1 hI p3 hend
    have c4 := lwc_input (L := L) hK hd h1 h2 hn1 hI p4 hend
    have c5 := lwc_run (L := L) hK hd h1 hn1 hI p5 hend
    have c6 := lwc_follow (L := L) hK hd h1 hn1 hI p6 hend
    have c7 := lwc_result (L := L) hK hd h1 hn1 hI p7 hend
    have c8 := lwc_divide (L := L) hK hd h1 hn1 hI p8 hend
    have c9 := lwc_live (L := L) hK hd h1 hn1 hI p9 hend
    have c10 := lwc_mix (L := L) hK hd h1 hn1 hI p10 hend
    have c11 := lwc_compress (L := L) hK hd  hn1 hI p11 hend
    have c12 := lwc_about (L := L) hK hd h1 h2 hn1 hI p12 hend
    have c13 := lwc_sign (L := L) hK hd h1 hn1 hI p13 hend
    have c14 := lwc_count (L := L) hK hd h1 hn1 hI p14 hend
    refine hK.1 [116, 196, 276, 360, 416, 484, 547, 610, 666, 722, 778, 834, 878, 946, 1002, 1058] 20 33 _ _ _ _ _ ⟨rfl, hv0, ?_⟩
    exact ⟨fun _ => c0, fun _ => ⟨fun _ => c1, fun _ => ⟨fun _ => c2, fun _ => ⟨fun _ => c3, fun _ => ⟨fun _ => c4, fun _ => ⟨fun _ => c5, fun _ => ⟨fun _ => c6, fun _ => ⟨fun _ => c7, fun _ => ⟨fun _ => c8, fun _ => ⟨fun _ => c9, fun _ => ⟨fun _ => c10, fun _ => ⟨fun _ => c11, fun _ => ⟨fun _ => c12, fun _ => ⟨fun _ => c13, fun _ => ⟨fun _ => c14, fun _ => ⟨trivial, hend1 n M L (by omega) hI⟩⟩⟩⟩⟩⟩⟩⟩⟩⟩⟩⟩⟩⟩⟩⟩
end LWO
