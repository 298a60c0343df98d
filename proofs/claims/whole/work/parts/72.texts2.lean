/-! Text: jumps, the whole; sign and count -/
section TU
variable {g : mc_G} {d n f : Nat} {M : mc_M} {L : mc_L} {Q : Option Value → mc_M → mc_L → Prop} {Qt : Nat → mc_M → mc_L → Prop} {T : Nat → Nat → Int32} {m : Nat} {S : Int32} {tx : List Int32} {nb : Nat} {R : Nat → Blk} {SS : Nat → List Nat} {J : Nat → Nat}
theorem cT_putJump (hp : PP g) (hf : rs_is f) (hT : nt_ok T m) (hN : nt_C M T m) (hS : M f 1 = S) {b j : Nat} {B : Blk} {ss : List Nat} {x : Int32} (hx : x = nI b) (hb : b < 100) (hB : fl_blk T m S M f 100 b B ss j) (hkd : B.2.2.1 = 0 ∨ B.2.2.1 = 1 ∨ B.2.2.1 = 2) (ht : txt M tx) (hF : (tx ++ sp_tj T S B.2.2).length + 12 < 2 ^ 31) (hd : 72 ≤ d) (h : ∀ M', txt M' (tx ++ sp_tj T S B.2.2) → tnf M M' → Q none M' L) : ctT_putJump g d [.ref 35, .ref 1, .ref f, .int x] n M L Q := by
  obtain ⟨d, rfl⟩ := Nat.exists_eq_add_of_le' (show 1 ≤ d by omega)
  subst hx
  have hm := hT.1
  have hf37 : 37 < f := by rcases hf with rfl | rfl <;> decide
  obtain ⟨-, -, -, -, -, -, hj, hjw, hq, ⟨k, hk, hkr, hjn⟩, hone, hoth⟩ := hB
  have vb : vp_in (nI b) 100 := vp_in_nI hb (by decide)
  have eb : (nI b).toNatClampNeg = b := nI_clamp (by omega)
  have ej5 : M (f + 5) (nI b).toNatClampNeg = nI j := by rw [eb, hj]
  have vj : vp_in (M (f + 5) (nI b).toNatClampNeg) 100 := by rw [ej5]; exact vp_in_nI hjw (by decide)
  have ej : (M (f + 5) (nI b).toNatClampNeg).toNatClampNeg = j := by rw [ej5]; exact nI_clamp (by omega)
  have k6 : M (f + 6) (M (f + 5) (nI b).toNatClampNeg).toNatClampNeg = B.2.2.1 := by rw [ej, hq]
  have c94 : vp_nar .char 94 = 94 := by decide +kernel
  have c63 : vp_nar .char 63 = 63 := by decide +kernel
  have c44 : vp_nar .char 44 = 44 := by decide +kernel
  have c33 : vp_nar .char 33 = 33 := by decide +kernel
  have r7 : ∀ M2, tnf M M2 → M2 (f + 7) (M (f + 5) (nI b).toNatClampNeg).toNatClampNeg = B.2.2.2.2.1 := fun M2 f2 => by rw [f2.1 _ (by omega) (by omega) (by omega), ej, hone]
  have r8 : ∀ M2, tnf M M2 → M2 (f + 8) (M (f + 5) (nI b).toNatClampNeg).toNatClampNeg = B.2.2.2.2.2 := fun M2 f2 => by rw [f2.1 _ (by omega) (by omega) (by omega), ej, hoth]
  have j5 : ∀ M2, tnf M M2 → M2 (f + 5) b = nI j := fun M2 f2 => by rw [f2.1 _ (by omega) (by omega) (by omega), hj]
  have pn : ∀ (M2 : mc_M) (t2 : List Int32) (y : Int32) (Q' : Option Value → mc_M → mc_L → Prop), y = nI (j * 11 + 10) → tnf M M2 → txt M2 t2 → (t2 ++ sp_pt T S B.2.2.2.1.2 (B.2.2.2.1.1 + 1) B.2.2.2.1.1).length + 12 < 2 ^ 31 → (∀ M3, txt M3 (t2 ++ sp_pt T S B.2.2.2.1.2 (B.2.2.2.1.1 + 1) B.2.2.2.1.1) → tnf M M3 → Q' none M3 L) → ctT_putNodeOf g d [.ref 35, .ref 1, .ref f, .int y] n M2 L Q' := fun M2 t2 y Q' hy f2 x2 hl hq => by
    rw [hjn] at hl hq
    have e12 : M2 (f + 12) = M (f + 12) := f2.1 _ (by omega) (by omega) (by omega)
    refine cT_putNodeOf (S := S) hp hf hT (tnf_N hN f2) (by rw [f2.1 f (by omega) (by omega) (by omega)]; exact hS) hy (by omega) (by rw [f2.1 _ (by omega) (by omega) (by omega)]; exact hkr) hk x2 (by rw [e12]; exact hl) (by omega) (fun M3 a1 a2 => hq M3 (by rw [e12] at a1; exact a1) (tnf_tr f2 a2))
  have hfl : fl_is f 100 := by
    rcases hf with rfl | rfl
    · exact Or.inr (Or.inl ⟨rfl, rfl⟩)
    · exact Or.inr (Or.inr ⟨rfl, rfl⟩)
  rcases hkd with k0 | k0 | k0
  · have y0 := k6.trans k0
    have et : sp_tj T S B.2.2 = 94 :: sp_num B.2.2.2.2.1 := by
      unfold sp_tj
      rw [if_pos k0]
    rw [et] at h hF
    have l1 : tx.length + 13 < 2 ^ 31 := by
      rw [List.length_append, List.length_cons] at hF
      omega
    have fin : ∀ M2, txt M2 (tx ++ [94]) → txf M M2 → ∀ M3 y, y = B.2.2.2.2.1 → txt M3 (tx ++ [94] ++ sp_num y) → txf M2 M3 → Q none M3 L := fun M2 _ a2 M3 y hy b1 b2 => h M3 (by rw [hy, List.append_assoc] at b1; exact b1) (tnf_tr (tnf_t a2) (tnf_t b2))
    have ln : (tx ++ [94]).length + 12 < 2 ^ 31 := by rw [List.length_append]; show tx.length + 1 + 12 < 2 ^ 31; omega
    rcases hf with rfl | rfl
    · exact inT_putJump (Nat.le_of_ble_eq_true rfl) (fun K hK => hK.1 [] 80 0 _ _ _ _ _ ⟨vb, vj, fun _ => cT_put ht c94 (by omega) (by omega) (fun M2 a1 a2 => ⟨vj, cT_putNumber a1 ln (by omega) (fun M3 b1 b2 => ⟨Nat.le_refl _, fin M2 a1 a2 M3 _ (r7 M2 (tnf_t a2)) b1 b2⟩)⟩), fun z => absurd y0 z⟩)
    · exact inT_putJump (Nat.le_of_ble_eq_true rfl) (fun K hK => hK.1 [] 80 0 _ _ _ _ _ ⟨vb, vj, fun _ => cT_put ht c94 (by omega) (by omega) (fun M2 a1 a2 => ⟨vj, cT_putNumber a1 ln (by omega) (fun M3 b1 b2 => ⟨Nat.le_refl _, fin M2 a1 a2 M3 _ (r7 M2 (tnf_t a2)) b1 b2⟩)⟩), fun z => absurd y0 z⟩)
  · have y1 := k6.trans k0
    have n0 : ¬ M (f + 6) (M (f + 5) (nI b).toNatClampNeg).toNatClampNeg = 0 := by rw [y1]; decide
    have et : sp_tj T S B.2.2 = 63 :: (sp_pt T S B.2.2.2.1.2 (B.2.2.2.1.1 + 1) B.2.2.2.1.1 ++ (44 :: (sp_num B.2.2.2.2.1 ++ (44 :: sp_num B.2.2.2.2.2)))) := by
      unfold sp_tj
      rw [if_neg (by rw [k0]; decide), if_pos k0]
    rw [et] at h hF
    generalize htF : tx ++ 63 :: (sp_pt T S B.2.2.2.1.2 (B.2.2.2.1.1 + 1) B.2.2.2.1.1 ++ (44 :: (sp_num B.2.2.2.2.1 ++ (44 :: sp_num B.2.2.2.2.2)))) = tF at h hF
    have l1 := len_l htF
    have l2 := len_l (show (tx ++ [63] ++ sp_pt T S B.2.2.2.1.2 (B.2.2.2.1.1 + 1) B.2.2.2.1.1) ++ (44 :: (sp_num B.2.2.2.2.1 ++ (44 :: sp_num B.2.2.2.2.2))) = tF by rw [← htF]; simp)
    have l3 := len_l (show (tx ++ [63] ++ sp_pt T S B.2.2.2.1.2 (B.2.2.2.1.1 + 1) B.2.2.2.1.1 ++ [44]) ++ (sp_num B.2.2.2.2.1 ++ (44 :: sp_num B.2.2.2.2.2)) = tF by rw [← htF]; simp)
    have l4 := len_l (show (tx ++ [63] ++ sp_pt T S B.2.2.2.1.2 (B.2.2.2.1.1 + 1) B.2.2.2.1.1 ++ [44] ++ sp_num B.2.2.2.2.1) ++ (44 :: sp_num B.2.2.2.2.2) = tF by rw [← htF]; simp)
    have l5 := len_l (show (tx ++ [63] ++ sp_pt T S B.2.2.2.1.2 (B.2.2.2.1.1 + 1) B.2.2.2.1.1 ++ [44] ++ sp_num B.2.2.2.2.1 ++ [44]) ++ sp_num B.2.2.2.2.2 = tF by rw [← htF]; simp)
    have eF : tx ++ [63] ++ sp_pt T S B.2.2.2.1.2 (B.2.2.2.1.1 + 1) B.2.2.2.1.1 ++ [44] ++ sp_num B.2.2.2.2.1 ++ [44] ++ sp_num B.2.2.2.2.2 = tF := by rw [← htF]; simp
    rcases hf with rfl | rfl
    · exact inT_putJump (Nat.le_of_ble_eq_true rfl) (fun K hK => hK.1 [] 120 0 _ _ _ _ _ ⟨vb, vj, fun z => absurd z n0, fun _ => ⟨fun _ => cT_put ht c63 (by omega) (by omega) (fun M2 a1 a2 => cF_jumpStep hfl (by omega) rfl hb (j5 M2 (tnf_t a2)) (fun y hy => pn M2 _ y _ hy (tnf_t a2) a1 (by omega) (fun M3 b1 b2 => cT_put b1 c44 (by omega) (by omega) (fun M4 d1 d2 => ⟨vj, cT_putNumber d1 (by omega) (by omega) (fun M5 e1 e2 => by
        have f4 := tnf_tr b2 (tnf_t d2)
        have f5 := tnf_tr f4 (tnf_t e2)
        have q := r7 M4 f4
        have e1' : txt M5 (tx ++ [63] ++ sp_pt T S B.2.2.2.1.2 (B.2.2.2.1.1 + 1) B.2.2.2.1.1 ++ [44] ++ sp_num B.2.2.2.2.1) := by rw [← q]; exact e1
        exact cT_put e1' c44 (by omega) (by omega) (fun M6 g1 g2 => ⟨vj, cT_putNumber g1 (by omega) (by omega) (fun M7 i1 i2 => ⟨Nat.le_refl _, h M7 (by
          have q8 := r8 M6 (tnf_tr f5 (tnf_t g2))
          rw [← eF, ← q8]
          exact i1) (tnf_tr (tnf_tr f5 (tnf_t g2)) (tnf_t i2))⟩)⟩))⟩)))), fun z => absurd y1 z⟩⟩)
    · exact inT_putJump (Nat.le_of_ble_eq_true rfl) (fun K hK => hK.1 [] 120 0 _ _ _ _ _ ⟨vb, vj, fun z => absurd z n0, fun _ => ⟨fun _ => cT_put ht c63 (by omega) (by omega) (fun M2 a1 a2 => cF_jumpStep hfl (by omega) rfl hb (j5 M2 (tnf_t a2)) (fun y hy => pn M2 _ y _ hy (tnf_t a2) a1 (by omega) (fun M3 b1 b2 => cT_put b1 c44 (by omega) (by omega) (fun M4 d1 d2 => ⟨vj, cT_putNumber d1 (by omega) (by omega) (fun M5 e1 e2 => by
        have f4 := tnf_tr b2 (tnf_t d2)
        have f5 := tnf_tr f4 (tnf_t e2)
        have q := r7 M4 f4
        have e1' : txt M5 (tx ++ [63] ++ sp_pt T S B.2.2.2.1.2 (B.2.2.2.1.1 + 1) B.2.2.2.1.1 ++ [44] ++ sp_num B.2.2.2.2.1) := by rw [← q]; exact e1
        exact cT_put e1' c44 (by omega) (by omega) (fun M6 g1 g2 => ⟨vj, cT_putNumber g1 (by omega) (by omega) (fun M7 i1 i2 => ⟨Nat.le_refl _, h M7 (by
          have q8 := r8 M6 (tnf_tr f5 (tnf_t g2))
          rw [← eF, ← q8]
          exact i1) (tnf_tr (tnf_tr f5 (tnf_t g2)) (tnf_t i2))⟩)⟩))⟩)))), fun z => absurd y1 z⟩⟩)
  · have y2 := k6.trans k0
    have n0 : ¬ M (f + 6) (M (f + 5) (nI b).toNatClampNeg).toNatClampNeg = 0 := by rw [y2]; decide
    have n1 : ¬ M (f + 6) (M (f + 5) (nI b).toNatClampNeg).toNatClampNeg = 1 := by rw [y2]; decide
    have et : sp_tj T S B.2.2 = 33 :: sp_pt T S B.2.2.2.1.2 (B.2.2.2.1.1 + 1) B.2.2.2.1.1 := by
      unfold sp_tj
      rw [if_neg (by rw [k0]; decide), if_neg (by rw [k0]; decide)]
    rw [et] at h hF
    have eF : tx ++ [33] ++ sp_pt T S B.2.2.2.1.2 (B.2.2.2.1.1 + 1) B.2.2.2.1.1 = tx ++ 33 :: sp_pt T S B.2.2.2.1.2 (B.2.2.2.1.1 + 1) B.2.2.2.1.1 := by simp
    rw [← eF] at h hF
    have l1 := len_l eF
    rw [← eF] at l1
    rcases hf with rfl | rfl
    · exact inT_putJump (Nat.le_of_ble_eq_true rfl) (fun K hK => hK.1 [] 120 0 _ _ _ _ _ ⟨vb, vj, fun z => absurd z n0, fun _ => ⟨fun z => absurd z n1, fun _ => ⟨trivial, cT_put ht c33 (by rw [List.length_append, List.length_append] at hF; omega) (by omega) (fun M2 a1 a2 => cF_jumpStep hfl (by omega) rfl hb (j5 M2 (tnf_t a2)) (fun y hy => pn M2 _ y _ hy (tnf_t a2) a1 hF (fun M3 b1 b2 => ⟨Nat.le_refl _, h M3 b1 b2⟩)))⟩⟩⟩)
    · exact inT_putJump (Nat.le_of_ble_eq_true rfl) (fun K hK => hK.1 [] 120 0 _ _ _ _ _ ⟨vb, vj, fun z => absurd z n0, fun _ => ⟨fun z => absurd z n1, fun _ => ⟨trivial, cT_put ht c33 (by rw [List.length_append, List.length_append] at hF; omega) (by omega) (fun M2 a1 a2 => cF_jumpStep hfl (by omega) rfl hb (j5 M2 (tnf_t a2)) (fun y hy => pn M2 _ y _ hy (tnf_t a2) a1 hF (fun M3 b1 b2 => ⟨Nat.le_refl _, h M3 b1 b2⟩)))⟩⟩⟩)
end TU
