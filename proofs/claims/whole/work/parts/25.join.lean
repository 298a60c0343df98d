/-! Flow.join and Flow.renumber -/
def fl_jn (M : mc_M) (f b k cb ck lb : Nat) : mc_M := mc_put (if 0 < ck then mc_put (mc_put (if cb = 0 then mc_put M (f + 3) b (M (f + 3) k) else mc_put M (f + 11) lb (M (f + 3) k)) (f + 4) b (M (f + 4) k)) (f + 2) b (nI (cb + ck)) else M) (f + 5) b (M (f + 5) k)
def fl_rn (M : mc_M) (f b t : Nat) : mc_M := mc_put (mc_put (mc_put (mc_put (mc_put M (f + 1) t (M (f + 1) b)) (f + 2) t (M (f + 2) b)) (f + 3) t (M (f + 3) b)) (f + 4) t (M (f + 4) b)) (f + 5) t (M (f + 5) b)
section JN
variable {g : mc_G} {d n f : Nat} {M : mc_M} {L : mc_L} {Q : Option Value → mc_M → mc_L → Prop}
theorem cF_join (hf : rs_is f) {b k cb ck lb : Nat} {x y : Int32} (hx : x = nI b) (hy : y = nI k) (hb : b < 100) (hk : k < 100) (hbk : b ≠ k) (hcb : M (f + 2) b = nI cb) (hck : M (f + 2) k = nI ck) (hcb1 : cb ≤ 1100) (hck1 : ck ≤ 1100) (hl : 0 < cb → M (f + 4) b = nI lb ∧ lb < 1100) (hd : 1 ≤ d) (h : ∀ M', M' = fl_jn M f b k cb ck lb → Q none M' L) : ctF_join g d [.ref f, .int x, .int y] n M L Q := by
  obtain ⟨d, rfl⟩ := Nat.exists_eq_add_of_le' hd
  subst hx
  subst hy
  have eb : (nI b).toNatClampNeg = b := nI_clamp (by omega)
  have ek : (nI k).toNatClampNeg = k := nI_clamp (by omega)
  have vb : vp_in (nI b) 100 := vp_in_nI hb (by decide)
  have vk : vp_in (nI k) 100 := vp_in_nI hk (by decide)
  have go77 : ∀ (K : mc_K), mc_closed true tab0 n 0 none (shF_join g d) Q (fun _ _ _ => False) tbF_join K → ∀ M1, M1 (f + 5) k = M (f + 5) k → mc_put M1 (f + 5) b (M (f + 5) k) = fl_jn M f b k cb ck lb → K 77 [some (.ref f), some (.int (nI b)), some (.int (nI k))] [] n M1 L := by
    intro K hK M1 e1 e2
    have t : mc_put M1 (f + 5) (nI b).toNatClampNeg (M1 (f + 5) (nI k).toNatClampNeg) = fl_jn M f b k cb ck lb := by rw [eb, ek, e1, e2]
    rcases hf with rfl | rfl <;>
    exact hK.1 [] 30 77 _ _ _ _ _ ⟨vk, vb, Nat.le_refl _, h _ t⟩
  have go50 : ∀ (K : mc_K), mc_closed true tab0 n 0 none (shF_join g d) Q (fun _ _ _ => False) tbF_join K → 0 < ck → ∀ M1, M1 = (if cb = 0 then mc_put M (f + 3) b (M (f + 3) k) else mc_put M (f + 11) lb (M (f + 3) k)) → K 50 [some (.ref f), some (.int (nI b)), some (.int (nI k))] [] n M1 L := by
    intro K hK hc M1 z1
    have a : ∀ c x, c ≠ f + 3 → c ≠ f + 11 → M1 c x = M c x := fun c x h3 h11 => by
      rw [z1]
      split
      · rw [mc_put_at, if_neg (fun w => h3 w.1)]
      · rw [mc_put_at, if_neg (fun w => h11 w.1)]
    have a4 : M1 (f + 4) (nI k).toNatClampNeg = M (f + 4) k := by rw [ek, a _ _ (by omega) (by omega)]
    have nx := go77 K hK (mc_put (mc_put M1 (f + 4) (nI b).toNatClampNeg (M1 (f + 4) (nI k).toNatClampNeg)) (f + 2) (nI b).toNatClampNeg ((mc_put M1 (f + 4) (nI b).toNatClampNeg (M1 (f + 4) (nI k).toNatClampNeg)) (f + 2) (nI b).toNatClampNeg + (mc_put M1 (f + 4) (nI b).toNatClampNeg (M1 (f + 4) (nI k).toNatClampNeg)) (f + 2) (nI k).toNatClampNeg)) (by
      rw [mc_put_at, if_neg (by omega), mc_put_at, if_neg (by omega), a _ _ (by omega) (by omega)]) (by
      have q1 : (mc_put M1 (f + 4) (nI b).toNatClampNeg (M1 (f + 4) (nI k).toNatClampNeg)) (f + 2) (nI b).toNatClampNeg = nI cb := by rw [mc_put_at, if_neg (by omega), a _ _ (by omega) (by omega), eb, hcb]
      have q2 : (mc_put M1 (f + 4) (nI b).toNatClampNeg (M1 (f + 4) (nI k).toNatClampNeg)) (f + 2) (nI k).toNatClampNeg = nI ck := by rw [mc_put_at, if_neg (by omega), a _ _ (by omega) (by omega), ek, hck]
      rw [q1, q2, nI_add, eb, a4, z1]
      unfold fl_jn
      rw [if_pos hc])
    rcases hf with rfl | rfl <;>
    exact hK.1 [77] 40 50 _ _ _ _ _ ⟨vk, vb, vb, vk, vb, nx⟩
  have e2k : M (f + 2) (nI k).toNatClampNeg = nI ck := by rw [ek, hck]
  have e2b : M (f + 2) (nI b).toNatClampNeg = nI cb := by rw [eb, hcb]
  have p0 : M (f + 2) (nI k).toNatClampNeg ≤ 0 → ck = 0 := fun z => by
    rw [e2k] at z
    exact Nat.le_zero.mp ((nI_leI (b := 0) (by omega) (by decide)).mp z)
  have p1 : ¬ M (f + 2) (nI k).toNatClampNeg ≤ 0 → 0 < ck := fun z => Nat.pos_of_ne_zero (fun w => z (by rw [e2k, w]; decide))
  have p2 : M (f + 2) (nI b).toNatClampNeg = 0 → cb = 0 := fun z => by
    rw [e2b] at z
    exact (nI_eq (b := 0) (by omega) (by decide)).mp z
  have p3 : ¬ M (f + 2) (nI b).toNatClampNeg = 0 → 0 < cb := fun z => Nat.pos_of_ne_zero (fun w => z (by rw [e2b, w]; rfl))
  have s77 : ∀ K, mc_closed true tab0 n 0 none (shF_join g d) Q (fun _ _ _ => False) tbF_join K → ck = 0 → K 77 [some (.ref f), some (.int (nI b)), some (.int (nI k))] [] n M L := fun K hK z => go77 K hK M rfl (by unfold fl_jn; rw [if_neg (by omega)])
  have s50a : ∀ K, mc_closed true tab0 n 0 none (shF_join g d) Q (fun _ _ _ => False) tbF_join K → 0 < ck → cb = 0 → K 50 [some (.ref f), some (.int (nI b)), some (.int (nI k))] [] n (mc_put M (f + 3) (nI b).toNatClampNeg (M (f + 3) (nI k).toNatClampNeg)) L := fun K hK z z0 => go50 K hK z _ (by rw [if_pos z0, eb, ek])
  have vl : 0 < cb → vp_in (M (f + 4) (nI b).toNatClampNeg) 1100 := fun z => by
    rw [eb, (hl z).1]
    exact vp_in_nI (hl z).2 (by decide)
  have s50b : ∀ K, mc_closed true tab0 n 0 none (shF_join g d) Q (fun _ _ _ => False) tbF_join K → 0 < ck → 0 < cb → K 50 [some (.ref f), some (.int (nI b)), some (.int (nI k))] [] n (mc_put M (f + 11) (M (f + 4) (nI b).toNatClampNeg).toNatClampNeg (M (f + 3) (nI k).toNatClampNeg)) L := fun K hK z z0 => go50 K hK z _ (by
    have := (hl z0).2
    rw [if_neg (by omega), eb, ek, (hl z0).1, nI_clamp (by omega)])
  rcases hf with rfl | rfl <;>
  exact inF_join (Nat.le_of_ble_eq_true rfl) (fun K hK => hK.1 [50, 77] 40 0 _ _ _ _ _ ⟨vk, fun z => s77 K hK (p0 z), fun z => ⟨vb, fun z0 => ⟨vb, vk, vl (p3 z0), s50b K hK (p1 z) (p3 z0)⟩, fun z0 => ⟨vk, vb, s50a K hK (p1 z) (p2 z0)⟩⟩⟩)
theorem cF_renumber (hf : rs_is f) {b t : Nat} {x y : Int32} (hx : x = nI b) (hy : y = nI t) (hb : b < 100) (ht : t < 100) (hd : 1 ≤ d) (h : ∀ M', M' = fl_rn M f b t → Q none M' L) : ctF_renumber g d [.ref f, .int x, .int y] n M L Q := by
  obtain ⟨d, rfl⟩ := Nat.exists_eq_add_of_le' hd
  subst hx
  subst hy
  have eb : (nI b).toNatClampNeg = b := nI_clamp (by omega)
  have et : (nI t).toNatClampNeg = t := nI_clamp (by omega)
  have vb : vp_in (nI b) 100 := vp_in_nI hb (by decide)
  have vt : vp_in (nI t) 100 := vp_in_nI ht (by decide)
  have fin : ∀ M1 M2 M3 M4 M5, M1 = mc_put M (f + 1) (nI t).toNatClampNeg (M (f + 1) (nI b).toNatClampNeg) → M2 = mc_put M1 (f + 2) (nI t).toNatClampNeg (M1 (f + 2) (nI b).toNatClampNeg) → M3 = mc_put M2 (f + 3) (nI t).toNatClampNeg (M2 (f + 3) (nI b).toNatClampNeg) → M4 = mc_put M3 (f + 4) (nI t).toNatClampNeg (M3 (f + 4) (nI b).toNatClampNeg) → M5 = mc_put M4 (f + 5) (nI t).toNatClampNeg (M4 (f + 5) (nI b).toNatClampNeg) → M5 = fl_rn M f b t := by
    intro M1 M2 M3 M4 M5 h1 h2 h3 h4 h5
    rw [eb, et] at h1 h2 h3 h4 h5
    have a2 : M1 (f + 2) b = M (f + 2) b := by rw [h1, mc_put_at, if_neg (by omega)]
    have a3 : M2 (f + 3) b = M (f + 3) b := by rw [h2, mc_put_at, if_neg (by omega), h1, mc_put_at, if_neg (by omega)]
    have a4 : M3 (f + 4) b = M (f + 4) b := by rw [h3, mc_put_at, if_neg (by omega), h2, mc_put_at, if_neg (by omega), h1, mc_put_at, if_neg (by omega)]
    have a5 : M4 (f + 5) b = M (f + 5) b := by rw [h4, mc_put_at, if_neg (by omega), h3, mc_put_at, if_neg (by omega), h2, mc_put_at, if_neg (by omega), h1, mc_put_at, if_neg (by omega)]
    rw [h5, a5, h4, a4, h3, a3, h2, a2, h1]
    rfl
  rcases hf with rfl | rfl <;>
  exact inF_renumber (Nat.le_of_ble_eq_true rfl) (fun K hK => hK.1 [] 60 0 _ _ _ _ _ ⟨vb, vt, vb, vt, vb, vt, vb, vt, vb, vt, Nat.le_refl _, h _ (fin _ _ _ _ _ rfl rfl rfl rfl rfl)⟩)
end JN
