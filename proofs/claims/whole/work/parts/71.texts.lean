/-! Text: nodes, assignments, jumps, the whole -/
/-- what putPart does, for every node -/
def PP (g : mc_G) : Prop := ∀ (d n : Nat) (M : mc_M) (L : mc_L) (Q : Option Value → mc_M → mc_L → Prop) (T : Nat → Nat → Int32) (m : Nat) (S x : Int32) (k : Nat) (tx : List Int32), nt_ok T m → nt_C M T m → x = nI k → (k < m ∨ k = 150) → txt M tx → (tx ++ sp_pt T S (M 37) (k + 1) k).length + 12 < 2 ^ 31 → 70 ≤ d → (∀ M', txt M' (tx ++ sp_pt T S (M 37) (k + 1) k) → txf M M' → Q none M' L) → ctT_putPart g d [.ref 35, .ref 1, .int x, .int S, .int 0] n M L Q
def tnf (M M' : mc_M) : Prop := (∀ c, c ≠ 35 → c ≠ 36 → c ≠ 37 → M' c = M c) ∧ M' 35 3 = M 35 3
theorem tnf_tr {M M' M'' : mc_M} (h : tnf M M') (h' : tnf M' M'') : tnf M M'' := ⟨fun c h1 h2 h3 => (h'.1 c h1 h2 h3).trans (h.1 c h1 h2 h3), h'.2.trans h.2⟩
theorem tnf_t {M M' : mc_M} (h : txf M M') : tnf M M' := ⟨fun c h1 h2 _ => h.1 c h1 h2, h.2⟩
theorem tnf_rf (M : mc_M) : tnf M M := ⟨fun _ _ _ _ => rfl, rfl⟩
section TT
variable {g : mc_G} {d n f : Nat} {M : mc_M} {L : mc_L} {Q : Option Value → mc_M → mc_L → Prop} {T : Nat → Nat → Int32} {m : Nat} {S : Int32} {tx : List Int32}
theorem tnf_N {M' : mc_M} (hN : nt_C M T m) (h : tnf M M') : nt_C M' T m := nt_C_to hN (fun c _ _ => h.1 c (by omega) (by omega) (by omega))
theorem cT_putNodeOf (hp : PP g) (hf : rs_is f) (hT : nt_ok T m) (hN : nt_C M T m) (hS : M f 1 = S) {st k : Nat} {x : Int32} (hx : x = nI st) (hst : st < 1100) (hk : M (f + 10) st = nI k) (hkm : k < m ∨ k = 150) (ht : txt M tx) (hF : (tx ++ sp_pt T S (fl_fr T S (M (f + 12)) st k) (k + 1) k).length + 12 < 2 ^ 31) (hd : 71 ≤ d)
    (h : ∀ M', txt M' (tx ++ sp_pt T S (fl_fr T S (M (f + 12)) st k) (k + 1) k) → tnf M M' → Q none M' L) : ctT_putNodeOf g d [.ref 35, .ref 1, .ref f, .int x] n M L Q := by
  obtain ⟨d, rfl⟩ := Nat.exists_eq_add_of_le' (show 1 ≤ d by omega)
  have hm := hT.1
  have hf37 : 37 < f := by rcases hf with rfl | rfl <;> decide
  have vx : vp_in x 1100 := by rw [hx]; exact vp_in_nI hst (by decide)
  have ex : x.toNatClampNeg = st := by rw [hx]; exact nI_clamp (by omega)
  have wk : ∀ M1, M1 = mc_set M 37 (fl_tw (M f 1) (M 37) (M (f + 12)) st 8) → ∀ (Q' : Option Value → mc_M → mc_L → Prop), (∀ M', txt M' (tx ++ sp_pt T S (fl_fr T S (M (f + 12)) st k) (k + 1) k) → tnf M M' → Q' none M' L) → ctT_putPart g d [.ref 35, .ref 1, .int (M1 (f + 10) x.toNatClampNeg), .int (M1 f 1), .int 0] n M1 L Q' := fun M1 hM1 Q' hq => by
    have o : ∀ c, c ≠ 37 → M1 c = M c := fun c hc => by rw [hM1, mc_set_n hc]
    have e37 : M1 37 = fl_tw S (M 37) (M (f + 12)) st 8 := by rw [hM1, mc_set_s, hS]
    have hS1 : M1 f 1 = S := by rw [o f (by omega), hS]
    have hk1 : M1 (f + 10) x.toNatClampNeg = nI k := by rw [o _ (by omega), ex, hk]
    have tx1 : txt M1 tx := ⟨by rw [o 35 (by decide)]; exact ht.1, fun i hi c hc => by rw [o 36 (by decide)]; exact ht.2 i hi c hc⟩
    have ep : sp_pt T S (M1 37) (k + 1) k = sp_pt T S (fl_fr T S (M (f + 12)) st k) (k + 1) k := by
      rw [e37]
      refine sp_pt_env hT _ _ (fun v hv hs hb => ?_)
      unfold fl_tw fl_fr
      rw [if_pos ⟨hv, hs⟩, if_pos ⟨hv, hs, hb⟩]
    rw [hS1]
    refine hp d n M1 L Q' T m S _ k tx hT (nt_C_to hN (fun c _ _ => o c (by omega))) hk1 hkm tx1 (by rw [ep]; exact hF) (by omega) (fun M' a1 a2 => hq M' (by rw [ep] at a1; exact a1) ⟨fun c q1 q2 q3 => by rw [a2.1 c q1 q2, o c q3], by rw [a2.2, o 35 (by decide)]⟩)
  rcases hf with rfl | rfl
  · exact inT_putNodeOf (Nat.le_of_ble_eq_true rfl) (fun K hK => hK.1 [] 60 0 _ _ _ _ _ (cF_thaw (f := 38) (w := 100) (Or.inr (Or.inl ⟨rfl, rfl⟩)) (by omega) (Or.inr rfl) hx hst (fun M1 hM1 => ⟨vx, wk M1 hM1 _ (fun M' a1 a2 => ⟨Nat.le_refl _, h M' a1 a2⟩)⟩)))
  · exact inT_putNodeOf (Nat.le_of_ble_eq_true rfl) (fun K hK => hK.1 [] 60 0 _ _ _ _ _ (cF_thaw (f := 51) (w := 100) (Or.inr (Or.inr ⟨rfl, rfl⟩)) (by omega) (Or.inr rfl) hx hst (fun M1 hM1 => ⟨vx, wk M1 hM1 _ (fun M' a1 a2 => ⟨Nat.le_refl _, h M' a1 a2⟩)⟩)))
theorem tnf_as {M' : mc_M} (hf37 : 37 < f) (h : tnf M M') (s : Nat) : fl_as T S M' f s = fl_as T S M f s := by
  unfold fl_as
  rw [h.1 (f + 9) (by omega) (by omega) (by omega), h.1 (f + 10) (by omega) (by omega) (by omega), h.1 (f + 12) (by omega) (by omega) (by omega)]
theorem cT_putAssignments (hp : PP g) (hf : rs_is f) (hT : nt_ok T m) (hN : nt_C M T m) (hS : M f 1 = S) {b j : Nat} {B : Blk} {ss : List Nat} {x : Int32} (hx : x = nI b) (hb : b < 100) (hB : fl_blk T m S M f 100 b B ss j) (ht : txt M tx) (hF : (tx ++ sp_tl T S B.2.1).length + 12 < 2 ^ 31) (hd : 72 ≤ d) (h : ∀ M', txt M' (tx ++ sp_tl T S B.2.1) → tnf M M' → Q none M' L) : ctT_putAssignments g d [.ref 35, .ref 1, .ref f, .int x] n M L Q := by
  obtain ⟨d, rfl⟩ := Nat.exists_eq_add_of_le' (show 1 ≤ d by omega)
  subst hx
  have hm := hT.1
  have hf37 : 37 < f := by rcases hf with rfl | rfl <;> decide
  obtain ⟨-, hc, hc1, hch, hsv, has, -⟩ := hB
  rw [has] at h hF
  have vb : vp_in (nI b) 100 := vp_in_nI hb (by decide)
  have eb : (nI b).toNatClampNeg = b := nI_clamp (by omega)
  generalize htF : tx ++ sp_tl T S (ss.map (fl_as T S M f)) = tF at h hF
  have lp : ∀ (K : mc_K), mc_closed true tab0 n 0 none (shT_putAssignments g d) Q (fun _ _ _ => False) tbT_putAssignments K → ∀ (rs : List Nat) (y i : Int32) (t1 : List Int32) (M1 : mc_M), fl_ch (M (f + 11)) 1100 y rs → (∀ t ∈ rs, fl_sv M f m t) → rs.length ≤ ss.length → i = nI (ss.length - rs.length) → tnf M M1 → txt M1 t1 → t1 ++ sp_tl T S (rs.map (fl_as T S M f)) = tF → K 11 [some (.ref 35), some (.ref 1), some (.ref f), some (.int (nI b)), some (.int y), some (.int i)] [] n M1 L := by
    intro K hK rs
    induction rs with
    | nil =>
      intro y i t1 M1 _ _ _ hi hf1 h1 hF1
      subst hi
      have c1 : M1 (f + 2) (nI b).toNatClampNeg ≤ nI (ss.length - 0) := by
        rw [hf1.1 _ (by omega) (by omega) (by omega), eb, hc]
        exact nI_le (by omega) (by omega)
      have q := h M1 (by rw [← hF1]; show txt M1 (t1 ++ []); rw [List.append_nil]; exact h1) hf1
      rcases hf with rfl | rfl
      · exact hK.1 [] 20 11 _ _ _ _ _ ⟨vb, fun _ => ⟨Nat.le_refl _, q⟩, fun z => absurd c1 z⟩
      · exact hK.1 [] 20 11 _ _ _ _ _ ⟨vb, fun _ => ⟨Nat.le_refl _, q⟩, fun z => absurd c1 z⟩
    | cons t rs ih =>
      intro y i t1 M1 hy hsv1 hlen hi hf1 h1 hF1
      obtain ⟨rfl, htw, hy'⟩ := hy
      subst hi
      have hlen' : rs.length + 1 ≤ ss.length := hlen
      obtain ⟨⟨v, hv8, hvr⟩, k, hk, hkr⟩ := hsv1 t List.mem_cons_self
      have c1 : ¬ M1 (f + 2) (nI b).toNatClampNeg ≤ nI (ss.length - (rs.length + 1)) := by
        rw [hf1.1 _ (by omega) (by omega) (by omega), eb, hc]
        exact nI_ge (by omega) (by omega)
      have vt : vp_in (nI t) 1100 := vp_in_nI htw (by decide)
      have et : (nI t).toNatClampNeg = t := nI_clamp (by omega)
      have e9 : M1 (f + 9) (nI t).toNatClampNeg = nI v := by rw [hf1.1 _ (by omega) (by omega) (by omega), et, hvr]
      have as1 : fl_as T S M f t = (v, k, fl_fr T S (M (f + 12)) t k) := by
        unfold fl_as
        rw [hvr, hkr, nI_clamp (by omega), nI_clamp (by omega)]
      have hF2 : t1 ++ (nI (97 + v) :: 61 :: (sp_pt T S (fl_fr T S (M (f + 12)) t k) (k + 1) k ++ (59 :: sp_tl T S (rs.map (fl_as T S M f))))) = tF := by
        rw [← hF1, List.map_cons, as1]
        show _ = t1 ++ (nI (97 + v) :: 61 :: (sp_pt T S (fl_fr T S (M (f + 12)) t k) (k + 1) k ++ [59]) ++ sp_tl T S (rs.map (fl_as T S M f)))
        simp
      have l1 := len_l hF2
      have hF3 : (t1 ++ [nI (97 + v)]) ++ (61 :: (sp_pt T S (fl_fr T S (M (f + 12)) t k) (k + 1) k ++ (59 :: sp_tl T S (rs.map (fl_as T S M f))))) = tF := by rw [← hF2]; simp
      have l3 := len_l hF3
      have hF4 : (t1 ++ [nI (97 + v)] ++ [61] ++ sp_pt T S (fl_fr T S (M (f + 12)) t k) (k + 1) k) ++ (59 :: sp_tl T S (rs.map (fl_as T S M f))) = tF := by rw [← hF2]; simp
      have l4 := len_l hF4
      have pn : ∀ (M2 : mc_M) (t2 : List Int32) (Q' : Option Value → mc_M → mc_L → Prop), tnf M M2 → txt M2 t2 → (t2 ++ sp_pt T S (fl_fr T S (M (f + 12)) t k) (k + 1) k).length + 12 < 2 ^ 31 → (∀ M3, txt M3 (t2 ++ sp_pt T S (fl_fr T S (M (f + 12)) t k) (k + 1) k) → tnf M M3 → Q' none M3 L) → ctT_putNodeOf g d [.ref 35, .ref 1, .ref f, .int (nI t)] n M2 L Q' := fun M2 t2 Q' f2 x2 hl hq => by
        have e12 : M2 (f + 12) = M (f + 12) := f2.1 _ (by omega) (by omega) (by omega)
        refine cT_putNodeOf (S := S) hp hf hT (tnf_N hN f2) (by rw [f2.1 f (by omega) (by omega) (by omega)]; exact hS) rfl htw (by rw [f2.1 _ (by omega) (by omega) (by omega)]; exact hkr) hk x2 (by rw [e12]; exact hl) (by omega) (fun M3 a1 a2 => hq M3 (by rw [e12] at a1; exact a1) (tnf_tr f2 a2))
      have go : ∀ M5, txt M5 (t1 ++ [nI (97 + v)] ++ [61] ++ sp_pt T S (fl_fr T S (M (f + 12)) t k) (k + 1) k ++ [59]) → tnf M M5 → K 11 [some (.ref 35), some (.ref 1), some (.ref f), some (.int (nI b)), some (.int (M5 (f + 11) (nI t).toNatClampNeg)), some (.int (nI (ss.length - (rs.length + 1)) + 1))] [] n M5 L := fun M5 x5 f5 => by
        rw [f5.1 (f + 11) (by omega) (by omega) (by omega), et]
        refine ih _ _ _ M5 hy' (fun s hs => hsv1 s (List.mem_cons_of_mem _ hs)) (by omega) (by rw [nI_1]; congr 1; omega) f5 x5 ?_
        rw [← hF4]
        simp
      have c61 : vp_nar .char 61 = 61 := by decide +kernel
      have c59 : vp_nar .char 59 = 59 := by decide +kernel
      rcases hf with rfl | rfl
      · exact hK.1 [11] 80 11 _ _ _ _ _ ⟨vb, fun z => absurd z c1, fun _ => ⟨vt, cT_putLetter e9 hv8 h1 (by omega) (by omega) (fun M2 a1 a2 => cT_put a1 c61 (by omega) (by omega) (fun M3 b1 b2 => pn M3 _ _ (tnf_tr (tnf_tr hf1 (tnf_t a2)) (tnf_t b2)) b1 (by omega) (fun M4 d1 d2 => cT_put d1 c59 (by omega) (by omega) (fun M5 e1 e2 => ⟨vt, go M5 e1 (tnf_tr d2 (tnf_t e2))⟩))))⟩⟩
      · exact hK.1 [11] 80 11 _ _ _ _ _ ⟨vb, fun z => absurd z c1, fun _ => ⟨vt, cT_putLetter e9 hv8 h1 (by omega) (by omega) (fun M2 a1 a2 => cT_put a1 c61 (by omega) (by omega) (fun M3 b1 b2 => pn M3 _ _ (tnf_tr (tnf_tr hf1 (tnf_t a2)) (tnf_t b2)) b1 (by omega) (fun M4 d1 d2 => cT_put d1 c59 (by omega) (by omega) (fun M5 e1 e2 => ⟨vt, go M5 e1 (tnf_tr d2 (tnf_t e2))⟩))))⟩⟩
  have e3 : M (f + 3) (nI b).toNatClampNeg = M (f + 3) b := by rw [eb]
  have lp' := fun K hK => lp K hK ss (M (f + 3) (nI b).toNatClampNeg) 0 tx M (by rw [e3]; exact hch) hsv (Nat.le_refl _) (by rw [Nat.sub_self]; rfl) (tnf_rf M) ht htF
  rcases hf with rfl | rfl
  · exact inT_putAssignments (Nat.le_of_ble_eq_true rfl) (fun K hK => hK.1 [11] 20 0 _ _ _ _ _ ⟨vb, lp' K hK⟩)
  · exact inT_putAssignments (Nat.le_of_ble_eq_true rfl) (fun K hK => hK.1 [11] 20 0 _ _ _ _ _ ⟨vb, lp' K hK⟩)
end TT
