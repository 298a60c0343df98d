/-! Mixer -/
abbrev Stt : Type := Nat → Nat × (Nat → Int32)
def sp_wt (kept E : Nat → Int32) (b : Nat) : Nat → Int32 := fun v => if v < 8 ∧ fl_bit (kept b) v = true then E v else 0
def sp_sm (a b : Nat → Int32) : Prop := ∀ v, v < 8 → a v = b v
theorem sp_sm_iff (a b : Nat → Int32) : (List.range 8).all (fun v => decide (a v = b v)) = true ↔ sp_sm a b := by
  rw [List.all_eq_true]
  constructor
  · intro h v hv
    exact of_decide_eq_true (h v (List.mem_range.mpr hv))
  · intro h v hv
    exact decide_eq_true (h v (List.mem_range.mp hv))
def sp_look (q : Stt) (b : Nat) (wv : Nat → Int32) : Nat → Nat → Option Nat
  | 0, _ => none
  | r + 1, k => if (q k).1 = b ∧ (List.range 8).all (fun v => decide ((q k).2 v = wv v)) = true then some k else sp_look q b wv r (k + 1)
def sp_add (q : Stt) (s b : Nat) (wv : Nat → Int32) : Stt := fun k => if k = s then (b, wv) else q k
def sp_come (kept : Nat → Int32) (q : Stt) (s : Nat) (ov : Bool) (E : Nat → Int32) (b : Nat) : (Stt × Nat × Bool) × Int32 := match sp_look q b (sp_wt kept E b) s 0 with
  | some k => ((q, s, ov), nI k)
  | none => if s < 100 then ((sp_add q s b (sp_wt kept E b), s + 1, ov), nI s) else ((q, s, true), -1)
def mxs (M : mc_M) (kept : Nat → Int32) (q : Stt) (s : Nat) (ov : Bool) (E : Nat → Int32) : Prop := s ≤ 100 ∧ M 25 5 = nI s ∧ M 25 6 = bI ov ∧ (∀ k, k < s → M 26 k = nI (q k).1 ∧ (q k).1 < 16 ∧ ∀ v, v < 8 → M 27 (k * 8 + v) = (q k).2 v) ∧ (∀ b, b < 16 → M 28 b = kept b) ∧ ∀ v, v < 8 → M 29 v = E v
def mx_fr (M M' : mc_M) : Prop := ∀ c, c ≠ 25 → c ≠ 26 → c ≠ 27 → c ≠ 30 → M' c = M c
section MX
variable {g : mc_G} {d n : Nat} {M : mc_M} {L : mc_L} {Q : Option Value → mc_M → mc_L → Prop}
theorem cX_isWanted {k b : Nat} {x y : Int32} (hx : x = nI k) (hy : y = nI b) (hk : k < 100) (hd : 1 ≤ d) (h1 : M 26 k = nI b → (∀ v, v < 8 → M 27 (k * 8 + v) = M 30 v) → Q (some (.int 1)) M L) (h0 : ¬ (M 26 k = nI b ∧ ∀ v, v < 8 → M 27 (k * 8 + v) = M 30 v) → Q (some (.int 0)) M L) : ctX_isWanted g d [.ref 25, .int x, .int y] n M L Q := by
  obtain ⟨d, rfl⟩ := Nat.exists_eq_add_of_le' hd
  subst hx
  subst hy
  have ek : (nI k).toNatClampNeg = k := nI_clamp (by omega)
  have v1 : vp_in (nI k) 100 := vp_in_nI hk (by decide)
  have lp : M 26 k = nI b → ∀ (K : mc_K), mc_closed true tab0 n 0 (some .boolean) (shX_isWanted g d) Q (fun _ _ _ => False) tbX_isWanted K → ∀ (r v : Nat) (i : Int32), r + v = 8 → i = nI v → (∀ u, u < v → M 27 (k * 8 + u) = M 30 u) → K 14 [some (.ref 25), some (.int (nI k)), some (.int (nI b)), some (.int i)] [] n M L := by
    intro hb K hK r
    induction r with
    | zero =>
      intro v i hv hi ha
      subst hi
      have c1 : (8 : Int32) ≤ nI v := nI_le (a := 8) (by omega) (by omega)
      exact hK.1 [] 20 14 _ _ _ _ _ ⟨fun _ => ⟨Or.inr rfl, Nat.le_refl _, h1 hb (fun u hu => ha u (by omega))⟩, fun z => absurd c1 z⟩
    | succ r ih =>
      intro v i hv hi ha
      subst hi
      have c1 : ¬ (8 : Int32) ≤ nI v := nI_ge (b := 8) (by omega) (by decide)
      have ix : nI k * 8 + nI v = nI (k * 8 + v) := by
        rw [← nI_add, ← nI_mul]
        rfl
      have v2 : vp_in (nI k * 8 + nI v) 800 := by
        rw [ix]
        exact vp_in_nI (by omega) (by decide)
      have v3 : vp_in (nI v) 8 := vp_in_nI (by omega) (by decide)
      have e2 : M 27 (nI k * 8 + nI v).toNatClampNeg = M 27 (k * 8 + v) := by rw [ix, nI_clamp (by omega)]
      have e3 : M 30 (nI v).toNatClampNeg = M 30 v := by rw [nI_clamp (by omega)]
      refine hK.1 [14] 30 14 _ _ _ _ _ ⟨fun z => absurd z c1, fun _ => ⟨v2, v3, fun z => ?_, fun z => ⟨Or.inl rfl, Nat.le_refl _, h0 (fun y => z ?_)⟩⟩⟩
      · refine ih (v + 1) _ (by omega) (nI_1 v) (fun u hu => ?_)
        by_cases huv : u = v
        · rw [huv, ← e2, ← e3]
          exact z
        · exact ha u (by omega)
      · rw [e2, e3]
        exact y.2 v (by omega)
  refine inX_isWanted (Nat.le_of_ble_eq_true rfl) (fun K hK => hK.1 [14] 20 0 _ _ _ _ _ ⟨v1, fun z => lp ?_ K hK 8 0 0 rfl rfl (fun u hu => absurd hu (Nat.not_lt_zero _)), fun z => ⟨Or.inl rfl, Nat.le_refl _, h0 (fun y => z ?_)⟩⟩)
  · rw [ek] at z
    exact z
  · rw [ek]
    exact y.1
theorem cX_comeTo {kept : Nat → Int32} {q : Stt} {s b : Nat} {ov : Bool} {E : Nat → Int32} {x : Int32} (hx : x = nI b) (hb : b < 16) (hs : mxs M kept q s ov E) (hd : 2 ≤ d) (h : ∀ r M', r = (sp_come kept q s ov E b).2 → mx_fr M M' → mxs M' kept (sp_come kept q s ov E b).1.1 (sp_come kept q s ov E b).1.2.1 (sp_come kept q s ov E b).1.2.2 E → Q (some (.int r)) M' L) : ctX_comeTo g d [.ref 25, .int x] n M L Q := by
  obtain ⟨d, rfl⟩ := Nat.exists_eq_add_of_le' (show 1 ≤ d by omega)
  subst hx
  obtain ⟨hs1, hs2, hs3, hs4, hs5, hs6⟩ := hs
  have eb : (nI b).toNatClampNeg = b := nI_clamp (by omega)
  have vb : vp_in (nI b) 16 := vp_in_nI hb (by decide)
  have lk : ∀ (M1 : mc_M), M1 = mc_set M 30 (fun v => if v < 8 then sp_wt kept E b v else M 30 v) → ∀ (K : mc_K), mc_closed true tab0 n 0 (some .int) (shX_comeTo g d) Q (fun _ _ _ => False) tbX_comeTo K → ∀ (r k : Nat) (i : Int32), r + k = s → i = nI k → sp_look q b (sp_wt kept E b) s 0 = sp_look q b (sp_wt kept E b) r k → K 45 [some (.ref 25), some (.int (nI b)), some (.int i)] [] n M1 L := by
    intro M1 z1 K hK r
    have w1 : ∀ c, c ≠ 30 → M1 c = M c := fun c hc => by rw [z1, mc_set_n hc]
    have w2 : ∀ v, v < 8 → M1 30 v = sp_wt kept E b v := fun v hv => by rw [z1, mc_set_s, if_pos hv]
    have s5 : M1 25 5 = nI s := by rw [w1 25 (by decide), hs2]
    induction r with
    | zero =>
      intro k i hk hi hq
      subst hi
      have hk' : k = s := by omega
      subst hk'
      have c1 : M1 25 5 ≤ nI k := by rw [s5]; exact nI_le (Nat.le_refl _) (by omega)
      have ix : nI k * 8 = nI (k * 8) := nI_mul k 8
      have full : ¬ M1 25 5 < 100 → Q (some (.int (-1))) (mc_put M1 25 6 1) L := fun z => by
        have hn : ¬ k < 100 := fun y => z (by rw [s5]; exact nI_lt (b := 100) y (by decide))
        have hc : sp_come kept q k ov E b = ((q, k, true), -1) := by
          unfold sp_come
          rw [hq]
          show (if k < 100 then _ else _) = _
          rw [if_neg hn]
        rw [hc] at h
        dsimp only at h
        refine h _ _ rfl (fun c h1 h2 h3 h4 => ?_) ⟨hs1, ?_, ?_, fun u hu => ?_, fun u hu => ?_, fun u hu => ?_⟩
        · funext l
          rw [mc_put_at, if_neg (fun y => h1 y.1), w1 c h4]
        · rw [mc_put_at, if_neg (by decide), s5]
        · rw [mc_put_at, if_pos ⟨rfl, rfl⟩]
          rfl
        · obtain ⟨a1, a2, a3⟩ := hs4 u hu
          refine ⟨?_, a2, fun v hv => ?_⟩
          · rw [mc_put_at, if_neg (by omega), w1 26 (by decide), a1]
          · rw [mc_put_at, if_neg (by omega), w1 27 (by decide), a3 v hv]
        · rw [mc_put_at, if_neg (by omega), w1 28 (by decide), hs5 u hu]
        · rw [mc_put_at, if_neg (by omega), w1 29 (by decide), hs6 u hu]
      have room : M1 25 5 < 100 → vp_in (M1 25 5) 100 ∧ ∀ M2, M2 = mc_put M1 26 (M1 25 5).toNatClampNeg (nI b) → ¬ M2 25 5 * 8 < 0 ∧ (M2 25 5 * 8).toNatClampNeg + (8 : Int32).toNatClampNeg ≤ 800 ∧ ∀ M3, M3 = mc_set M2 27 (va_cpy (M2 30) (M2 27) (0 : Int32).toNatClampNeg (M2 25 5 * 8).toNatClampNeg (8 : Int32).toNatClampNeg) → Q (some (.int ((mc_put M3 25 5 (M3 25 5 + 1)) 25 5 - 1))) (mc_put M3 25 5 (M3 25 5 + 1)) L := fun z => by
        have hn : k < 100 := by
          rw [s5] at z
          exact (nI_ltI (b := 100) (by omega) (by decide)).mp z
        refine ⟨by rw [s5]; exact vp_in_nI hn (by decide), fun M2 z2 => ?_⟩
        have u1 : ∀ c, c ≠ 26 → M2 c = M1 c := fun c hc => by
          funext l
          rw [z2, mc_put_at, if_neg (fun y => hc y.1)]
        have t5 : M2 25 5 = nI k := by rw [u1 25 (by decide), s5]
        have e8 : (M2 25 5 * 8).toNatClampNeg = k * 8 := by rw [t5, ix, nI_clamp (by omega)]
        refine ⟨by rw [t5, ix]; exact nI_pos (by omega), by rw [e8]; show k * 8 + 8 ≤ 800; omega, fun M3 z3 => ?_⟩
        have x1 : ∀ c, c ≠ 27 → M3 c = M2 c := fun c hc => by rw [z3, mc_set_n hc]
        have x27 : ∀ l, M3 27 l = if k * 8 ≤ l ∧ l < k * 8 + 8 then M1 30 (l - k * 8) else M 27 l := fun l => by
          rw [z3, mc_set_s, e8, u1 30 (by decide), u1 27 (by decide), w1 27 (by decide)]
          show (if k * 8 ≤ l ∧ l < k * 8 + 8 then M1 30 (0 + (l - k * 8)) else M 27 l) = _
          rw [Nat.zero_add]
        have y5 : M3 25 5 = nI k := by rw [x1 25 (by decide), t5]
        have hc : sp_come kept q k ov E b = ((sp_add q k b (sp_wt kept E b), k + 1, ov), nI k) := by
          unfold sp_come
          rw [hq]
          show (if k < 100 then _ else _) = _
          rw [if_pos hn]
        rw [hc] at h
        dsimp only at h
        have y6 : (mc_put M3 25 5 (M3 25 5 + 1)) 25 5 = nI (k + 1) := by rw [mc_put_at, if_pos ⟨rfl, rfl⟩, y5, nI_1]
        refine h _ _ (by rw [y6, nI_pred]) (fun c h1 h2 h3 h4 => ?_) ⟨by omega, y6, ?_, fun u hu => ?_, fun u hu => ?_, fun u hu => ?_⟩
        · funext l
          rw [mc_put_at, if_neg (fun y => h1 y.1), x1 c h3, u1 c h2, w1 c h4]
        · rw [mc_put_at, if_neg (by decide), x1 25 (by decide), u1 25 (by decide), w1 25 (by decide), hs3]
        · have q26 : (mc_put M3 25 5 (M3 25 5 + 1)) 26 u = if u = k then nI b else M 26 u := by
            rw [mc_put_at, if_neg (by omega), x1 26 (by decide), z2, mc_put_at, s5, nI_clamp (by omega), w1 26 (by decide)]
            by_cases huk : u = k
            · rw [if_pos ⟨rfl, huk⟩, if_pos huk]
            · rw [if_neg (fun y => huk y.2), if_neg huk]
          have q27 : ∀ l, (mc_put M3 25 5 (M3 25 5 + 1)) 27 l = M3 27 l := fun l => by rw [mc_put_at, if_neg (by omega)]
          by_cases huk : u = k
          · subst huk
            have ea : sp_add q u b (sp_wt kept E b) u = (b, sp_wt kept E b) := if_pos rfl
            rw [q26, if_pos rfl, ea]
            refine ⟨rfl, hb, fun v hv => ?_⟩
            rw [q27, x27, if_pos (by omega), show u * 8 + v - u * 8 = v by omega, w2 v hv]
          · obtain ⟨a1, a2, a3⟩ := hs4 u (by omega)
            have ea : sp_add q k b (sp_wt kept E b) u = q u := if_neg huk
            rw [q26, if_neg huk, ea]
            refine ⟨a1, a2, fun v hv => ?_⟩
            rw [q27, x27, if_neg (by omega), a3 v hv]
        · rw [mc_put_at, if_neg (by omega), x1 28 (by decide), u1 28 (by decide), w1 28 (by decide), hs5 u hu]
        · rw [mc_put_at, if_neg (by omega), x1 29 (by decide), u1 29 (by decide), w1 29 (by decide), hs6 u hu]
      exact hK.1 [45] 60 45 _ _ _ _ _ ⟨fun _ => ⟨fun z => ⟨(room z).1, by decide, ((room z).2 _ rfl).1, by decide, by decide, ((room z).2 _ rfl).2.1, Nat.le_refl _, ((room z).2 _ rfl).2.2 _ rfl⟩, fun z => ⟨Or.inr rfl, Nat.le_refl _, full z⟩⟩, fun z => absurd c1 z⟩
    | succ r ih =>
      intro k i hk hi hq
      subst hi
      have c1 : ¬ M1 25 5 ≤ nI k := by rw [s5]; exact nI_ge (by omega) (by omega)
      obtain ⟨a1, a2, a3⟩ := hs4 k (by omega)
      have same : (M1 26 k = nI b ∧ ∀ v, v < 8 → M1 27 (k * 8 + v) = M1 30 v) ↔ ((q k).1 = b ∧ (List.range 8).all (fun v => decide ((q k).2 v = sp_wt kept E b v)) = true) := by
        rw [sp_sm_iff, w1 26 (by decide), a1, nI_eq (by omega) (by omega)]
        constructor
        · rintro ⟨y1, y2⟩
          exact ⟨y1, fun v hv => by rw [← a3 v hv, ← w2 v hv, ← y2 v hv, w1 27 (by decide)]⟩
        · rintro ⟨y1, y2⟩
          exact ⟨y1, fun v hv => by rw [w1 27 (by decide), a3 v hv, w2 v hv, y2 v hv]⟩
      refine hK.1 [45] 30 45 _ _ _ _ _ ⟨fun z => absurd z c1, fun _ => cX_isWanted rfl rfl (by omega) (by omega) (fun y1 y2 => ⟨fun z => absurd z (by decide), fun _ => ⟨Nat.le_refl _, ?_⟩⟩) (fun y => ⟨fun _ => ?_, fun z => absurd rfl z⟩)⟩
      · have hc : sp_come kept q s ov E b = ((q, s, ov), nI k) := by
          unfold sp_come
          rw [hq]
          unfold sp_look
          rw [if_pos (same.mp ⟨y1, y2⟩)]
        rw [hc] at h
        dsimp only at h
        refine h _ M1 rfl (fun c h1 h2 h3 h4 => w1 c h4) ⟨hs1, s5, by rw [w1 25 (by decide), hs3], fun u hu => ?_, fun u hu => by rw [w1 28 (by decide), hs5 u hu], fun u hu => by rw [w1 29 (by decide), hs6 u hu]⟩
        rw [w1 26 (by decide), w1 27 (by decide)]
        exact hs4 u hu
      · refine ih (k + 1) _ (by omega) (nI_1 k) (hq.trans ?_)
        conv => lhs; unfold sp_look
        rw [if_neg (fun z => y (same.mpr z))]
  have lw : ∀ (K : mc_K), mc_closed true tab0 n 0 (some .int) (shX_comeTo g d) Q (fun _ _ _ => False) tbX_comeTo K → ∀ (r k : Nat) (i : Int32) (M1 : mc_M), r + k = 8 → i = nI k → M1 = mc_set M 30 (fun v => if v < k then sp_wt kept E b v else M 30 v) → K 2 [some (.ref 25), some (.int (nI b)), some (.int i)] [] n M1 L := by
    intro K hK r
    induction r with
    | zero =>
      intro k i M1 hk hi hM
      subst hi
      have hk' : k = 8 := by omega
      subst hk'
      exact hK.1 [45] 20 2 _ _ _ _ _ ⟨fun _ => lk M1 hM K hK s 0 0 rfl rfl rfl, fun z => absurd (nI_le (a := 8) (b := 8) (Nat.le_refl _) (by decide)) z⟩
    | succ r ih =>
      intro k i M1 hk hi hM
      subst hi
      have c1 : ¬ (8 : Int32) ≤ nI k := nI_ge (b := 8) (by omega) (by decide)
      have w1 : ∀ c, c ≠ 30 → M1 c = M c := fun c hc => by rw [hM, mc_set_n hc]
      have ek : (nI k).toNatClampNeg = k := nI_clamp (by omega)
      have vk : vp_in (nI k) 8 := vp_in_nI (by omega) (by decide)
      have kb : M1 28 (nI b).toNatClampNeg = kept b := by rw [eb, w1 28 (by decide), hs5 b hb]
      have go : ∀ y, y = sp_wt kept E b k → K 2 [some (.ref 25), some (.int (nI b)), some (.int (nI k + 1))] [] n (mc_put M1 30 (nI k).toNatClampNeg y) L := fun y hy => by
        refine ih (k + 1) _ _ (by omega) (nI_1 k) ?_
        funext j l
        rw [mc_put_at, ek, hM, mc_set_at, mc_set_at, hy]
        by_cases hj : j = 30
        · rw [if_pos hj, if_pos hj]
          by_cases hl : l = k
          · rw [if_pos ⟨hj, hl⟩, if_pos (by omega), hl]
          · rw [if_neg (fun z => hl z.2)]
            by_cases hlk : l < k
            · rw [if_pos hlk, if_pos (by omega)]
            · rw [if_neg hlk, if_neg (by omega)]
        · rw [if_neg (fun z => hj z.1), if_neg hj, if_neg hj]
      exact hK.1 [2] 40 2 _ _ _ _ _ ⟨fun z => absurd z c1, fun _ => ⟨vb, fun z => ⟨vk, go _ (by rw [kb] at z; unfold sp_wt; rw [if_neg (fun y => by simp [fl_bit, z] at y)])⟩, fun z => ⟨vk, vk, go _ (by rw [kb] at z; unfold sp_wt; rw [if_pos ⟨by omega, by simp [fl_bit, z]⟩, ek, w1 29 (by decide), hs6 k (by omega)])⟩⟩⟩
  have lw' := fun K hK => lw K hK 8 0 0 M rfl rfl (by
    have : (fun v => if v < 0 then sp_wt kept E b v else M 30 v) = M 30 := by
      funext v
      rw [if_neg (by omega)]
    rw [this, mc_set_id])
  exact inX_comeTo (Nat.le_of_ble_eq_true rfl) (fun K hK => hK.1 [2] 20 0 _ _ _ _ _ (lw' K hK))
end MX
