/-! Rounds over the blocks in ascending order -/
def sp_la (T : Nat → Nat → Int32) (P : Nat → Blk) : Nat → Nat → (Nat → Int32) → Bool → (Nat → Int32) × Bool
  | 0, _, X, c => (X, c)
  | r + 1, b, X, c => sp_la T P r (b + 1) (upd X b (sp_lv T (P b) X)) (c || decide (¬ sp_lv T (P b) X = X b))
def sp_Y (T : Nat → Nat → Int32) (P : Nat → Blk) : Nat → Int32 := sp_lit T P 16 (fun _ => 0)
def lok (T : Nat → Nat → Int32) (P : Nat → Blk) (X : Nat → Int32) : Prop := (∀ b, low8 (X b)) ∧ ∀ v, v < 8 → bpost (lsys T P v) (bts X v) ∧ ble (bts X v) (bts (sp_Y T P) v)
def lmu (X : Nat → Int32) : Nat → Nat
  | 0 => 0
  | k + 1 => lmu X k + pc (X k) 8
theorem lmu_le (X : Nat → Int32) : ∀ k, lmu X k ≤ 8 * k
  | 0 => Nat.le_refl _
  | k + 1 => by
    have := lmu_le X k
    have := pc_le (X k) 8
    unfold lmu
    omega
theorem lmu_upd_lt {X : Nat → Int32} {b : Nat} {y : Int32} : ∀ k, k ≤ b → lmu (upd X b y) k = lmu X k
  | 0, _ => rfl
  | k + 1, h => by
    unfold lmu
    rw [lmu_upd_lt k (by omega)]
    unfold upd
    rw [if_neg (by omega)]
theorem lmu_upd {X : Nat → Int32} {b : Nat} {y : Int32} : ∀ k, b < k → lmu (upd X b y) k + pc (X b) 8 = lmu X k + pc y 8
  | 0, h => absurd h (Nat.not_lt_zero _)
  | k + 1, h => by
    unfold lmu
    by_cases e : b = k
    · subst e
      rw [lmu_upd_lt b (Nat.le_refl _)]
      have : upd X b y b = y := by
        unfold upd
        rw [if_pos rfl]
      rw [this]
      omega
    · have ih := lmu_upd (X := X) (b := b) (y := y) k (by omega)
      have : upd X b y k = X k := by
        unfold upd
        rw [if_neg (fun z => e z.symm)]
      rw [this]
      omega
section LA
variable {T : Nat → Nat → Int32} {m : Nat} {P : Nat → Blk}
theorem low8_lv (hT : nt_ok T m) {B : Blk} {X : Nat → Int32} (hX : ∀ b, low8 (X b)) : low8 (sp_lv T B X) := low8_or (low8_lvs hT _ _ _ low8_0) (low8_and (low8_or (low8_or (low8_T hT _) (low8_at hX _)) (low8_at hX _)) _)
theorem low8_upd {X : Nat → Int32} {y : Int32} (hX : ∀ b, low8 (X b)) (hy : low8 y) (b : Nat) : ∀ c, low8 (upd X b y c) := fun c => by
  unfold upd
  split
  · exact hy
  · exact hX c
theorem low8_lr (hT : nt_ok T m) : ∀ (b : Nat) (X : Nat → Int32) (c : Bool), (∀ b, low8 (X b)) → ∀ i, low8 ((sp_lr T P b X c).1 i)
  | 0, _, _, h => h
  | b + 1, X, c, h => by
    unfold sp_lr
    exact low8_lr hT b _ _ (low8_upd h (low8_lv hT h) b)
theorem low8_lit (hT : nt_ok T m) : ∀ (k : Nat) (X : Nat → Int32), (∀ b, low8 (X b)) → ∀ i, low8 (sp_lit T P k X i)
  | 0, _, h => h
  | k + 1, X, h => by
    have h1 := low8_lr (P := P) hT 16 X false h
    unfold sp_lit
    split
    · exact low8_lit hT k _ h1
    · exact h1
theorem lok_0 (hpt : pt_ok P 16) : lok T P (fun _ => 0) := by
  refine ⟨fun _ => low8_0, fun v hv => ?_⟩
  have h0 : bts (fun _ => 0) v = fun _ => false := by
    funext i
    exact fl_bit_0 v
  rw [h0]
  exact ⟨fun _ _ h => (by cases h), fun _ _ h => (by cases h)⟩
theorem lok_step (hT : nt_ok T m) (hpt : pt_ok P 16) {X : Nat → Int32} (h : lok T P X) {b : Nat} (hb : b < 16) : lok T P (upd X b (sp_lv T (P b) X)) ∧ grw (X b) (sp_lv T (P b) X) := by
  have hl := low8_lv (B := P b) hT h.1
  refine ⟨⟨low8_upd h.1 hl b, fun v hv => ?_⟩, fun i hi => ?_, fun v hv hx => ?_⟩
  · have hm := lsys_mono (T := T) hpt v
    obtain ⟨h1, h2⟩ := h.2 v hv
    rw [bts_upd, lv_bit hv]
    refine ⟨(bup_post hm h1 hb).2, fun c hc hx => ?_⟩
    unfold bup at hx
    by_cases e : c = b
    · rw [if_pos e] at hx
      have h3 := hm _ _ h2 b hb hx
      rw [← lv_bit hv] at h3
      unfold sp_Y at h3
      rw [sp_lit_fixed hpt hv hb] at h3
      rw [e]
      exact h3
    · rw [if_neg e] at hx
      exact h2 c hc hx
  · rw [hl i hi, h.1 b i hi]
  · rw [lv_bit hv]
    exact (h.2 v hv).1 b hb hx
theorem sp_la_ok (hT : nt_ok T m) (hpt : pt_ok P 16) : ∀ (r b : Nat) (X : Nat → Int32) (c : Bool), r + b = 16 → lok T P X → lok T P (sp_la T P r b X c).1 ∧ lmu X 16 ≤ lmu (sp_la T P r b X c).1 16 ∧ ((sp_la T P r b X c).2 = true → c = true ∨ lmu X 16 < lmu (sp_la T P r b X c).1 16) ∧ ((sp_la T P r b X c).2 = false → c = false ∧ (sp_la T P r b X c).1 = X ∧ ∀ i, b ≤ i → i < 16 → sp_lv T (P i) X = X i)
  | 0, b, X, c, hr, h => ⟨h, Nat.le_refl _, fun z => Or.inl z, fun z => ⟨z, rfl, fun i h1 h2 => by omega⟩⟩
  | r + 1, b, X, c, hr, h => by
    have hb : b < 16 := by omega
    obtain ⟨h1, h2⟩ := lok_step hT hpt h hb
    obtain ⟨i1, i2, i3, i4⟩ := sp_la_ok hT hpt r (b + 1) (upd X b (sp_lv T (P b) X)) (c || decide (¬ sp_lv T (P b) X = X b)) (by omega) h1
    have e := lmu_upd (X := X) (b := b) (y := sp_lv T (P b) X) 16 hb
    have mo := pc_mono 8 (Nat.le_refl _) h2.2
    unfold sp_la
    refine ⟨i1, by omega, fun z => ?_, fun z => ?_⟩
    · rcases i3 z with i3 | i3
      · cases c with
        | true => exact Or.inl rfl
        | false =>
          have ne : ¬ sp_lv T (P b) X = X b := by simpa using i3
          have := grw_pc h2 ne
          exact Or.inr (by omega)
      · exact Or.inr (by omega)
    · obtain ⟨j1, j2, j3⟩ := i4 z
      have j1' : c = false ∧ sp_lv T (P b) X = X b := by simpa using j1
      have same : upd X b (sp_lv T (P b) X) = X := by
        funext i
        unfold upd
        split
        · next e => rw [j1'.2, e]
        · rfl
      rw [same] at j2 j3
      refine ⟨j1'.1, by rw [same]; exact j2, fun i q1 q2 => ?_⟩
      by_cases e : i = b
      · rw [e]
        exact j1'.2
      · exact j3 i (by omega) q2
theorem lok_end (hT : nt_ok T m) (hpt : pt_ok P 16) {X : Nat → Int32} (h : lok T P X) (hf : ∀ i, i < 16 → sp_lv T (P i) X = X i) : ∀ b, b < 16 → X b = sp_Y T P b := fun b hb => by
  refine low8_ext (h.1 b) (low8_lit hT 16 _ (fun _ => low8_0) b) (fun v hv => ?_)
  have a1 := (h.2 v hv).2 b hb
  have a2 := sp_lit_least (T := T) hpt hv (Y := X) (fun c hc => by rw [hf c hc]) hb
  unfold bts at a1
  cases h5 : fl_bit (X b) v with
  | true => exact (a1 h5).symm
  | false =>
    cases h6 : fl_bit (sp_Y T P b) v with
    | false => rfl
    | true =>
      rw [a2 h6] at h5
      cases h5
end LA
/-! How the model holds the program's jumps -/
def jnR (m : Nat) (x : Int32) (k : Nat) : Prop := (x = -1 ∧ k = 150) ∨ (k < m ∧ x = nI k)
def tgR (x y : Int32) : Prop := ∃ t, t < 16 ∧ x = nI t ∧ y = nI t
def pjR (M : mc_M) (m : Nat) (P : Nat → Blk) : Prop := ∀ b, b < 16 → M 73 b = (P b).2.2.1 ∧ jnR m (M 74 b) (P b).2.2.2.1.1 ∧ (P b).2.2.2.1.2 = (fun _ => 0) ∧
  (((P b).2.2.1 = 0 ∧ (P b).2.2.2.1.1 = 150 ∧ tgR (P b).2.2.2.2.1 (M 75 b) ∧ (P b).2.2.2.2.2 = -1) ∨
   ((P b).2.2.1 = 1 ∧ (P b).2.2.2.1.1 < m ∧ tgR (P b).2.2.2.2.1 (M 75 b) ∧ tgR (P b).2.2.2.2.2 (M 76 b)) ∨
   ((P b).2.2.1 = 2 ∧ (P b).2.2.2.2.1 = -1 ∧ (P b).2.2.2.2.2 = -1))
section RV
variable {g : mc_G} {d n : Nat} {M : mc_M} {L : mc_L} {Q : Option Value → mc_M → mc_L → Prop} {T : Nat → Nat → Int32} {m : Nat} {P : Nat → Blk}
theorem pjR_pt (h : pjR M m P) : pt_ok P 16 := fun b hb => by
  obtain ⟨-, -, -, h1 | h1 | h1⟩ := h b hb
  · obtain ⟨-, -, ⟨t, ht, h2, -⟩, h3⟩ := h1
    exact ⟨Or.inr ⟨t, ht, h2⟩, Or.inl h3⟩
  · obtain ⟨-, -, ⟨t, ht, h2, -⟩, ⟨u, hu, h3, -⟩⟩ := h1
    exact ⟨Or.inr ⟨t, ht, h2⟩, Or.inr ⟨u, hu, h3⟩⟩
  · exact ⟨Or.inl h1.2.1, Or.inl h1.2.2⟩
theorem pjR_to {M' : mc_M} (h : pjR M m P) (hM : ∀ c, 73 ≤ c → c ≤ 76 → M' c = M c) : pjR M' m P := fun b hb => by
  rw [hM 73 (by decide) (by decide), hM 74 (by decide) (by decide), hM 75 (by decide) (by decide), hM 76 (by decide) (by decide)]
  exact h b hb
theorem pgR_to {M' : mc_M} (h : pgR M m P) (hM : ∀ c, 70 ≤ c → c ≤ 72 → M' c = M c) : pgR M' m P := fun b hb => by
  rw [hM 70 (by decide) (by decide), hM 71 (by decide) (by decide), hM 72 (by decide) (by decide)]
  exact h b hb
theorem nt_R_to {M' : mc_M} (h : nt_R M T m) (h1 : M' 64 1 = M 64 1) (hM : ∀ c, 65 ≤ c → c ≤ 69 → M' c = M c) : nt_R M' T m := ⟨h1.trans h.1, fun i hi k hk => by
  rw [hM (65 + i) (by omega) (by omega)]
  exact h.2 i hi k hk⟩
def lv2 (M0 M : mc_M) (X : Nat → Int32) : Prop := (∀ c, c ≠ 82 → M c = M0 c) ∧ ∀ b, b < 16 → M 82 b = X b
theorem or_0 (x : Int32) : x ||| 0 = x := by simp
theorem zero_or (x : Int32) : 0 ||| x = x := by simp
theorem cR_allLive (hT : nt_ok T m) (hN : nt_R M T m) (hP : pgR M m P) (hJ : pjR M m P) (hd : 2 ≤ d) (h : ∀ M', lv2 M M' (sp_Y T P) → Q none M' L) : ctR_allLive g d [.ref 64] n M L Q := by
  obtain ⟨d, rfl⟩ := Nat.exists_eq_add_of_le' (show 1 ≤ d by omega)
  have hm150 := hT.1
  have hpt := pjR_pt hJ
  have back : ∀ (K : mc_K), mc_closed true tab0 n 0 none (shR_allLive g d) Q (fun _ _ _ => False) tbR_allLive K → ∀ (mo : Int32) (b : Nat) (M1 : mc_M), b < 16 → (∀ c, c ≠ 82 → M1 c = M c) → ∀ (s : Int32) (i : Nat) (k st : Int32), i ≤ (P b).2.1.length → k = nI (b * 10 + i) - 1 → st = mback T ((P b).2.1.drop i) s → (∀ k, K 164 [some (.ref 64), some (.int mo), some (.int (nI b)), some (.int (mback T (P b).2.1 s)), some (.int k)] [] n M1 L) → K 122 [some (.ref 64), some (.int mo), some (.int (nI b)), some (.int st), some (.int k)] [] n M1 L := by
    intro K hK mo b M1 hb hM s i
    induction i with
    | zero =>
      intro k st hi hk hs h
      subst hk
      rw [List.drop_zero] at hs
      subst hs
      have e10 : (10 : Int32) * nI b = nI (b * 10) := by rw [show (10 : Int32) = nI 10 from rfl, nI_mul, Nat.mul_comm]
      have c1 : nI (b * 10 + 0) - 1 < 10 * nI b := by
        rw [e10]
        have h9 : b = 0 ∨ b = 1 ∨ b = 2 ∨ b = 3 ∨ b = 4 ∨ b = 5 ∨ b = 6 ∨ b = 7 ∨ b = 8 ∨ b = 9 ∨ b = 10 ∨ b = 11 ∨ b = 12 ∨ b = 13 ∨ b = 14 ∨ b = 15 := by omega
        rcases h9 with rfl | rfl | rfl | rfl | rfl | rfl | rfl | rfl | rfl | rfl | rfl | rfl | rfl | rfl | rfl | rfl <;> decide
      exact hK.1 [164] 20 122 _ _ _ _ _ ⟨fun _ => h _, fun z => absurd c1 z⟩
    | succ i ih =>
      intro k st hi hk hs h
      obtain ⟨p1, p2, p3⟩ := hP b hb
      rw [show b * 10 + (i + 1) = b * 10 + i + 1 by omega, nI_pred] at hk
      subst hk
      obtain ⟨v, nd, hv, hnd, hl, m71, m72⟩ := p3 i (by omega)
      have hil := (List.getElem?_eq_some_iff.mp hl).1
      have hdr : (P b).2.1.drop i = (v, nd, fun _ => 0) :: (P b).2.1.drop (i + 1) := by
        rw [List.drop_eq_getElem_cons hil, (List.getElem?_eq_some_iff.mp hl).2]
      have e10 : (10 : Int32) * nI b = nI (b * 10) := by rw [show (10 : Int32) = nI 10 from rfl, nI_mul, Nat.mul_comm]
      have c1 : ¬ nI (b * 10 + i) < 10 * nI b := by
        rw [e10]
        exact nI_nlt (by omega) (by omega)
      have ek : (nI (b * 10 + i)).toNatClampNeg = b * 10 + i := nI_clamp (by omega)
      have vk : vp_in (nI (b * 10 + i)) 160 := vp_in_nI (by omega) (by decide)
      have e1 : M1 71 (nI (b * 10 + i)).toNatClampNeg = nI v := by rw [ek, hM 71 (by decide), m71]
      have e2 : M1 72 (nI (b * 10 + i)).toNatClampNeg = nI nd := by rw [ek, hM 72 (by decide), m72]
      have vn : vp_in (M1 72 (nI (b * 10 + i)).toNatClampNeg) 150 := by rw [e2]; exact vp_in_nI (by omega) (by decide)
      have e3 : M1 69 (M1 72 (nI (b * 10 + i)).toNatClampNeg).toNatClampNeg = T 4 nd := by
        rw [e2, nI_clamp (by omega), hM 69 (by decide)]
        exact hN.2 4 (by decide) nd hnd
      have go : ∀ st', st' = mback T ((P b).2.1.drop i) s → K 122 [some (.ref 64), some (.int mo), some (.int (nI b)), some (.int st'), some (.int (nI (b * 10 + i) + (-1)))] [] n M1 L := fun st' hst => ih _ st' (by omega) (Int32.sub_eq_add_neg _ _).symm hst h
      refine hK.1 [122] 60 122 _ _ _ _ _ ⟨fun z => absurd z c1, fun _ => ⟨vk, vk, vn, go _ ?_⟩⟩
      rw [hdr, e1, e3, hs]
      rfl
  have rnd : ∀ (K : mc_K), mc_closed true tab0 n 0 none (shR_allLive g d) Q (fun _ _ _ => False) tbR_allLive K → ∀ (r b : Nat) (x : Int32) (M1 : mc_M) (X : Nat → Int32) (c : Bool) (y : Int32), r + b = 16 → x = nI b → lv2 M M1 X → (∀ b, low8 (X b)) → y = bI c → (∀ M2 x, lv2 M M2 (sp_la T P r b X c).1 → K 197 [some (.ref 64), some (.int (bI (sp_la T P r b X c).2)), some (.int x), none, none] [] n M2 L) → K 31 [some (.ref 64), some (.int y), some (.int x), none, none] [] n M1 L := by
    intro K hK r
    induction r with
    | zero =>
      intro b x M1 X c y hb hx hl h8 hy h
      subst hx
      subst hy
      have c1 : (16 : Int32) ≤ nI b := nI_le (a := 16) (by omega) (by omega)
      exact hK.1 [197] 20 31 _ _ _ _ _ ⟨fun _ => h M1 _ hl, fun z => absurd c1 z⟩
    | succ r ih =>
      intro b x M1 X c y hb hx hl h8 hy h
      subst hx
      have hb' : b < 16 := by omega
      have c1 : ¬ (16 : Int32) ≤ nI b := nI_ge (b := 16) (by omega) (by decide)
      have eb : (nI b).toNatClampNeg = b := nI_clamp (by omega)
      have vb : vp_in (nI b) 16 := vp_in_nI hb' (by decide)
      have hN' : nt_R M1 T m := nt_R_to hN (by rw [hl.1 64 (by decide)]) (fun c h1 h2 => hl.1 c (by omega))
      obtain ⟨q0, q1, q2, q3⟩ := pjR_to hJ (fun c h1 h2 => hl.1 c (by omega)) b hb'
      rw [← eb] at q0 q1 q3
      obtain ⟨p1, p2, p3⟩ := hP b hb'
      have hlt := pgR_lt hP b hb'
      have e70 : 10 * nI b + M1 70 (nI b).toNatClampNeg - 1 = nI (b * 10 + (P b).2.1.length) - 1 := by
        rw [eb, hl.1 70 (by decide), p1, show (10 : Int32) = nI 10 from rfl, nI_mul, nI_add, Nat.mul_comm]
      have xb : M1 82 (nI b).toNatClampNeg = X b := by rw [eb, hl.2 b hb']
      have go : ∀ (s : Int32) k, s = T 4 (P b).2.2.2.1.1 ||| sp_at X (P b).2.2.2.2.1 ||| sp_at X (P b).2.2.2.2.2 → K 164 [some (.ref 64), some (.int y), some (.int (nI b)), some (.int (mback T (P b).2.1 s)), some (.int k)] [] n M1 L := fun s k hs => by
        have e1 : mback T (P b).2.1 s = sp_lv T (P b) X := by
          rw [hs]
          exact (mF_eq hT hlt h8).1
        rw [e1]
        have nx : ∀ y', y' = bI (c || decide (¬ sp_lv T (P b) X = X b)) → K 31 [some (.ref 64), some (.int y'), some (.int (nI b + 1)), some (.int (sp_lv T (P b) X)), some (.int k)] [] n (mc_put M1 82 (nI b).toNatClampNeg (sp_lv T (P b) X)) L := fun y' hy' => by
          refine hK.2 [true, true, true, false, false] _ _ _ _ _ _ ?_
          refine ih (b + 1) _ _ (upd X b (sp_lv T (P b) X)) (c || decide (¬ sp_lv T (P b) X = X b)) y' (by omega) (nI_1 b) ⟨fun c hc => ?_, fun b' hb' => ?_⟩ (low8_upd h8 (low8_lv hT h8) b) hy' h
          · funext l
            rw [mc_put_at, if_neg (fun z => hc z.1), hl.1 c hc]
          · rw [mc_put_at, eb]
            unfold upd
            by_cases hbb : b' = b
            · rw [if_pos ⟨rfl, hbb⟩, if_pos hbb]
            · rw [if_neg (fun z => hbb z.2), if_neg hbb, hl.2 b' hb']
        cases c with
        | true =>
          have hy1 : y = 1 := hy
          subst hy1
          exact hK.1 [31] 40 164 _ _ _ _ _ ⟨fun _ => ⟨vb, nx _ rfl⟩, fun z => absurd z (by decide)⟩
        | false =>
          have hy1 : y = 0 := hy
          subst hy1
          exact hK.1 [31] 40 164 _ _ _ _ _ ⟨fun z => absurd rfl z, fun _ => ⟨vb, fun z => ⟨vb, nx _ (by rw [xb] at z; simp [bI, z])⟩, fun z => ⟨vb, nx _ (by rw [xb] at z; simp [bI, z])⟩⟩⟩
      have bk : ∀ s, s = T 4 (P b).2.2.2.1.1 ||| sp_at X (P b).2.2.2.2.1 ||| sp_at X (P b).2.2.2.2.2 → K 122 [some (.ref 64), some (.int y), some (.int (nI b)), some (.int s), some (.int (10 * nI b + M1 70 (nI b).toNatClampNeg - 1))] [] n M1 L := fun s hs => by
        rw [e70]
        exact back K hK y b M1 hb' hl.1 s (P b).2.1.length _ s (Nat.le_refl _) rfl (by rw [List.drop_length]; rfl) (fun k => go s k hs)
      have at1 : sp_at X (-1) = 0 := if_pos rfl
      have atn : ∀ t, t < 16 → sp_at X (nI t) = X t := fun t ht => by
        unfold sp_at
        rw [if_neg (nI_ne_m1 (by omega)), nI_clamp (by omega)]
      have t150 : T 4 150 = 0 := hT.2.2 4 150 (by omega)
      have st : ∀ s0, s0 = T 4 (P b).2.2.2.1.1 → ((2 : Int32) ≤ M1 73 (nI b).toNatClampNeg → ¬ M1 73 (nI b).toNatClampNeg = 1 → K 122 [some (.ref 64), some (.int y), some (.int (nI b)), some (.int s0), some (.int (10 * nI b + M1 70 (nI b).toNatClampNeg - 1))] [] n M1 L) ∧ (¬ (2 : Int32) ≤ M1 73 (nI b).toNatClampNeg → vp_in (M1 75 (nI b).toNatClampNeg) 16 ∧ (¬ M1 73 (nI b).toNatClampNeg = 1 → K 122 [some (.ref 64), some (.int y), some (.int (nI b)), some (.int (s0 ||| M1 82 (M1 75 (nI b).toNatClampNeg).toNatClampNeg)), some (.int (10 * nI b + M1 70 (nI b).toNatClampNeg - 1))] [] n M1 L) ∧ (M1 73 (nI b).toNatClampNeg = 1 → vp_in (M1 76 (nI b).toNatClampNeg) 16 ∧ K 122 [some (.ref 64), some (.int y), some (.int (nI b)), some (.int (s0 ||| M1 82 (M1 75 (nI b).toNatClampNeg).toNatClampNeg ||| M1 82 (M1 76 (nI b).toNatClampNeg).toNatClampNeg)), some (.int (10 * nI b + M1 70 (nI b).toNatClampNeg - 1))] [] n M1 L)) := fun s0 hs0 => by
        rw [q0, eb]
        rw [eb] at q3
        rcases q3 with ⟨k0, k1, ⟨t, ht, k2, k3⟩, k4⟩ | ⟨k0, k1, ⟨t, ht, k2, k3⟩, ⟨u, hu, k4, k5⟩⟩ | ⟨k0, k1, k2⟩
        · refine ⟨fun z => absurd z (by rw [k0]; decide), fun _ => ⟨by rw [k3]; exact vp_in_nI ht (by decide), fun _ => ?_, fun z => absurd z (by rw [k0]; decide)⟩⟩
          have := bk (s0 ||| M1 82 (M1 75 b).toNatClampNeg) (by rw [k3, nI_clamp (by omega), hl.2 t ht, hs0, k2, k4, at1, atn t ht, or_0])
          rw [eb] at this
          exact this
        · refine ⟨fun z => absurd z (by rw [k0]; decide), fun _ => ⟨by rw [k3]; exact vp_in_nI ht (by decide), fun z => absurd k0 z, fun _ => ⟨by rw [k5]; exact vp_in_nI hu (by decide), ?_⟩⟩⟩
          have := bk (s0 ||| M1 82 (M1 75 b).toNatClampNeg ||| M1 82 (M1 76 b).toNatClampNeg) (by rw [k3, k5, nI_clamp (by omega), nI_clamp (by omega), hl.2 t ht, hl.2 u hu, hs0, k2, k4, atn t ht, atn u hu])
          rw [eb] at this
          exact this
        · refine ⟨fun _ _ => ?_, fun z => absurd (show (2 : Int32) ≤ (P b).2.2.1 by rw [k0]; decide) z⟩
          have := bk s0 (by rw [hs0, k1, k2, at1, or_0, or_0])
          rw [eb] at this
          exact this
      have sk : ∀ s0, s0 = T 4 (P b).2.2.2.1.1 → K 51 [some (.ref 64), some (.int y), some (.int (nI b)), some (.int s0), none] [] n M1 L := fun s0 hs0 => by
        obtain ⟨s1, s2⟩ := st s0 hs0
        exact hK.1 [122] 80 51 _ _ _ _ _ ⟨vb, fun z => ⟨vb, fun w => ⟨vb, s1 z w⟩, fun w => absurd z (by rw [w]; decide)⟩, fun z => ⟨vb, (s2 z).1, vb, fun w => ⟨vb, (s2 z).2.1 w⟩, fun w => ⟨vb, ((s2 z).2.2 w).1, vb, ((s2 z).2.2 w).2⟩⟩⟩
      have xs : M1 74 (nI b).toNatClampNeg = -1 ∨ ∃ k, k < m ∧ M1 74 (nI b).toNatClampNeg = nI k := by
        rcases q1 with q1 | q1
        · exact Or.inl q1.1
        · exact Or.inr ⟨_, q1.1, q1.2⟩
      rw [eb] at q1
      exact hK.1 [51] 40 31 _ _ _ _ _ ⟨fun z => absurd z c1, fun _ => ⟨vb, cR_setOf hN' hm150 (by omega) xs (fun z => sk 0 (by
        rcases q1 with q1 | q1
        · rw [q1.2, t150]
        · rw [eb, q1.2] at z
          exact absurd z (nI_ne_m1 (by omega)))) (fun k hk z r hr => sk r (by
        rcases q1 with q1 | q1
        · rw [eb, q1.1] at z
          exact absurd z.symm (nI_ne_m1 (by omega))
        · rw [eb, q1.2] at z
          rw [hr, (nI_eq (by omega) (by omega)).mp z]))⟩⟩
  have lp : ∀ (K : mc_K), mc_closed true tab0 n 0 none (shR_allLive g d) Q (fun _ _ _ => False) tbR_allLive K → ∀ (fu : Nat) (M1 : mc_M) (X : Nat → Int32), 128 ≤ fu + lmu X 16 → lv2 M M1 X → lok T P X → K 23 [some (.ref 64), some (.int 1), none, none, none] [] n M1 L := by
    intro K hK fu
    induction fu with
    | zero =>
      intro M1 X hf hl hX
      obtain ⟨a1, a2, a3, a4⟩ := sp_la_ok hT hpt 16 0 X false rfl hX
      refine hK.1 [31] 20 23 _ _ _ _ _ ⟨fun z => absurd z (by decide), fun _ => rnd K hK 16 0 0 M1 X false 0 rfl rfl hl hX.1 rfl (fun M2 x hl2 => ?_)⟩
      cases hc : (sp_la T P 16 0 X false).2 with
      | true =>
        have w1 := lmu_le (sp_la T P 16 0 X false).1 16
        rcases a3 hc with a3 | a3
        · cases a3
        · omega
      | false =>
        obtain ⟨-, b2, b3⟩ := a4 hc
        rw [b2] at hl2
        have e := lok_end hT hpt hX (fun i hi => b3 i (Nat.zero_le _) hi)
        exact hK.1 [] 20 197 _ _ _ _ _ ⟨fun _ => ⟨Nat.le_refl _, h M2 ⟨hl2.1, fun b hb => by rw [hl2.2 b hb, e b hb]⟩⟩, fun z => absurd rfl z⟩
    | succ fu ih =>
      intro M1 X hf hl hX
      obtain ⟨a1, a2, a3, a4⟩ := sp_la_ok hT hpt 16 0 X false rfl hX
      refine hK.1 [31] 20 23 _ _ _ _ _ ⟨fun z => absurd z (by decide), fun _ => rnd K hK 16 0 0 M1 X false 0 rfl rfl hl hX.1 rfl (fun M2 x hl2 => ?_)⟩
      cases hc : (sp_la T P 16 0 X false).2 with
      | true =>
        rcases a3 hc with a3 | a3
        · cases a3
        · refine hK.2 [true, true, false, false, false] _ _ _ _ _ _ ?_
          exact hK.1 [23] 20 197 _ _ _ _ _ (ih M2 _ (by omega) hl2 a1)
      | false =>
        obtain ⟨-, b2, b3⟩ := a4 hc
        rw [b2] at hl2
        have e := lok_end hT hpt hX (fun i hi => b3 i (Nat.zero_le _) hi)
        exact hK.1 [] 20 197 _ _ _ _ _ ⟨fun _ => ⟨Nat.le_refl _, h M2 ⟨hl2.1, fun b hb => by rw [hl2.2 b hb, e b hb]⟩⟩, fun z => absurd rfl z⟩
  have z0 : ∀ (K : mc_K), mc_closed true tab0 n 0 none (shR_allLive g d) Q (fun _ _ _ => False) tbR_allLive K → ∀ (r b : Nat) (x : Int32) (M1 : mc_M), r + b = 16 → x = nI b → (∀ c, c ≠ 82 → M1 c = M c) → (∀ i, i < b → M1 82 i = 0) → K 2 [some (.ref 64), some (.int x), none, none, none] [] n M1 L := by
    intro K hK r
    induction r with
    | zero =>
      intro b x M1 hb hx h1 h2
      subst hx
      have c1 : (16 : Int32) ≤ nI b := nI_le (a := 16) (by omega) (by omega)
      exact hK.1 [23] 20 2 _ _ _ _ _ ⟨fun _ => lp K hK 128 M1 (fun _ => 0) (by omega) ⟨h1, fun i hi => h2 i (by omega)⟩ (lok_0 hpt), fun z => absurd c1 z⟩
    | succ r ih =>
      intro b x M1 hb hx h1 h2
      subst hx
      have c1 : ¬ (16 : Int32) ≤ nI b := nI_ge (b := 16) (by omega) (by decide)
      have eb : (nI b).toNatClampNeg = b := nI_clamp (by omega)
      have vb : vp_in (nI b) 16 := vp_in_nI (by omega) (by decide)
      exact hK.1 [2] 20 2 _ _ _ _ _ ⟨fun z => absurd z c1, fun _ => ⟨vb, ih (b + 1) _ _ (by omega) (nI_1 b) (fun c hc => by
        funext l
        rw [mc_put_at, if_neg (fun z => hc z.1), h1 c hc]) (fun i hi => by
        rw [mc_put_at, eb]
        by_cases e : i = b
        · rw [if_pos ⟨rfl, e⟩]
        · rw [if_neg (fun z => e z.2), h2 i (by omega)])⟩⟩
  exact inR_allLive (Nat.le_of_ble_eq_true rfl) (fun K hK => hK.1 [2] 20 0 _ _ _ _ _ (z0 K hK 16 0 0 M rfl rfl (fun _ _ => rfl) (fun i hi => absurd hi (Nat.not_lt_zero _))))
end RV
