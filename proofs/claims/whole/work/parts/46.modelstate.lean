/-! The model's state, part and append -/
def mmat (M : mc_M) (lk : Int32) (x : Int32) (k : Nat) : Prop := M 80 k = x ∧ ∀ v, v < 8 → fl_bit lk v = true → M 81 (k * 8 + v) = M 78 v
section RS
variable {g : mc_G} {d n : Nat} {M : mc_M} {L : mc_L} {Q : Option Value → mc_M → mc_L → Prop}
theorem fl_bit_1 {S : Int32} {v : Nat} : fl_bit S v = true ↔ ¬ ((S >>> (nI v &&& 31)) &&& 1) = 0 := by
  unfold fl_bit
  exact decide_eq_true_iff
theorem cR_stateG {x : Int32} {b ms : Nat} (hx : x = nI b) (hb : b < 16) (h18 : M 64 18 = nI ms) (hms : ms ≤ 101) {lk : Int32} (hlk : M 82 b &&& (M 64 21 ^^^ (-1)) = lk) (hd : 1 ≤ d)
    (hf : ∀ k, k < ms → mmat M lk x k → (∀ j, j < k → ¬ mmat M lk x j) → ∀ r, r = nI k → Q (some (.int r)) M L)
    (ho : ms = 101 → ∀ r, Q (some (.int r)) M L)
    (hn : ms < 101 → (∀ j, j < ms → ¬ mmat M lk x j) → ∀ r M', r = nI ms → (∀ c, c ≠ 64 → c ≠ 80 → c ≠ 81 → M' c = M c) → (∀ i, M' 64 i = if i = 18 then nI (ms + 1) else M 64 i) → (∀ k, M' 80 k = if k = ms then x else M 80 k) → (∀ k v, v < 8 → M' 81 (k * 8 + v) = if k = ms then M 78 v else M 81 (k * 8 + v)) → Q (some (.int r)) M' L) : ctR_state g d [.ref 64, .int x] n M L Q := by
  obtain ⟨d, rfl⟩ := Nat.exists_eq_add_of_le' hd
  have e8 : ∀ k v : Nat, (8 : Int32) * nI k + nI v = nI (k * 8 + v) := fun k v => by rw [show (8 : Int32) = nI 8 from rfl, nI_mul, nI_add, Nat.mul_comm]
  have inner : ∀ (K : mc_K), mc_closed true tab0 n 0 (some .int) (shR_state g d) Q (fun _ _ _ => False) tbR_state K → ∀ (k : Nat), k < ms → (mmat M lk x k → ∀ v, K 100 [some (.ref 64), some (.int x), some (.int lk), some (.int (nI k)), some (.int 1), some (.int v)] [] n M L) → (¬ mmat M lk x k → ∀ v, K 100 [some (.ref 64), some (.int x), some (.int lk), some (.int (nI k)), some (.int 0), some (.int v)] [] n M L) → ∀ (r v : Nat) (i y : Int32) (c : Bool), r + v = 8 → i = nI v → y = bI c → (c = true ↔ M 80 k = x ∧ ∀ u, u < v → fl_bit lk u = true → M 81 (k * 8 + u) = M 78 u) → K 44 [some (.ref 64), some (.int x), some (.int lk), some (.int (nI k)), some (.int y), some (.int i)] [] n M L := by
    intro K hK k hk h1 h0 r
    induction r with
    | zero =>
      intro v i y c hv hi hy hc
      subst hi
      have hv8 : v = 8 := by omega
      subst hv8
      have c1 : (8 : Int32) ≤ nI 8 := nI_le (a := 8) (b := 8) (Nat.le_refl _) (by decide)
      cases c with
      | true =>
        have hy1 : y = 1 := hy
        subst hy1
        exact hK.1 [100] 20 44 _ _ _ _ _ ⟨fun _ => h1 (hc.mp rfl) _, fun z => absurd c1 z⟩
      | false =>
        have hy1 : y = 0 := hy
        subst hy1
        exact hK.1 [100] 20 44 _ _ _ _ _ ⟨fun _ => h0 (fun z => by have := hc.mpr z; cases this) _, fun z => absurd c1 z⟩
    | succ r ih =>
      intro v i y c hv hi hy hc
      subst hi
      have c1 : ¬ (8 : Int32) ≤ nI v := nI_ge (b := 8) (by omega) (by decide)
      have vi : vp_in (8 * nI k + nI v) 808 := by rw [e8]; exact vp_in_nI (by omega) (by decide)
      have vv : vp_in (nI v) 8 := vp_in_nI (by omega) (by decide)
      have ei : (8 * nI k + nI v).toNatClampNeg = k * 8 + v := by rw [e8]; exact nI_clamp (by omega)
      have ev : (nI v).toNatClampNeg = v := nI_clamp (by omega)
      cases c with
      | false =>
        have hy1 : y = 0 := hy
        subst hy1
        exact hK.1 [44] 40 44 _ _ _ _ _ ⟨fun z => absurd z c1, fun _ => ⟨fun _ => ih (v + 1) _ _ false (by omega) (nI_1 v) rfl ⟨fun z => (by cases z), fun z => (hc.mpr ⟨z.1, fun u hu => z.2 u (by omega)⟩)⟩, fun z => absurd rfl z⟩⟩
      | true =>
        have hy1 : y = 1 := hy
        subst hy1
        obtain ⟨p1, p2⟩ := hc.mp rfl
        refine hK.1 [44] 40 44 _ _ _ _ _ ⟨fun z => absurd z c1, fun _ => ⟨fun z => absurd z (by decide), fun _ => ⟨fun z => ih (v + 1) _ _ true (by omega) (nI_1 v) rfl ⟨fun _ => ⟨p1, fun u hu hb => ?_⟩, fun _ => rfl⟩, fun z => ⟨vi, vv, fun w => ih (v + 1) _ _ false (by omega) (nI_1 v) rfl ⟨fun z => (by cases z), fun q => ?_⟩, fun w => ih (v + 1) _ _ true (by omega) (nI_1 v) rfl ⟨fun _ => ⟨p1, fun u hu hb => ?_⟩, fun _ => rfl⟩⟩⟩⟩⟩
        · by_cases e : u = v
          · rw [e] at hb
            exact absurd z (fl_bit_1.mp hb)
          · exact p2 u (by omega) hb
        · rw [ei, ev] at w
          exact absurd (q.2 v (by omega) (fl_bit_1.mpr z)) w
        · by_cases e : u = v
          · rw [ei, ev] at w
            rw [e]
            exact w
          · exact p2 u (by omega) hb
  have wr : ∀ (K : mc_K), mc_closed true tab0 n 0 (some .int) (shR_state g d) Q (fun _ _ _ => False) tbR_state K → ms < 101 → (∀ j, j < ms → ¬ mmat M lk x j) → ∀ (r v : Nat) (i : Int32) (M1 : mc_M), r + v = 8 → i = nI v → (∀ c, c ≠ 81 → M1 c = mc_put M 80 ms x c) → (∀ k u, u < 8 → M1 81 (k * 8 + u) = if k = ms ∧ u < v then M 78 u else M 81 (k * 8 + u)) → K 137 [some (.ref 64), some (.int x), some (.int lk), some (.int i), none, none] [] n M1 L := by
    intro K hK h101 hno r
    induction r with
    | zero =>
      intro v i M1 hv hi e1 e2
      subst hi
      have c1 : (8 : Int32) ≤ nI v := nI_le (a := 8) (by omega) (by omega)
      have e18 : M1 64 18 = nI ms := by rw [e1 64 (by decide), mc_put_at, if_neg (by omega), h18]
      have q := hn h101 hno (M1 64 18 + 1 - 1) (mc_put M1 64 18 (M1 64 18 + 1)) (by rw [e18, nI_1, nI_pred]) (fun c h1 h2 h3 => by
        funext w
        rw [mc_put_at, if_neg (fun z => h1 z.1), e1 c h3, mc_put_at, if_neg (fun z => h2 z.1)]) (fun j => by
        rw [mc_put_at, e18, nI_1]
        by_cases e : j = 18
        · rw [if_pos ⟨rfl, e⟩, if_pos e]
        · rw [if_neg (fun z => e z.2), if_neg e, e1 64 (by decide), mc_put_at, if_neg (by omega)]) (fun k => by
        rw [mc_put_at, if_neg (by omega), e1 80 (by decide), mc_put_at]
        by_cases e : k = ms
        · rw [if_pos ⟨rfl, e⟩, if_pos e]
        · rw [if_neg (fun z => e z.2), if_neg e]) (fun k u hu => by
        rw [mc_put_at, if_neg (by omega), e2 k u hu]
        by_cases e : k = ms
        · rw [if_pos ⟨e, by omega⟩, if_pos e]
        · rw [if_neg (fun z => e z.1), if_neg e])
      exact hK.1 [] 40 137 _ _ _ _ _ ⟨fun _ => ⟨Nat.le_refl _, q⟩, fun z => absurd c1 z⟩
    | succ r ih =>
      intro v i M1 hv hi e1 e2
      subst hi
      have c1 : ¬ (8 : Int32) ≤ nI v := nI_ge (b := 8) (by omega) (by decide)
      have e18 : M1 64 18 = nI ms := by rw [e1 64 (by decide), mc_put_at, if_neg (by omega), h18]
      have vi : vp_in (8 * M1 64 18 + nI v) 808 := by rw [e18, e8]; exact vp_in_nI (by omega) (by decide)
      have vv : vp_in (nI v) 8 := vp_in_nI (by omega) (by decide)
      have ei : (8 * M1 64 18 + nI v).toNatClampNeg = ms * 8 + v := by rw [e18, e8]; exact nI_clamp (by omega)
      have ev : (nI v).toNatClampNeg = v := nI_clamp (by omega)
      refine hK.1 [137] 40 137 _ _ _ _ _ ⟨fun z => absurd z c1, fun _ => ⟨vv, vi, ih (v + 1) _ _ (by omega) (nI_1 v) (fun c hc => ?_) (fun k u hu => ?_)⟩⟩
      · funext w
        rw [mc_put_at, if_neg (fun z => hc z.1), e1 c hc]
      · have e78 : M1 78 v = M 78 v := by rw [e1 78 (by decide), mc_put_at, if_neg (by omega)]
        rw [mc_put_at, ei, ev, e2 k u hu, e78]
        by_cases e : k = ms ∧ u = v
        · rw [if_pos ⟨rfl, by rw [e.1, e.2]⟩, if_pos ⟨e.1, by omega⟩, e.2]
        · rw [if_neg (fun z => e (by omega))]
          by_cases e3 : k = ms ∧ u < v
          · rw [if_pos e3, if_pos ⟨e3.1, by omega⟩]
          · rw [if_neg e3, if_neg (by omega)]
  have lp : ∀ (K : mc_K), mc_closed true tab0 n 0 (some .int) (shR_state g d) Q (fun _ _ _ => False) tbR_state K → ∀ (r k : Nat) (i : Int32), r + k = ms → i = nI k → (∀ j, j < k → ¬ mmat M lk x j) → K 16 [some (.ref 64), some (.int x), some (.int lk), some (.int i), none, none] [] n M L := by
    intro K hK r
    induction r with
    | zero =>
      intro k i hk hi hno
      subst hi
      have hk' : k = ms := by omega
      subst hk'
      have c1 : M 64 18 ≤ nI k := by rw [h18]; exact nI_le (Nat.le_refl _) (by omega)
      have vk : k < 101 → vp_in (M 64 18) 101 := fun z => by rw [h18]; exact vp_in_nI z (by decide)
      have ek : (M 64 18).toNatClampNeg = k := by rw [h18]; exact nI_clamp (by omega)
      by_cases e : k = 101
      · have e1 : M 64 18 = 101 := by rw [h18, e]; rfl
        exact hK.1 [] 40 16 _ _ _ _ _ ⟨fun _ => ⟨fun z => absurd e1 z, fun _ => ⟨Nat.le_refl _, ho e _⟩⟩, fun z => absurd c1 z⟩
      · have e1 : ¬ M 64 18 = 101 := fun z => e ((nI_eq (b := 101) (by omega) (by decide)).mp (h18 ▸ z))
        exact hK.1 [137] 40 16 _ _ _ _ _ ⟨fun _ => ⟨fun _ => ⟨vk (by omega), wr K hK (by omega) hno 8 0 0 _ rfl rfl (fun c _ => by rw [ek]) (fun j u _ => by rw [mc_put_at, if_neg (fun z => absurd z.1 (by decide)), if_neg (fun z => absurd z.2 (Nat.not_lt_zero _))])⟩, fun z => absurd z e1⟩, fun z => absurd c1 z⟩
    | succ r ih =>
      intro k i hk hi hno
      subst hi
      have c1 : ¬ M 64 18 ≤ nI k := by rw [h18]; exact nI_ge (by omega) (by omega)
      have vk : vp_in (nI k) 101 := vp_in_nI (by omega) (by decide)
      have ek : (nI k).toNatClampNeg = k := nI_clamp (by omega)
      have nx : ¬ mmat M lk x k → ∀ a v, K 16 [some (.ref 64), some (.int x), some (.int lk), some (.int (nI k + 1)), a, v] [] n M L := fun hm a v => by
        refine hK.2 [true, true, true, true, false, false] _ _ _ _ _ _ ?_
        refine ih (k + 1) _ (by omega) (nI_1 k) (fun j hj => ?_)
        by_cases e : j = k
        · rw [e]
          exact hm
        · exact hno j (by omega)
      have in1 := inner K hK k (by omega) (fun hm v => hK.1 [] 40 100 _ _ _ _ _ ⟨fun z => absurd z (by decide), fun _ => ⟨Nat.le_refl _, hf k (by omega) hm hno _ rfl⟩⟩) (fun hm v => hK.1 [16] 40 100 _ _ _ _ _ ⟨fun _ => nx hm _ _, fun z => absurd rfl z⟩) 8 0 0
      refine hK.1 [44] 40 16 _ _ _ _ _ ⟨fun z => absurd z c1, fun _ => ⟨vk, fun z => in1 _ false rfl rfl rfl ⟨fun w => (by cases w), fun w => ?_⟩, fun z => in1 _ true rfl rfl rfl ⟨fun _ => ⟨by rw [ek] at z; exact z, fun u hu => absurd hu (Nat.not_lt_zero _)⟩, fun _ => rfl⟩⟩⟩
      rw [ek] at z
      exact absurd w.1 z
  have vx : vp_in x 16 := by rw [hx]; exact vp_in_nI hb (by decide)
  have ex : M 82 x.toNatClampNeg &&& (M 64 21 ^^^ (-1)) = lk := by rw [hx, nI_clamp (by omega)]; exact hlk
  have lp' := fun K hK => lp K hK ms 0 0 rfl rfl (fun j hj => absurd hj (Nat.not_lt_zero _))
  rw [← ex] at lp'
  exact inR_state (Nat.le_of_ble_eq_true rfl) (fun K hK => hK.1 [16] 20 0 _ _ _ _ _ ⟨vx, lp' K hK⟩)
/-- a part is put behind the others -/
def ptR (M M' : mc_M) (p : Nat) (x y : Int32) : Prop := (∀ c, c ≠ 64 → c ≠ 91 → c ≠ 92 → c ≠ 93 → c ≠ 94 → M' c = M c) ∧ (∀ i, M' 64 i = if i = 33 then nI (p + 1) else M 64 i) ∧ (∀ k, M' 91 k = if k = p then -1 else M 91 k) ∧ (∀ k, M' 92 k = if k = p then x else M 92 k) ∧ (∀ k, M' 93 k = if k = p then y else M 93 k) ∧ ∀ k v, v < 8 → M' 94 (k * 8 + v) = if k = p then M 78 v else M 94 (k * 8 + v)
theorem cR_part {x y : Int32} {p : Nat} (h33 : M 64 33 = nI p) (hp : p < 1100) (hd : 1 ≤ d) (h : ∀ r M', r = nI p → ptR M M' p x y → Q (some (.int r)) M' L) : ctR_part g d [.ref 64, .int x, .int y] n M L Q := by
  obtain ⟨d, rfl⟩ := Nat.exists_eq_add_of_le' hd
  have e8 : ∀ k v : Nat, (8 : Int32) * nI k + nI v = nI (k * 8 + v) := fun k v => by rw [show (8 : Int32) = nI 8 from rfl, nI_mul, nI_add, Nat.mul_comm]
  have vp : vp_in (M 64 33) 1100 := by rw [h33]; exact vp_in_nI hp (by decide)
  have ep : (M 64 33).toNatClampNeg = p := by rw [h33]; exact nI_clamp (by omega)
  have wr : ∀ (K : mc_K), mc_closed true tab0 n 0 (some .int) (shR_part g d) Q (fun _ _ _ => False) tbR_part K → ∀ (r v : Nat) (i : Int32) (M1 : mc_M), r + v = 8 → i = nI v → (∀ c, c ≠ 94 → M1 c = mc_put (mc_put (mc_put M 92 p x) 93 p y) 91 p (-1) c) → (∀ k u, u < 8 → M1 94 (k * 8 + u) = if k = p ∧ u < v then M 78 u else M 94 (k * 8 + u)) → K 32 [some (.ref 64), some (.int x), some (.int y), some (.int i)] [] n M1 L := by
    intro K hK r
    induction r with
    | zero =>
      intro v i M1 hv hi e1 e2
      subst hi
      have c1 : (8 : Int32) ≤ nI v := nI_le (a := 8) (by omega) (by omega)
      have e33 : M1 64 33 = nI p := by rw [e1 64 (by decide)]; exact h33
      have q := h (M1 64 33 + 1 - 1) (mc_put M1 64 33 (M1 64 33 + 1)) (by rw [e33, nI_1, nI_pred]) (by
        refine ⟨fun c h1 h2 h3 h4 h5 => ?_, fun j => ?_, fun k => ?_, fun k => ?_, fun k => ?_, fun k u hu => ?_⟩
        · funext w
          rw [mc_put_at, if_neg (fun z => h1 z.1), e1 c h5, mc_put_at, if_neg (fun z => h2 z.1), mc_put_at, if_neg (fun z => h4 z.1), mc_put_at, if_neg (fun z => h3 z.1)]
        · rw [mc_put_at, e33, nI_1]
          by_cases e : j = 33
          · rw [if_pos ⟨rfl, e⟩, if_pos e]
          · rw [if_neg (fun z => e z.2), if_neg e, e1 64 (by decide)]
            rfl
        · rw [mc_put_at, if_neg (by omega), e1 91 (by decide), mc_put_at]
          by_cases e : k = p
          · rw [if_pos ⟨rfl, e⟩, if_pos e]
          · rw [if_neg (fun z => e z.2), if_neg e]
            rfl
        · rw [mc_put_at, if_neg (by omega), e1 92 (by decide), mc_put_at, if_neg (by omega), mc_put_at, if_neg (by omega), mc_put_at]
          by_cases e : k = p
          · rw [if_pos ⟨rfl, e⟩, if_pos e]
          · rw [if_neg (fun z => e z.2), if_neg e]
        · rw [mc_put_at, if_neg (by omega), e1 93 (by decide), mc_put_at, if_neg (by omega), mc_put_at]
          by_cases e : k = p
          · rw [if_pos ⟨rfl, e⟩, if_pos e]
          · rw [if_neg (fun z => e z.2), if_neg e]
            rfl
        · rw [mc_put_at, if_neg (by omega), e2 k u hu]
          by_cases e : k = p
          · rw [if_pos ⟨e, by omega⟩, if_pos e]
          · rw [if_neg (fun z => e z.1), if_neg e])
      exact hK.1 [] 40 32 _ _ _ _ _ ⟨fun _ => ⟨Nat.le_refl _, q⟩, fun z => absurd c1 z⟩
    | succ r ih =>
      intro v i M1 hv hi e1 e2
      subst hi
      have c1 : ¬ (8 : Int32) ≤ nI v := nI_ge (b := 8) (by omega) (by decide)
      have e33 : M1 64 33 = nI p := by rw [e1 64 (by decide)]; exact h33
      have vi : vp_in (8 * M1 64 33 + nI v) 8800 := by rw [e33, e8]; exact vp_in_nI (by omega) (by decide)
      have vv : vp_in (nI v) 8 := vp_in_nI (by omega) (by decide)
      have ei : (8 * M1 64 33 + nI v).toNatClampNeg = p * 8 + v := by rw [e33, e8]; exact nI_clamp (by omega)
      have ev : (nI v).toNatClampNeg = v := nI_clamp (by omega)
      have e78 : M1 78 v = M 78 v := by rw [e1 78 (by decide)]; rfl
      refine hK.1 [32] 40 32 _ _ _ _ _ ⟨fun z => absurd z c1, fun _ => ⟨vv, vi, ih (v + 1) _ _ (by omega) (nI_1 v) (fun c hc => ?_) (fun k u hu => ?_)⟩⟩
      · funext w
        rw [mc_put_at, if_neg (fun z => hc z.1), e1 c hc]
      · rw [mc_put_at, ei, ev, e2 k u hu, e78]
        by_cases e : k = p ∧ u = v
        · rw [if_pos ⟨rfl, by rw [e.1, e.2]⟩, if_pos ⟨e.1, by omega⟩, e.2]
        · rw [if_neg (fun z => e (by omega))]
          by_cases e3 : k = p ∧ u < v
          · rw [if_pos e3, if_pos ⟨e3.1, by omega⟩]
          · rw [if_neg e3, if_neg (by omega)]
  exact inR_part (Nat.le_of_ble_eq_true rfl) (fun K hK => hK.1 [32] 40 0 _ _ _ _ _ ⟨vp, vp, vp, wr K hK 8 0 0 _ rfl rfl (fun c _ => by rw [← ep]; rfl) (fun k u _ => by rw [if_neg (by omega)]; rfl)⟩)
/-- a part goes behind the last one of a block -/
def apR (M : mc_M) (b l : Nat) (y : Int32) : mc_M := mc_put (if M 85 b = -1 then mc_put M 85 b y else mc_put M 91 l y) 86 b y
theorem cR_append {x y : Int32} {b l : Nat} (hx : x = nI b) (hb : b < 100) (hl : ¬ M 85 b = -1 → M 86 b = nI l ∧ l < 1100) (hd : 1 ≤ d) (h : ∀ M', M' = apR M b l y → Q none M' L) : ctR_append g d [.ref 64, .int x, .int y] n M L Q := by
  obtain ⟨d, rfl⟩ := Nat.exists_eq_add_of_le' hd
  subst hx
  have vb : vp_in (nI b) 100 := vp_in_nI hb (by decide)
  have eb : (nI b).toNatClampNeg = b := nI_clamp (by omega)
  by_cases e : M 85 b = -1
  · have e' : M 85 (nI b).toNatClampNeg = -1 := by rw [eb, e]
    have q : ∀ M', M' = mc_put (mc_put M 85 (nI b).toNatClampNeg y) 86 (nI b).toNatClampNeg y → Q none M' L := fun M' hM => h M' (by
      rw [hM, eb]
      unfold apR
      rw [if_pos e])
    exact inR_append (Nat.le_of_ble_eq_true rfl) (fun K hK => hK.1 [] 40 0 _ _ _ _ _ ⟨vb, fun z => absurd e' z, fun _ => ⟨vb, vb, Nat.le_refl _, q _ rfl⟩⟩)
  · obtain ⟨h1, h2⟩ := hl e
    have e' : ¬ M 85 (nI b).toNatClampNeg = -1 := by rw [eb]; exact e
    have l1 : M 86 (nI b).toNatClampNeg = nI l := by rw [eb, h1]
    have vl : vp_in (M 86 (nI b).toNatClampNeg) 1100 := by rw [l1]; exact vp_in_nI h2 (by decide)
    have q : ∀ M', M' = mc_put (mc_put M 91 (M 86 (nI b).toNatClampNeg).toNatClampNeg y) 86 (nI b).toNatClampNeg y → Q none M' L := fun M' hM => h M' (by
      rw [hM, l1, eb, nI_clamp (by omega)]
      unfold apR
      rw [if_neg e])
    exact inR_append (Nat.le_of_ble_eq_true rfl) (fun K hK => hK.1 [] 40 0 _ _ _ _ _ ⟨vb, fun _ => ⟨vb, vl, vb, Nat.le_refl _, q _ rfl⟩, fun z => absurd z e'⟩)
end RS
