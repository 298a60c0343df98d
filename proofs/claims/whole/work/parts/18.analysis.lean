/-! Analysis -/
def fill_is (c w : Nat) : Prop := (c = 22 ∧ w = 16) ∨ (c = 32 ∧ w = 100) ∨ (c = 33 ∧ w = 100) ∨ (c = 34 ∧ w = 100)
def sp_dyn (T : Nat → Nat → Int32) : List Asg → Int32 → Int32
  | [], D => D
  | (v, k, _) :: r, D => sp_dyn T r (if ¬ (T 4 k &&& D) = 0 then D ||| (1 <<< (nI v &&& 31)) else D)
def sp_dr (T : Nat → Nat → Int32) (P : Nat → Blk) : Nat → Nat → Int32 → Int32
  | 0, _, D => D
  | r + 1, b, D => sp_dr T P r (b + 1) (sp_dyn T (P b).2.1 D)
def sp_dit (T : Nat → Nat → Int32) (P : Nat → Blk) : Nat → Int32 → Int32
  | 0, D => D
  | f + 1, D => if sp_dr T P 16 0 D = D then sp_dr T P 16 0 D else sp_dit T P f (sp_dr T P 16 0 D)
def sp_lvs (T : Nat → Nat → Int32) : List Asg → Int32 → Int32 → Int32 × Int32
  | [], a, fo => (a, fo)
  | (v, k, _) :: r, a, fo => sp_lvs T r (a ||| (1 <<< (nI v &&& 31))) (fo ||| (T 4 k &&& (a ^^^ (-1))))
def sp_at (X : Nat → Int32) (t : Int32) : Int32 := if t = -1 then 0 else X t.toNatClampNeg
def sp_lv (T : Nat → Nat → Int32) (B : Blk) (X : Nat → Int32) : Int32 := (sp_lvs T B.2.1 0 0).2 ||| ((T 4 B.2.2.2.1.1 ||| sp_at X B.2.2.2.2.1 ||| sp_at X B.2.2.2.2.2) &&& ((sp_lvs T B.2.1 0 0).1 ^^^ (-1)))
def sp_lr (T : Nat → Nat → Int32) (P : Nat → Blk) : Nat → (Nat → Int32) → Bool → (Nat → Int32) × Bool
  | 0, X, c => (X, c)
  | b + 1, X, c => sp_lr T P b (upd X b (sp_lv T (P b) X)) (c || decide (¬ sp_lv T (P b) X = X b))
def sp_lit (T : Nat → Nat → Int32) (P : Nat → Blk) : Nat → (Nat → Int32) → Nat → Int32
  | 0, X => X
  | f + 1, X => if (sp_lr T P 16 X false).2 = true then sp_lit T P f (sp_lr T P 16 X false).1 else (sp_lr T P 16 X false).1
/-- the program's flow -/
def prg (T : Nat → Nat → Int32) (m : Nat) (M : mc_M) (P : Nat → Blk) : Prop := M 7 0 = nI 16 ∧ M 7 1 = 0 ∧ ∀ b, b < 16 → ∃ ss j, fl_blk T m 0 M 7 16 b (P b) ss j
def pt_ok (P : Nat → Blk) (nb : Nat) : Prop := ∀ b, b < nb → ((P b).2.2.2.2.1 = -1 ∨ ∃ t, t < nb ∧ (P b).2.2.2.2.1 = nI t) ∧ ((P b).2.2.2.2.2 = -1 ∨ ∃ t, t < nb ∧ (P b).2.2.2.2.2 = nI t)
theorem nI_ne_m1 {k : Nat} (h : k < 2 ^ 31) : ¬ nI k = -1 := fun z => by
  have := nI_pos h
  rw [z] at this
  exact this (by decide)
section AN
variable {g : mc_G} {d n w c : Nat} {M0 M : mc_M} {L : mc_L} {Q : Option Value → mc_M → mc_L → Prop} {T : Nat → Nat → Int32} {m : Nat} {P : Nat → Blk}
theorem cJ_fill (hc : fill_is c w) (hd : 1 ≤ d) {x : Int32} (h : ∀ M', M' = mc_set M c (fun i => if i < w then x else M c i) → Q none M' L) : ctJa_fill g d [.ref c, .int x] n M L Q := by
  obtain ⟨d, rfl⟩ := Nat.exists_eq_add_of_le' hd
  have hw : w ≤ 100 := by rcases hc with ⟨-, rfl⟩ | ⟨-, rfl⟩ | ⟨-, rfl⟩ | ⟨-, rfl⟩ <;> decide
  have lp : ∀ (K : mc_K), mc_closed true tab0 n 0 none (shJa_fill g d) Q (fun _ _ _ => False) tbJa_fill K → ∀ (r k : Nat) (i : Int32) (M' : mc_M), r + k = w → i = nI k → M' = mc_set M c (fun i => if i < k then x else M c i) → K 5 [some (.ref c), some (.int x), some (.int i), some (.int (nI w))] [] n M' L := by
    intro K hK r
    induction r with
    | zero =>
      intro k i M' hk hi hM
      subst hi
      have hk8 : k = w := by omega
      subst hk8
      have t := h M' hM
      have c1 : nI k ≤ nI k := nI_le (Nat.le_refl _) (by omega)
      rcases hc with ⟨rfl, rfl⟩ | ⟨rfl, rfl⟩ | ⟨rfl, rfl⟩ | ⟨rfl, rfl⟩ <;>
      exact hK.1 [5] 20 5 _ _ _ _ _ ⟨fun _ => ⟨Nat.le_refl _, t⟩, fun z => absurd c1 z⟩
    | succ r ih =>
      intro k i M' hk hi hM
      subst hi
      have c1 : ¬ nI w ≤ nI k := nI_ge (by omega) (by omega)
      have v1 : vp_in (nI k) w := vp_in_nI (by omega) (by omega)
      have ih' := ih (k + 1) (nI k + 1) (mc_put M' c (nI k).toNatClampNeg x) (by omega) (nI_1 k) (by
        funext j l
        rw [mc_put_at, nI_clamp (by omega), hM, mc_set_at, mc_set_at]
        by_cases hj : j = c
        · rw [if_pos hj, if_pos hj]
          by_cases hl : l = k
          · rw [if_pos ⟨hj, hl⟩, if_pos (by omega)]
          · rw [if_neg (fun z => hl z.2)]
            by_cases hlk : l < k
            · rw [if_pos hlk, if_pos (by omega)]
            · rw [if_neg hlk, if_neg (by omega)]
        · rw [if_neg (fun z => hj z.1), if_neg hj, if_neg hj])
      rcases hc with ⟨rfl, rfl⟩ | ⟨rfl, rfl⟩ | ⟨rfl, rfl⟩ | ⟨rfl, rfl⟩ <;>
      exact hK.1 [5] 20 5 _ _ _ _ _ ⟨fun z => absurd z c1, fun _ => ⟨v1, ih'⟩⟩
  have lp' := fun K hK => lp K hK w 0 0 M rfl rfl (by
    have : (fun i => if i < 0 then x else M c i) = M c := by
      funext i
      rw [if_neg (by omega)]
    rw [this, mc_set_id])
  rcases hc with ⟨rfl, rfl⟩ | ⟨rfl, rfl⟩ | ⟨rfl, rfl⟩ | ⟨rfl, rfl⟩ <;>
  exact inJa_fill (Nat.le_of_ble_eq_true rfl) (fun K hK => hK.1 [5] 20 0 _ _ _ _ _ (lp' K hK))
theorem cY_withDynamicsOf (hT : nt_ok T m) (hN : nt_C M T m) {S : Int32} {b j : Nat} {B : Blk} {ss : List Nat} (hB : fl_blk T m S M 7 16 b B ss j) (hb : b < 16) {x D : Int32} (hx : x = nI b) (hd : 1 ≤ d) (h : ∀ r, r = sp_dyn T B.2.1 D → Q (some (.int r)) M L) : ctY_withDynamicsOf g d [.ref 1, .ref 7, .int x, .int D] n M L Q := by
  obtain ⟨d, rfl⟩ := Nat.exists_eq_add_of_le' hd
  subst hx
  obtain ⟨-, hc, hc1, hch, hsv, has, -⟩ := hB
  have hm150 := hT.1
  have eb : (nI b).toNatClampNeg = b := nI_clamp (by omega)
  have v1 : vp_in (nI b) 16 := vp_in_nI hb (by decide)
  have hcnt : M 9 (nI b).toNatClampNeg = nI ss.length := by rw [eb]; exact hc
  have lp : ∀ (K : mc_K), mc_closed true tab0 n 0 (some .int) (shY_withDynamicsOf g d) Q (fun _ _ _ => False) tbY_withDynamicsOf K → ∀ (rs : List Nat) (x i F : Int32), fl_ch (M 18) 176 x rs → (∀ t ∈ rs, fl_sv M 7 m t) → rs.length ≤ ss.length → i = nI (ss.length - rs.length) →
      (∀ r, r = sp_dyn T (rs.map (fl_as T S M 7)) F → Q (some (.int r)) M L) → K 14 [some (.ref 1), some (.ref 7), some (.int (nI b)), some (.int D), some (.int F), some (.int x), some (.int i)] [] n M L := by
    intro K hK rs
    induction rs with
    | nil =>
      intro x i F _ _ _ hi h
      subst hi
      have c1 : M 9 (nI b).toNatClampNeg ≤ nI (ss.length - 0) := by
        rw [hcnt]
        exact nI_le (by omega) (by omega)
      exact hK.1 [14] 30 14 _ _ _ _ _ ⟨v1, fun _ => ⟨Nat.le_refl _, h _ rfl⟩, fun z => absurd c1 z⟩
    | cons t rs ih =>
      intro x i F hx hsv hlen hi h
      obtain ⟨rfl, htw, hx'⟩ := hx
      subst hi
      have hlen' : rs.length + 1 ≤ ss.length := hlen
      obtain ⟨⟨v, hv8, hvr⟩, k, hk, hkr⟩ := hsv t List.mem_cons_self
      have c1 : ¬ M 9 (nI b).toNatClampNeg ≤ nI (ss.length - (rs.length + 1)) := by
        rw [hcnt]
        exact nI_ge (by omega) (by omega)
      have e1 : (nI t).toNatClampNeg = t := nI_clamp (by omega)
      have v2 : vp_in (nI t) 176 := vp_in_nI htw (by decide)
      have k1 : M 17 (nI t).toNatClampNeg = nI k := by rw [e1]; exact hkr
      have w1 : M 16 (nI t).toNatClampNeg = nI v := by rw [e1]; exact hvr
      have v3 : vp_in (M 17 (nI t).toNatClampNeg) 151 := by
        rw [k1]
        exact vp_in_nI (by omega) (by decide)
      have t4 : M 6 (M 17 (nI t).toNatClampNeg).toNatClampNeg = T 4 k := by
        rw [k1, nI_clamp (by omega)]
        exact hN.2 4 (by decide) k hk
      have as1 : fl_as T S M 7 t = (v, k, fl_fr T S (M 19) t k) := by
        unfold fl_as
        show ((M 16 t).toNatClampNeg, (M 17 t).toNatClampNeg, fl_fr T S (M 19) t (M 17 t).toNatClampNeg) = _
        have q1 : M 16 t = nI v := hvr
        have q2 : M 17 t = nI k := hkr
        rw [q1, q2, nI_clamp (by omega), nI_clamp (by omega)]
      rw [List.map_cons, as1] at h
      have go : ∀ F', F' = (if ¬ (T 4 k &&& F) = 0 then F ||| (1 <<< (nI v &&& 31)) else F) → K 14 [some (.ref 1), some (.ref 7), some (.int (nI b)), some (.int D), some (.int F'), some (.int (M 18 (nI t).toNatClampNeg)), some (.int (nI (ss.length - (rs.length + 1)) + 1))] [] n M L := fun F' hF => by
        refine ih _ _ F' (by rw [e1]; exact hx') (fun t ht => hsv t (List.mem_cons_of_mem _ ht)) (by omega) (by rw [nI_1]; congr 1; omega) (fun r hr => h r ?_)
        rw [hr, hF]
        rfl
      exact hK.1 [14] 60 14 _ _ _ _ _ ⟨v1, fun z => absurd z c1, fun _ => ⟨v2, v3, fun z => ⟨v2, go _ (by rw [t4] at z; rw [if_neg (fun y => y z)])⟩, fun z => ⟨v2, v2, go _ (by rw [t4] at z; rw [w1, if_pos z])⟩⟩⟩
  rw [has] at h
  have x0 : M 10 (nI b).toNatClampNeg = M 10 b := by rw [eb]
  have lp' := fun K hK => lp K hK ss (M 10 (nI b).toNatClampNeg) 0 D (by rw [x0]; exact hch) hsv (Nat.le_refl _) (by rw [Nat.sub_self]; rfl) h
  exact inY_withDynamicsOf (Nat.le_of_ble_eq_true rfl) (fun K hK => hK.1 [14] 20 0 _ _ _ _ _ ⟨v1, lp' K hK⟩)
theorem cY_findStatics (hT : nt_ok T m) (hN : nt_C M T m) (hP : prg T m M P) {x : Int32} (hd : 2 ≤ d) (h : ∀ r, r = 255 &&& (sp_dit T P 8 (255 &&& (x ^^^ (-1))) ^^^ (-1)) → Q (some (.int r)) M L) : ctY_findStatics g d [.ref 21, .ref 1, .ref 7, .int x] n M L Q := by
  obtain ⟨d, rfl⟩ := Nat.exists_eq_add_of_le' (show 1 ≤ d by omega)
  obtain ⟨hsz, -, hPb⟩ := hP
  have inner : ∀ (K : mc_K), mc_closed true tab0 n 0 (some .int) (shY_findStatics g d) Q (fun _ _ _ => False) tbY_findStatics K → ∀ (ro be : Int32) (r b : Nat) (D i : Int32), r + b = 16 → i = nI b → (∀ i, K 52 [some (.ref 21), some (.ref 1), some (.ref 7), some (.int x), some (.int (sp_dr T P r b D)), some (.int ro), some (.int be), some (.int i)] [] n M L) → K 26 [some (.ref 21), some (.ref 1), some (.ref 7), some (.int x), some (.int D), some (.int ro), some (.int be), some (.int i)] [] n M L := by
    intro K hK ro be r
    induction r with
    | zero =>
      intro b D i hb hi h
      subst hi
      have hb16 : b = 16 := by omega
      subst hb16
      have c1 : M 7 0 ≤ nI 16 := by rw [hsz]; exact nI_le (Nat.le_refl _) (by decide)
      exact hK.1 [52] 20 26 _ _ _ _ _ ⟨fun _ => h _, fun z => absurd c1 z⟩
    | succ r ih =>
      intro b D i hb hi h
      subst hi
      have c1 : ¬ M 7 0 ≤ nI b := by rw [hsz]; exact nI_ge (by omega) (by decide)
      obtain ⟨ss, j, hB⟩ := hPb b (by omega)
      refine hK.1 [26] 20 26 _ _ _ _ _ ⟨fun z => absurd z c1, fun _ => cY_withDynamicsOf hT hN hB (by omega) rfl (by omega) (fun r1 hr1 => ?_)⟩
      subst hr1
      exact ih (b + 1) _ _ (by omega) (nI_1 b) h
  have lp : ∀ (K : mc_K), mc_closed true tab0 n 0 (some .int) (shY_findStatics g d) Q (fun _ _ _ => False) tbY_findStatics K → ∀ (fu ro : Nat) (D i : Int32) (l6 l7 : Option Value), fu + ro = 8 → i = nI ro → (∀ r, r = 255 &&& (sp_dit T P fu D ^^^ (-1)) → Q (some (.int r)) M L) → K 12 [some (.ref 21), some (.ref 1), some (.ref 7), some (.int x), some (.int D), some (.int i), none, none] [] n M L := by
    intro K hK fu
    induction fu with
    | zero =>
      intro ro D i l6 l7 hr hi h
      subst hi
      have c1 : (8 : Int32) ≤ nI ro := nI_le (a := 8) (by omega) (by omega)
      exact hK.1 [] 20 12 _ _ _ _ _ ⟨fun _ => ⟨Nat.le_refl _, h _ rfl⟩, fun z => absurd c1 z⟩
    | succ fu ih =>
      intro ro D i l6 l7 hr hi h
      subst hi
      have c1 : ¬ (8 : Int32) ≤ nI ro := nI_ge (b := 8) (by omega) (by decide)
      refine hK.1 [26] 20 12 _ _ _ _ _ ⟨fun z => absurd z c1, fun _ => inner K hK _ _ 16 0 D 0 rfl rfl (fun i => ?_)⟩
      refine hK.1 [12] 20 52 _ _ _ _ _ ⟨fun z => ?_, fun z => ⟨Nat.le_refl _, h _ ?_⟩⟩
      · refine hK.2 [true, true, true, true, true, true, false, false] _ _ _ _ _ _ ?_
        refine ih (ro + 1) _ _ none none (by omega) (nI_1 ro) (fun r hr => h r ?_)
        rw [hr]
        conv => rhs; unfold sp_dit
        rw [if_neg z]
      · conv => rhs; unfold sp_dit
        rw [if_pos z]
  have lp' := fun K hK => lp K hK 8 0 (255 &&& (x ^^^ (-1))) 0 none none rfl rfl h
  exact inY_findStatics (Nat.le_of_ble_eq_true rfl) (fun K hK => hK.1 [12] 20 0 _ _ _ _ _ (lp' K hK))
def lvr (M0 M : mc_M) (X : Nat → Int32) : Prop := (∀ c, c ≠ 22 → M c = M0 c) ∧ ∀ b, b < 16 → M 22 b = X b
theorem cY_livesAt {t : Int32} {X : Nat → Int32} (hX : ∀ b, b < 16 → M 22 b = X b) (ht : t = -1 ∨ ∃ u, u < 16 ∧ t = nI u) (hd : 1 ≤ d) (h : ∀ r, r = sp_at X t → Q (some (.int r)) M L) : ctY_livesAt g d [.ref 21, .int t] n M L Q := by
  obtain ⟨d, rfl⟩ := Nat.exists_eq_add_of_le' hd
  refine inY_livesAt (Nat.le_of_ble_eq_true rfl) (fun K hK => hK.1 [] 20 0 _ _ _ _ _ ⟨fun z => ⟨?_, Nat.le_refl _, h _ ?_⟩, fun z => ⟨Nat.le_refl _, h _ ?_⟩⟩)
  · rcases ht with ht | ⟨u, hu, rfl⟩
    · exact absurd ht z
    · exact vp_in_nI hu (by decide)
  · rcases ht with ht | ⟨u, hu, rfl⟩
    · exact absurd ht z
    · unfold sp_at
      rw [if_neg z, nI_clamp (by omega), hX u hu]
  · unfold sp_at
    rw [if_pos z]
theorem cY_livesOf (hT : nt_ok T m) (hN : nt_C M T m) {S : Int32} {b j : Nat} {B : Blk} {ss : List Nat} (hB : fl_blk T m S M 7 16 b B ss j) (hb : b < 16) {X : Nat → Int32} (hX : ∀ b, b < 16 → M 22 b = X b) (h1 : B.2.2.2.2.1 = -1 ∨ ∃ u, u < 16 ∧ B.2.2.2.2.1 = nI u) (h2 : B.2.2.2.2.2 = -1 ∨ ∃ u, u < 16 ∧ B.2.2.2.2.2 = nI u) {x : Int32} (hx : x = nI b) (hd : 2 ≤ d) (h : ∀ r, r = sp_lv T B X → Q (some (.int r)) M L) : ctY_livesOf g d [.ref 21, .ref 1, .ref 7, .int x] n M L Q := by
  obtain ⟨d, rfl⟩ := Nat.exists_eq_add_of_le' (show 1 ≤ d by omega)
  subst hx
  obtain ⟨-, hc, hc1, hch, hsv, has, hj, hjw, hq, ⟨jk, hjk, hjkr, hjn⟩, hone, hoth⟩ := hB
  have hm150 := hT.1
  have eb : (nI b).toNatClampNeg = b := nI_clamp (by omega)
  have v1 : vp_in (nI b) 16 := vp_in_nI hb (by decide)
  have hcnt : M 9 (nI b).toNatClampNeg = nI ss.length := by rw [eb]; exact hc
  have j2 : M 12 (nI b).toNatClampNeg = nI j := by rw [eb]; exact hj
  have vj : vp_in (M 12 (nI b).toNatClampNeg) 16 := by rw [j2]; exact vp_in_nI hjw (by decide)
  have o1 : M 14 (M 12 (nI b).toNatClampNeg).toNatClampNeg = B.2.2.2.2.1 := by rw [j2, nI_clamp (by omega)]; exact hone
  have o2 : M 15 (M 12 (nI b).toNatClampNeg).toNatClampNeg = B.2.2.2.2.2 := by rw [j2, nI_clamp (by omega)]; exact hoth
  have fin : ∀ st, st = nI (j * 11 + 10) → vp_in st 176 ∧ vp_in (M 17 st.toNatClampNeg) 151 ∧ M 6 (M 17 st.toNatClampNeg).toNatClampNeg = T 4 B.2.2.2.1.1 := fun st hst => by
    have a1 : M 17 st.toNatClampNeg = nI jk := by rw [hst, nI_clamp (by omega)]; exact hjkr
    refine ⟨by rw [hst]; exact vp_in_nI (by omega) (by decide), by rw [a1]; exact vp_in_nI (by omega) (by decide), ?_⟩
    rw [a1, nI_clamp (by omega), hjn]
    exact hN.2 4 (by decide) jk hjk
  have lp : ∀ (K : mc_K), mc_closed true tab0 n 0 (some .int) (shY_livesOf g d) Q (fun _ _ _ => False) tbY_livesOf K → ∀ (rs : List Nat) (x i A F : Int32), fl_ch (M 18) 176 x rs → (∀ t ∈ rs, fl_sv M 7 m t) → rs.length ≤ ss.length → i = nI (ss.length - rs.length) →
      (∀ r, r = (sp_lvs T (rs.map (fl_as T S M 7)) A F).2 ||| ((T 4 B.2.2.2.1.1 ||| sp_at X B.2.2.2.2.1 ||| sp_at X B.2.2.2.2.2) &&& ((sp_lvs T (rs.map (fl_as T S M 7)) A F).1 ^^^ (-1))) → Q (some (.int r)) M L) → K 17 [some (.ref 21), some (.ref 1), some (.ref 7), some (.int (nI b)), some (.int A), some (.int F), some (.int x), some (.int i)] [] n M L := by
    intro K hK rs
    induction rs with
    | nil =>
      intro x i A F _ _ _ hi h
      subst hi
      have c1 : M 9 (nI b).toNatClampNeg ≤ nI (ss.length - 0) := by
        rw [hcnt]
        exact nI_le (by omega) (by omega)
      exact hK.1 [17] 80 17 _ _ _ _ _ ⟨v1, fun _ => cF_jumpStep (w := 16) (Or.inl ⟨rfl, rfl⟩) (by omega) rfl hb hj (fun st hst => ⟨(fin st hst).1, (fin st hst).2.1, v1, vj, cY_livesAt hX (by rw [o1]; exact h1) (by omega) (fun r1 hr1 => ⟨v1, vj, cY_livesAt hX (by rw [o2]; exact h2) (by omega) (fun r2 hr2 => ⟨Nat.le_refl _, h _ (by rw [(fin st hst).2.2, hr1, hr2, o1, o2]; rfl)⟩)⟩)⟩), fun z => absurd c1 z⟩
    | cons t rs ih =>
      intro x i A F hx hsv hlen hi h
      obtain ⟨rfl, htw, hx'⟩ := hx
      subst hi
      have hlen' : rs.length + 1 ≤ ss.length := hlen
      obtain ⟨⟨v, hv8, hvr⟩, k, hk, hkr⟩ := hsv t List.mem_cons_self
      have c1 : ¬ M 9 (nI b).toNatClampNeg ≤ nI (ss.length - (rs.length + 1)) := by
        rw [hcnt]
        exact nI_ge (by omega) (by omega)
      have e1 : (nI t).toNatClampNeg = t := nI_clamp (by omega)
      have v2 : vp_in (nI t) 176 := vp_in_nI htw (by decide)
      have k1 : M 17 (nI t).toNatClampNeg = nI k := by rw [e1]; exact hkr
      have w1 : M 16 (nI t).toNatClampNeg = nI v := by rw [e1]; exact hvr
      have v3 : vp_in (M 17 (nI t).toNatClampNeg) 151 := by
        rw [k1]
        exact vp_in_nI (by omega) (by decide)
      have t4 : M 6 (M 17 (nI t).toNatClampNeg).toNatClampNeg = T 4 k := by
        rw [k1, nI_clamp (by omega)]
        exact hN.2 4 (by decide) k hk
      have as1 : fl_as T S M 7 t = (v, k, fl_fr T S (M 19) t k) := by
        unfold fl_as
        show ((M 16 t).toNatClampNeg, (M 17 t).toNatClampNeg, fl_fr T S (M 19) t (M 17 t).toNatClampNeg) = _
        have q1 : M 16 t = nI v := hvr
        have q2 : M 17 t = nI k := hkr
        rw [q1, q2, nI_clamp (by omega), nI_clamp (by omega)]
      rw [List.map_cons, as1] at h
      have go : ∀ A' F', A' = A ||| (1 <<< (nI v &&& 31)) → F' = F ||| (T 4 k &&& (A ^^^ (-1))) → K 17 [some (.ref 21), some (.ref 1), some (.ref 7), some (.int (nI b)), some (.int A'), some (.int F'), some (.int (M 18 (nI t).toNatClampNeg)), some (.int (nI (ss.length - (rs.length + 1)) + 1))] [] n M L := fun A' F' hA hF => by
        refine ih _ _ A' F' (by rw [e1]; exact hx') (fun t ht => hsv t (List.mem_cons_of_mem _ ht)) (by omega) (by rw [nI_1]; congr 1; omega) (fun r hr => h r ?_)
        rw [hr, hA, hF]
        rfl
      exact hK.1 [17] 60 17 _ _ _ _ _ ⟨v1, fun z => absurd z c1, fun _ => ⟨v2, v3, v2, v2, go _ _ (by rw [w1]) (by rw [t4])⟩⟩
  have x0 : M 10 (nI b).toNatClampNeg = M 10 b := by rw [eb]
  have lp' := fun K hK => lp K hK ss (M 10 (nI b).toNatClampNeg) 0 0 0 (by rw [x0]; exact hch) hsv (Nat.le_refl _) (by rw [Nat.sub_self]; rfl) (fun r hr => h r (by rw [hr]; unfold sp_lv; rw [has]))
  exact inY_livesOf (Nat.le_of_ble_eq_true rfl) (fun K hK => hK.1 [17] 20 0 _ _ _ _ _ ⟨v1, lp' K hK⟩)
def bI (c : Bool) : Int32 := if c = true then 1 else 0
theorem prg_to {M M' : mc_M} (h : prg T m M P) (hM : ∀ c, 7 ≤ c → c ≤ 19 → M' c = M c) : prg T m M' P := by
  obtain ⟨h1, h2, h3⟩ := h
  refine ⟨by rw [hM 7 (by omega) (by omega)]; exact h1, by rw [hM 7 (by omega) (by omega)]; exact h2, fun b hb => ?_⟩
  obtain ⟨ss, j, hB⟩ := h3 b hb
  refine ⟨ss, j, ?_⟩
  have e : ∀ i, i ≤ 12 → M' (7 + i) = M (7 + i) := fun i hi => hM _ (by omega) (by omega)
  unfold fl_blk fl_sv fl_as at hB ⊢
  rw [e 1 (by decide), e 2 (by decide), e 3 (by decide), e 5 (by decide), e 6 (by decide), e 7 (by decide), e 8 (by decide), e 9 (by decide), e 10 (by decide), e 11 (by decide), e 12 (by decide)]
  exact hB
theorem cY_findLives (hT : nt_ok T m) (hN : nt_C M T m) (hP : prg T m M P) (hpt : pt_ok P 16) (hd : 3 ≤ d) (h : ∀ M', lvr M M' (sp_lit T P 16 (fun _ => 0)) → Q none M' L) : ctY_findLives g d [.ref 21, .ref 1, .ref 7] n M L Q := by
  obtain ⟨d, rfl⟩ := Nat.exists_eq_add_of_le' (show 1 ≤ d by omega)
  have inner : ∀ (K : mc_K), mc_closed true tab0 n 0 none (shY_findLives g d) Q (fun _ _ _ => False) tbY_findLives K → ∀ (ro : Int32) (b : Nat) (x : Int32) (M' : mc_M) (X : Nat → Int32) (c : Bool) (y : Int32), b ≤ 16 → x = nI b - 1 → lvr M M' X → y = bI c → (∀ M'' x, lvr M M'' (sp_lr T P b X c).1 → K 77 [some (.ref 21), some (.ref 1), some (.ref 7), some (.int ro), some (.int (bI (sp_lr T P b X c).2)), some (.int x), none] [] n M'' L) → K 23 [some (.ref 21), some (.ref 1), some (.ref 7), some (.int ro), some (.int y), some (.int x), none] [] n M' L := by
    intro K hK ro b
    induction b with
    | zero =>
      intro x M' X c y _ hx hl hy h
      subst hx
      subst hy
      exact hK.1 [77] 20 23 _ _ _ _ _ ⟨fun _ => h M' _ hl, fun z => absurd (show nI 0 - 1 < 0 by decide) z⟩
    | succ b ih =>
      intro x M' X c y hb hx hl hy h
      rw [nI_pred] at hx
      subst hx
      have n0 : ¬ nI b < 0 := nI_pos (by omega)
      have hP' : prg T m M' P := prg_to hP (fun c h1 h2 => hl.1 c (by omega))
      have hN' : nt_C M' T m := nt_C_to hN (fun c h1 h2 => hl.1 c (by omega))
      obtain ⟨ss, j, hB⟩ := hP'.2.2 b (by omega)
      have v1 : vp_in (nI b) 16 := vp_in_nI (by omega) (by decide)
      have eb : (nI b).toNatClampNeg = b := nI_clamp (by omega)
      have dec : nI b + (-1) = nI b - 1 := (Int32.sub_eq_add_neg _ _).symm
      have go : ∀ r, r = sp_lv T (P b) X → ∀ y', y' = bI (c || decide (¬ r = X b)) → K 23 [some (.ref 21), some (.ref 1), some (.ref 7), some (.int ro), some (.int y'), some (.int (nI b + (-1))), some (.int r)] [] n (mc_put M' 22 (nI b).toNatClampNeg r) L := fun r hr y' hy' => by
        refine hK.2 [true, true, true, true, true, true, false] _ _ _ _ _ _ ?_
        refine ih _ _ (upd X b r) (c || decide (¬ r = X b)) y' (by omega) dec ⟨fun c hc => ?_, fun b' hb' => ?_⟩ hy' ?_
        · funext l
          rw [mc_put_at, if_neg (fun z => hc z.1), hl.1 c hc]
        · rw [mc_put_at, eb]
          unfold upd
          by_cases hbb : b' = b
          · rw [if_pos ⟨rfl, hbb⟩, if_pos hbb]
          · rw [if_neg (fun z => hbb z.2), if_neg hbb, hl.2 b' hb']
        · subst hr
          exact h
      have xb : M' 22 (nI b).toNatClampNeg = X b := by rw [eb, hl.2 b (by omega)]
      have pb := hpt b (by omega)
      cases c with
      | true =>
        have hy1 : y = 1 := hy
        subst hy1
        exact hK.1 [23] 40 23 _ _ _ _ _ ⟨fun z => absurd z n0, fun _ => cY_livesOf hT hN' hB (by omega) hl.2 pb.1 pb.2 rfl (by omega) (fun r hr => ⟨fun _ => ⟨v1, go r hr 1 rfl⟩, fun z => absurd z (by decide)⟩)⟩
      | false =>
        have hy1 : y = 0 := hy
        subst hy1
        exact hK.1 [23] 40 23 _ _ _ _ _ ⟨fun z => absurd z n0, fun _ => cY_livesOf hT hN' hB (by omega) hl.2 pb.1 pb.2 rfl (by omega) (fun r hr => ⟨fun z => absurd rfl z, fun _ => ⟨v1, fun z => ⟨v1, go r hr 0 (by rw [xb] at z; simp [bI, z])⟩, fun z => ⟨v1, go r hr 1 (by rw [xb] at z; simp [bI, z])⟩⟩⟩)⟩
  have lp : ∀ (K : mc_K), mc_closed true tab0 n 0 none (shY_findLives g d) Q (fun _ _ _ => False) tbY_findLives K → ∀ (fu ro : Nat) (i : Int32) (M' : mc_M) (X : Nat → Int32), fu + ro = 16 → i = nI ro → lvr M M' X → (∀ M'', lvr M M'' (sp_lit T P fu X) → Q none M'' L) → K 10 [some (.ref 21), some (.ref 1), some (.ref 7), some (.int i), none, none, none] [] n M' L := by
    intro K hK fu
    induction fu with
    | zero =>
      intro ro i M' X hr hi hl h
      subst hi
      have c1 : (16 : Int32) ≤ nI ro := nI_le (a := 16) (by omega) (by omega)
      exact hK.1 [] 20 10 _ _ _ _ _ ⟨fun _ => ⟨Nat.le_refl _, h M' hl⟩, fun z => absurd c1 z⟩
    | succ fu ih =>
      intro ro i M' X hr hi hl h
      subst hi
      have c1 : ¬ (16 : Int32) ≤ nI ro := nI_ge (b := 16) (by omega) (by decide)
      refine hK.1 [23] 20 10 _ _ _ _ _ ⟨fun z => absurd z c1, fun _ => inner K hK _ 16 _ M' X false 0 (Nat.le_refl _) (by decide) hl rfl (fun M'' x hl2 => ?_)⟩
      have h' := h
      unfold sp_lit at h'
      cases hc : (sp_lr T P 16 X false).2 with
      | true =>
        rw [hc, if_pos rfl] at h'
        refine hK.1 [10] 20 77 _ _ _ _ _ ⟨fun _ => ?_, fun z => absurd z (by decide)⟩
        refine hK.2 [true, true, true, true, false, false, false] _ _ _ _ _ _ ?_
        exact ih (ro + 1) _ M'' _ (by omega) (nI_1 ro) hl2 h'
      | false =>
        rw [hc, if_neg (by decide)] at h'
        exact hK.1 [] 20 77 _ _ _ _ _ ⟨fun z => absurd rfl z, fun _ => ⟨Nat.le_refl _, h' M'' hl2⟩⟩
  refine inY_findLives (Nat.le_of_ble_eq_true rfl) (fun K hK => hK.1 [10] 20 0 _ _ _ _ _ (cJ_fill (Or.inl ⟨rfl, rfl⟩) (by omega) (fun M1 z1 => lp K hK 16 0 0 M1 (fun _ => 0) rfl rfl ⟨fun c hc => by rw [z1, mc_set_n hc], fun b hb => ?_⟩ h)))
  rw [z1, mc_set_s, if_pos hb]
end AN
