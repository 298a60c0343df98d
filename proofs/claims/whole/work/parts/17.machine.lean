/-! Machine -/
def mch (M0 M : mc_M) (S : Int32) (e : Nat → Int32) (s : Nat) (b a : Int32) : Prop := (∀ c, c ≠ 23 → c ≠ 24 → M c = M0 c) ∧ M 23 1 = a ∧ M 23 2 = nI s ∧ M 23 3 = b ∧ ∀ v, v < 8 → fl_bit S v = false → M 24 v = e v
theorem fl_ne {f w : Nat} (hf : fl_is f w) {i : Nat} (hi : i ≤ 12) : f + i ≠ 23 ∧ f + i ≠ 24 := by
  rcases hf with ⟨rfl, rfl⟩ | ⟨rfl, rfl⟩ | ⟨rfl, rfl⟩ <;> omega
theorem nt_C_to {M M' : mc_M} {T : Nat → Nat → Int32} {m : Nat} (h : nt_C M T m) (hM : ∀ c, 1 ≤ c → c ≤ 6 → M' c = M c) : nt_C M' T m :=
  ⟨by rw [hM 1 (by omega) (by omega)]; exact h.1, fun i hi k hk => by rw [hM (2 + i) (by omega) (by omega)]; exact h.2 i hi k hk⟩
section MA
variable {g : mc_G} {d n f w : Nat} {M0 M : mc_M} {L : mc_L} {Q : Option Value → mc_M → mc_L → Prop} {T : Nat → Nat → Int32} {m : Nat}
theorem cM_doAssignments (hf : fl_is f w) (hT : nt_ok T m) (hN : nt_C M0 T m) {S : Int32} (hS : M0 f 1 = S) {b j l s : Nat} {B : Blk} {ss : List Nat} (hB : fl_blk T m S M0 f w b B ss j) (hb : b < w) {e : Nat → Int32} {a lim : Int32} (hst : mch M0 M S e s (nI b) a) (hlim : lim = nI l) (hl : l ≤ 5000) (hs : s ≤ l) (hd : 34 ≤ d)
    (h : ∀ M', mch M0 M' S (sp_asg T S l B.2.1 s e).2 (sp_asg T S l B.2.1 s e).1 (nI b) a → Q none M' L) : ctM_doAssignments g d [.ref 23, .ref 1, .ref f, .int lim] n M L Q := by
  obtain ⟨d, rfl⟩ := Nat.exists_eq_add_of_le' (show 1 ≤ d by omega)
  subst hlim
  obtain ⟨-, hc, hc1, hch, hsv, has, -⟩ := hB
  have hw : w ≤ 100 := by rcases hf with ⟨-, rfl⟩ | ⟨-, rfl⟩ | ⟨-, rfl⟩ <;> decide
  have hm150 := hT.1
  have hf' := hf
  have fne := fun {i} hi => fl_ne hf (i := i) hi
  have lp : ∀ (K : mc_K), mc_closed true tab0 n 0 none (shM_doAssignments g d) Q (fun _ _ _ => False) tbM_doAssignments K → ∀ (rs : List Nat) (x i : Int32) (M : mc_M) (s : Nat) (e : Nat → Int32), fl_ch (M0 (f + 11)) (w * 11) x rs → (∀ t ∈ rs, fl_sv M0 f m t) → rs.length ≤ ss.length → i = nI (ss.length - rs.length) → mch M0 M S e s (nI b) a → s ≤ l →
      (∀ M', mch M0 M' S (sp_asg T S l (rs.map (fl_as T S M0 f)) s e).2 (sp_asg T S l (rs.map (fl_as T S M0 f)) s e).1 (nI b) a → Q none M' L) → K 14 [some (.ref 23), some (.ref 1), some (.ref f), some (.int (nI l)), some (.int x), some (.int i)] [] n M L := by
    intro K hK rs
    induction rs with
    | nil =>
      intro x i M s e _ _ _ hi hst hs h
      subst hi
      have hcnt : M (f + 2) (M 23 3).toNatClampNeg = nI ss.length := by
        rw [hst.2.2.2.1, nI_clamp (by omega), hst.1 _ (fne (i := 2) (by decide)).1 (fne (i := 2) (by decide)).2, hc]
      have v1 : vp_in (M 23 3) w := by
        rw [hst.2.2.2.1]
        exact vp_in_nI hb (by omega)
      have c1 : M (f + 2) (M 23 3).toNatClampNeg ≤ nI (ss.length - 0) := by
        rw [hcnt]
        exact nI_le (by omega) (by omega)
      have q := h M hst
      rcases hf with ⟨rfl, rfl⟩ | ⟨rfl, rfl⟩ | ⟨rfl, rfl⟩ <;>
      exact hK.1 [14] 30 14 _ _ _ _ _ ⟨v1, fun _ => ⟨Nat.le_refl _, q⟩, fun z => absurd c1 z⟩
    | cons t rs ih =>
      intro x i M s e hx hsv hlen hi hst hs h
      obtain ⟨rfl, htw, hx'⟩ := hx
      subst hi
      have hlen' : rs.length + 1 ≤ ss.length := hlen
      obtain ⟨⟨v, hv8, hvr⟩, k, hk, hkr⟩ := hsv t List.mem_cons_self
      have hcnt : M (f + 2) (M 23 3).toNatClampNeg = nI ss.length := by
        rw [hst.2.2.2.1, nI_clamp (by omega), hst.1 _ (fne (i := 2) (by decide)).1 (fne (i := 2) (by decide)).2, hc]
      have v1 : vp_in (M 23 3) w := by
        rw [hst.2.2.2.1]
        exact vp_in_nI hb (by omega)
      have v2 : vp_in (nI t) (w * 11) := vp_in_nI htw (by omega)
      have e1 : (nI t).toNatClampNeg = t := nI_clamp (by omega)
      have c1 : ¬ M (f + 2) (M 23 3).toNatClampNeg ≤ nI (ss.length - (rs.length + 1)) := by
        rw [hcnt]
        exact nI_ge (by omega) (by omega)
      have as1 : fl_as T S M0 f t = (v, k, fl_fr T S (M0 (f + 12)) t k) := by
        unfold fl_as
        rw [hvr, hkr, nI_clamp (by omega), nI_clamp (by omega)]
      have q0 : nI l ≤ M 23 2 → Q none M L := fun z => by
        rw [hst.2.2.1] at z
        have z' := (nI_leI (by omega) (by omega)).mp z
        refine h M ?_
        rw [List.map_cons, as1]
        unfold sp_asg
        rw [if_neg (by omega)]
        exact hst
      have sl : ¬ nI l ≤ M 23 2 → s < l := fun z => by
        rw [hst.2.2.1] at z
        exact Nat.lt_of_not_le (fun y => z (nI_le y (by omega)))
      have fact : ∀ M1, M1 = mc_set M 24 (fl_tw (M f 1) (M 24) (M (f + 12)) t 8) → vp_in (M1 (f + 9) (nI t).toNatClampNeg) 8 ∧ M1 (f + 9) (nI t).toNatClampNeg = nI v ∧ M1 (f + 10) (nI t).toNatClampNeg = nI k ∧ nt_C M1 T m ∧ ∀ r, r = nd_val (T 0) (T 1) (T 2) (M1 24) k → ∀ M2, M2 = mc_put M1 24 (M1 (f + 9) (nI t).toNatClampNeg).toNatClampNeg r → M2 (f + 11) (nI t).toNatClampNeg = M0 (f + 11) t ∧ mch M0 (mc_put M2 23 2 (M2 23 2 + 1)) S (upd e v (sp_val T S k (fl_fr T S (M0 (f + 12)) t k) e)) (s + 1) (nI b) a := by
        intro M1 z1
        have r1 : ∀ c, c ≠ 24 → M1 c = M c := fun c hc => by rw [z1, mc_set_n hc]
        have r2 : ∀ c, c ≠ 23 → c ≠ 24 → M1 c = M0 c := fun c h1 h2 => by rw [r1 c h2, hst.1 c h1 h2]
        have a1 : M1 (f + 9) (nI t).toNatClampNeg = nI v := by rw [e1, r2 _ (fne (i := 9) (by decide)).1 (fne (i := 9) (by decide)).2, hvr]
        refine ⟨by rw [a1]; exact vp_in_nI hv8 (by decide), a1, by rw [e1, r2 _ (fne (i := 10) (by decide)).1 (fne (i := 10) (by decide)).2, hkr], nt_C_to hN (fun c h1 h2 => r2 c (by omega) (by omega)), ?_⟩
        intro r zr M2 z2
        have hr : r = sp_val T S k (fl_fr T S (M0 (f + 12)) t k) e := by
          rw [zr, z1, mc_set_s, hst.1 f (fne (i := 0) (by decide)).1 (fne (i := 0) (by decide)).2, hS, hst.1 _ (fne (i := 12) (by decide)).1 (fne (i := 12) (by decide)).2]
          exact sp_val_tw hT k t hst.2.2.2.2
        have p1 : ∀ c, c ≠ 24 → M2 c = M1 c := fun c hc => by
          funext y
          rw [z2, mc_put_at, if_neg (fun q => hc q.1)]
        refine ⟨by rw [e1, p1 _ (fne (i := 11) (by decide)).2, r2 _ (fne (i := 11) (by decide)).1 (fne (i := 11) (by decide)).2], ?_⟩
        have p2 : M2 23 = M 23 := by rw [p1 23 (by decide), r1 23 (by decide)]
        refine ⟨fun c h1 h2 => ?_, ?_, ?_, ?_, ?_⟩
        · funext y
          rw [mc_put_at, if_neg (fun q => h1 q.1), p1 c h2, r2 c h1 h2]
        · rw [mc_put_at, if_neg (by decide), p2, hst.2.1]
        · rw [mc_put_at, if_pos ⟨rfl, rfl⟩, p2, hst.2.2.1, nI_1]
        · rw [mc_put_at, if_neg (by decide), p2, hst.2.2.2.1]
        · intro u hu hS0
          rw [mc_put_at, if_neg (by omega), z2, mc_put_at, a1, nI_clamp (by omega), hr]
          unfold upd
          by_cases huv : u = v
          · rw [if_pos ⟨rfl, huv⟩, if_pos huv]
          · rw [if_neg (fun q => huv q.2), if_neg huv, z1, mc_set_s]
            unfold fl_tw
            rw [hst.1 f (fne (i := 0) (by decide)).1 (fne (i := 0) (by decide)).2, hS, if_neg (fun q => by rw [hS0] at q; cases q.2)]
            exact hst.2.2.2.2 u hu hS0
      have ih' : ∀ M1, M1 = mc_set M 24 (fl_tw (M f 1) (M 24) (M (f + 12)) t 8) → ∀ r, r = nd_val (T 0) (T 1) (T 2) (M1 24) k → ∀ M2, M2 = mc_put M1 24 (M1 (f + 9) (nI t).toNatClampNeg).toNatClampNeg r → s < l → K 14 [some (.ref 23), some (.ref 1), some (.ref f), some (.int (nI l)), some (.int (M2 (f + 11) (nI t).toNatClampNeg)), some (.int (nI (ss.length - (rs.length + 1)) + 1))] [] n (mc_put M2 23 2 (M2 23 2 + 1)) L := fun M1 z1 r zr M2 z2 hsl => by
        obtain ⟨-, -, -, -, f5⟩ := fact M1 z1
        obtain ⟨f6, f7⟩ := f5 r zr M2 z2
        refine ih _ _ _ (s + 1) _ (by rw [f6]; exact hx') (fun t ht => hsv t (List.mem_cons_of_mem _ ht)) (by omega) (by rw [nI_1]; congr 1; omega) f7 (by omega) (fun M' hM' => h M' ?_)
        rw [List.map_cons, as1]
        unfold sp_asg
        rw [if_pos hsl]
        exact hM'
      rcases hf with ⟨rfl, rfl⟩ | ⟨rfl, rfl⟩ | ⟨rfl, rfl⟩ <;>
      exact hK.1 [14] 60 14 _ _ _ _ _ ⟨v1, fun z => absurd z c1, fun _ => ⟨fun z => ⟨Nat.le_refl _, q0 z⟩, fun z => cF_thaw hf' (by omega) (Or.inl rfl) rfl htw (fun M1 z1 => ⟨v2, v2, cN_value hT (fact M1 z1).2.2.2.1 (Or.inl rfl) (fact M1 z1).2.2.1 hk (by omega) (fun r zr => ⟨(fact M1 z1).1, v2, ih' M1 z1 r zr _ rfl (sl z)⟩)⟩)⟩⟩
  have v1 : vp_in (M 23 3) w := by
    rw [hst.2.2.2.1]
    exact vp_in_nI hb (by omega)
  have hx0 : M (f + 3) (M 23 3).toNatClampNeg = M0 (f + 3) b := by
    rw [hst.2.2.2.1, nI_clamp (by omega), hst.1 _ (fne (i := 3) (by decide)).1 (fne (i := 3) (by decide)).2]
  rw [has] at h
  have lp' := fun K hK => lp K hK ss (M (f + 3) (M 23 3).toNatClampNeg) 0 M s e (by rw [hx0]; exact hch) hsv (Nat.le_refl _) (by rw [Nat.sub_self]; rfl) hst hs h
  rcases hf with ⟨rfl, rfl⟩ | ⟨rfl, rfl⟩ | ⟨rfl, rfl⟩ <;>
  exact inM_doAssignments (Nat.le_of_ble_eq_true rfl) (fun K hK => hK.1 [14] 20 0 _ _ _ _ _ ⟨v1, lp' K hK⟩)
theorem cM_doJump (hf : fl_is f w) (hT : nt_ok T m) (hN : nt_C M0 T m) {S : Int32} (hS : M0 f 1 = S) {b j s : Nat} {B : Blk} {ss : List Nat} (hB : fl_blk T m S M0 f w b B ss j) (hb : b < w) {e : Nat → Int32} {a : Int32} (hst : mch M0 M S e s (nI b) a) (hd : 34 ≤ d)
    (h2 : B.2.2.1 = 2 → ∀ M', mch M0 M' S e s (nI b) (sp_val T S B.2.2.2.1.1 B.2.2.2.1.2 e) → Q (some (.int 1)) M' L) (h1 : ¬ B.2.2.1 = 2 → ∀ M', mch M0 M' S e s (if B.2.2.1 = 0 ∨ ¬ sp_val T S B.2.2.2.1.1 B.2.2.2.1.2 e = 0 then B.2.2.2.2.1 else B.2.2.2.2.2) a → Q (some (.int 0)) M' L) : ctM_doJump g d [.ref 23, .ref 1, .ref f] n M L Q := by
  obtain ⟨d, rfl⟩ := Nat.exists_eq_add_of_le' (show 1 ≤ d by omega)
  obtain ⟨-, -, -, -, -, -, hj, hjw, hq, ⟨k, hk, hkr, hjn⟩, hone, hoth⟩ := hB
  have hw : w ≤ 100 := by rcases hf with ⟨-, rfl⟩ | ⟨-, rfl⟩ | ⟨-, rfl⟩ <;> decide
  have hm150 := hT.1
  have hf' := hf
  have fne := fun {i} hi => fl_ne hf (i := i) hi
  have v1 : vp_in (M 23 3) w := by
    rw [hst.2.2.2.1]
    exact vp_in_nI hb (by omega)
  have j1 : M (f + 5) b = nI j := by rw [hst.1 _ (fne (i := 5) (by decide)).1 (fne (i := 5) (by decide)).2, hj]
  have j2 : M (f + 5) (M 23 3).toNatClampNeg = nI j := by rw [hst.2.2.2.1, nI_clamp (by omega), j1]
  have e2 : (nI (j * 11 + 10)).toNatClampNeg = j * 11 + 10 := nI_clamp (by omega)
  have fact : ∀ M1, M1 = mc_set M 24 (fl_tw (M f 1) (M 24) (M (f + 12)) (j * 11 + 10) 8) → nt_C M1 T m ∧ (∀ st, st = nI (j * 11 + 10) → vp_in st (w * 11) ∧ M1 (f + 10) st.toNatClampNeg = nI k) ∧ vp_in (M (f + 5) (M 23 3).toNatClampNeg) w ∧ M1 (f + 6) (M (f + 5) (M 23 3).toNatClampNeg).toNatClampNeg = B.2.2.1 ∧ M1 (f + 7) (M (f + 5) (M 23 3).toNatClampNeg).toNatClampNeg = B.2.2.2.2.1 ∧ M1 (f + 8) (M (f + 5) (M 23 3).toNatClampNeg).toNatClampNeg = B.2.2.2.2.2 ∧ mch M0 M1 S e s (nI b) a ∧ ∀ r, r = nd_val (T 0) (T 1) (T 2) (M1 24) k → r = sp_val T S B.2.2.2.1.1 B.2.2.2.1.2 e := by
    intro M1 z1
    have r1 : ∀ c, c ≠ 24 → M1 c = M c := fun c hc => by rw [z1, mc_set_n hc]
    have r2 : ∀ c, c ≠ 23 → c ≠ 24 → M1 c = M0 c := fun c h1 h2 => by rw [r1 c h2, hst.1 c h1 h2]
    refine ⟨nt_C_to hN (fun c h1 h2 => r2 c (by omega) (by omega)), fun st hst2 => ⟨by rw [hst2]; exact vp_in_nI (by omega) (by omega), by rw [hst2, e2, r2 _ (fne (i := 10) (by decide)).1 (fne (i := 10) (by decide)).2, hkr]⟩, by rw [j2]; exact vp_in_nI hjw (by omega), ?_, ?_, ?_, ⟨r2, ?_, ?_, ?_, ?_⟩, ?_⟩
    · rw [j2, nI_clamp (by omega), r2 _ (fne (i := 6) (by decide)).1 (fne (i := 6) (by decide)).2, hq]
    · rw [j2, nI_clamp (by omega), r2 _ (fne (i := 7) (by decide)).1 (fne (i := 7) (by decide)).2, hone]
    · rw [j2, nI_clamp (by omega), r2 _ (fne (i := 8) (by decide)).1 (fne (i := 8) (by decide)).2, hoth]
    · rw [r1 23 (by decide), hst.2.1]
    · rw [r1 23 (by decide), hst.2.2.1]
    · rw [r1 23 (by decide), hst.2.2.2.1]
    · intro u hu hS0
      rw [z1, mc_set_s]
      unfold fl_tw
      rw [hst.1 f (fne (i := 0) (by decide)).1 (fne (i := 0) (by decide)).2, hS, if_neg (fun q => by rw [hS0] at q; cases q.2)]
      exact hst.2.2.2.2 u hu hS0
    · intro r zr
      rw [zr, z1, mc_set_s, hst.1 f (fne (i := 0) (by decide)).1 (fne (i := 0) (by decide)).2, hS, hst.1 _ (fne (i := 12) (by decide)).1 (fne (i := 12) (by decide)).2, hjn]
      exact sp_val_tw hT k _ hst.2.2.2.2
  have p2 : ∀ M1, M1 = mc_set M 24 (fl_tw (M f 1) (M 24) (M (f + 12)) (j * 11 + 10) 8) → ∀ r, r = nd_val (T 0) (T 1) (T 2) (M1 24) k → M1 (f + 6) (M (f + 5) (M 23 3).toNatClampNeg).toNatClampNeg = 2 → Q (some (.int 1)) (mc_put M1 23 1 r) L := fun M1 z1 r zr z => by
    obtain ⟨-, -, -, f4, -, -, f7, f8⟩ := fact M1 z1
    refine h2 (f4.symm.trans z) _ ⟨fun c h1 h2 => ?_, ?_, ?_, ?_, ?_⟩
    · funext y
      rw [mc_put_at, if_neg (fun q => h1 q.1), f7.1 c h1 h2]
    · rw [mc_put_at, if_pos ⟨rfl, rfl⟩, f8 r zr]
    · rw [mc_put_at, if_neg (by decide), f7.2.2.1]
    · rw [mc_put_at, if_neg (by decide), f7.2.2.2.1]
    · intro u hu hS0
      rw [mc_put_at, if_neg (by omega), f7.2.2.2.2 u hu hS0]
  have p1 : ∀ M1, M1 = mc_set M 24 (fl_tw (M f 1) (M 24) (M (f + 12)) (j * 11 + 10) 8) → ∀ r, r = nd_val (T 0) (T 1) (T 2) (M1 24) k → ¬ M1 (f + 6) (M (f + 5) (M 23 3).toNatClampNeg).toNatClampNeg = 2 → (∀ t, t = (if M1 (f + 6) (M (f + 5) (M 23 3).toNatClampNeg).toNatClampNeg = 0 ∨ ¬ r = 0 then M1 (f + 7) (M (f + 5) (M 23 3).toNatClampNeg).toNatClampNeg else M1 (f + 8) (M (f + 5) (M 23 3).toNatClampNeg).toNatClampNeg) → Q (some (.int 0)) (mc_put M1 23 3 t) L) := fun M1 z1 r zr z t ht => by
    obtain ⟨-, -, -, f4, f5, f6, f7, f8⟩ := fact M1 z1
    rw [f4, f5, f6, f8 r zr] at ht
    refine h1 (fun y => z (f4.trans y)) _ ⟨fun c h1 h2 => ?_, ?_, ?_, ?_, ?_⟩
    · funext y
      rw [mc_put_at, if_neg (fun q => h1 q.1), f7.1 c h1 h2]
    · rw [mc_put_at, if_neg (by decide), f7.2.1]
    · rw [mc_put_at, if_neg (by decide), f7.2.2.1]
    · rw [mc_put_at, if_pos ⟨rfl, rfl⟩, ht]
    · intro u hu hS0
      rw [mc_put_at, if_neg (by omega), f7.2.2.2.2 u hu hS0]
  have b3 := hst.2.2.2.1
  rcases hf with ⟨rfl, rfl⟩ | ⟨rfl, rfl⟩ | ⟨rfl, rfl⟩ <;>
  exact inM_doJump (Nat.le_of_ble_eq_true rfl) (fun K hK => hK.1 [] 80 0 _ _ _ _ _ ⟨v1, cF_jumpStep hf' (by omega) b3 hb j1 (fun st hst2 => cF_thaw hf' (by omega) (Or.inl rfl) hst2 (by omega) (fun M1 z1 => ⟨((fact M1 z1).2.1 st hst2).1, cN_value hT (fact M1 z1).1 (Or.inl rfl) ((fact M1 z1).2.1 st hst2).2 hk (by omega) (fun r zr => ⟨(fact M1 z1).2.2.1, fun z => ⟨(fact M1 z1).2.2.1, fun z0 => ⟨(fact M1 z1).2.2.1, Or.inl rfl, Nat.le_refl _, p1 M1 z1 r zr z _ (if_pos (Or.inl z0)).symm⟩, fun z0 => ⟨fun zr0 => ⟨(fact M1 z1).2.2.1, Or.inl rfl, Nat.le_refl _, p1 M1 z1 r zr z _ (if_neg (fun y => y.elim z0 (fun y => y zr0))).symm⟩, fun zr0 => ⟨(fact M1 z1).2.2.1, Or.inl rfl, Nat.le_refl _, p1 M1 z1 r zr z _ (if_pos (Or.inr zr0)).symm⟩⟩⟩, fun z => ⟨Or.inr rfl, Nat.le_refl _, p2 M1 z1 r zr z⟩⟩)⟩))⟩)
def tg_ok (P : Nat → Blk) (nb : Nat) : Prop := ∀ b, b < nb → (P b).2.2.1 = 2 ∨ ((∃ t, t < nb ∧ (P b).2.2.2.2.1 = nI t) ∧ ((P b).2.2.1 = 0 ∨ ∃ t, t < nb ∧ (P b).2.2.2.2.2 = nI t))
theorem sp_asg_le {S : Int32} {l : Nat} : ∀ (as : List Asg) {s : Nat} {e : Nat → Int32}, s ≤ l → (sp_asg T S l as s e).1 ≤ l
  | [], s, e, h => h
  | (v, k, fr) :: r, s, e, h => by
    unfold sp_asg
    split
    · exact sp_asg_le r (by omega)
    · exact h
def tr_end (M0 : mc_M) (r : Bool × Int32 × Nat × Nat) (M : mc_M) : Prop := (∀ c, c ≠ 23 → c ≠ 24 → M c = M0 c) ∧ M 23 1 = r.2.1 ∧ M 23 2 = nI r.2.2.1 ∧ M 23 3 = nI r.2.2.2
theorem cM_travel (hf : fl_is f w) (hT : nt_ok T m) (hN : nt_C M T m) {S : Int32} (hS : M f 1 = S) {nb l : Nat} {P : Nat → Blk} (hP : ∀ b, b < nb → ∃ ss j, fl_blk T m S M f w b (P b) ss j) (hnb : 0 < nb) (hnw : nb ≤ w) (htg : tg_ok P nb) {lim : Int32} (hlim : lim = nI l) (hl : l ≤ 5000) (hd : 35 ≤ d)
    (h1 : (sp_trav T S P l l 0 0 (M 20)).1 = true → ∀ M', tr_end M (sp_trav T S P l l 0 0 (M 20)) M' → Q (some (.int 1)) M' L) (h0 : (sp_trav T S P l l 0 0 (M 20)).1 = false → ∀ M', tr_end M (sp_trav T S P l l 0 0 (M 20)) M' → Q (some (.int 0)) M' L) : ctM_travel g d [.ref 23, .ref 1, .ref f, .ref 20, .int lim] n M L Q := by
  obtain ⟨d, rfl⟩ := Nat.exists_eq_add_of_le' (show 1 ≤ d by omega)
  subst hlim
  have hw : w ≤ 100 := by rcases hf with ⟨-, rfl⟩ | ⟨-, rfl⟩ | ⟨-, rfl⟩ <;> decide
  have hf' := hf
  have lp : ∀ (K : mc_K), mc_closed true tab0 n 0 (some .boolean) (shM_travel g d) Q (fun _ _ _ => False) tbM_travel K → ∀ (fu vi : Nat) (i : Int32) (M1 : mc_M) (b s : Nat) (e : Nat → Int32), fu + vi = l → i = nI vi → mch M M1 S e s (nI b) 0 → b < nb → s ≤ l →
      ((sp_trav T S P l fu b s e).1 = true → ∀ M', tr_end M (sp_trav T S P l fu b s e) M' → Q (some (.int 1)) M' L) → ((sp_trav T S P l fu b s e).1 = false → ∀ M', tr_end M (sp_trav T S P l fu b s e) M' → Q (some (.int 0)) M' L) →
      K 30 [some (.ref 23), some (.ref 1), some (.ref f), some (.ref 20), some (.int (nI l)), some (.int i)] [] n M1 L := by
    intro K hK fu
    induction fu with
    | zero =>
      intro vi i M1 b s e hv hi hst hb hs h1 h0
      subst hi
      have q := h0 rfl M1 ⟨hst.1, hst.2.1, hst.2.2.1, hst.2.2.2.1⟩
      have c1 : nI l ≤ nI vi := nI_le (by omega) (by omega)
      rcases hf with ⟨rfl, rfl⟩ | ⟨rfl, rfl⟩ | ⟨rfl, rfl⟩ <;>
      exact hK.1 [30] 30 30 _ _ _ _ _ ⟨fun _ => ⟨Or.inl rfl, Nat.le_refl _, q⟩, fun z => absurd c1 z⟩
    | succ fu ih =>
      intro vi i M1 b s e hv hi hst hb hs h1 h0
      subst hi
      obtain ⟨ss, j, hB⟩ := hP b hb
      have c1 : ¬ nI l ≤ nI vi := nI_ge (by omega) (by omega)
      have al := sp_asg_le (T := T) (S := S) (P b).2.1 (e := e) hs
      have ex : ∀ M2, mch M M2 S (sp_asg T S l (P b).2.1 s e).2 (sp_asg T S l (P b).2.1 s e).1 (nI b) 0 → ¬ M2 23 2 < nI l → Q (some (.int 0)) M2 L := fun M2 h2 z => by
        have z' : ¬ (sp_asg T S l (P b).2.1 s e).1 < l := fun y => z (by rw [h2.2.2.1]; exact nI_lt y (by omega))
        have q : sp_trav T S P l (fu + 1) b s e = (false, 0, (sp_asg T S l (P b).2.1 s e).1, b) := by
          unfold sp_trav
          simp only
          rw [if_neg z']
        rw [q] at h0
        exact h0 rfl M2 ⟨h2.1, h2.2.1, h2.2.2.1, h2.2.2.2.1⟩
      have lt : ∀ M2, mch M M2 S (sp_asg T S l (P b).2.1 s e).2 (sp_asg T S l (P b).2.1 s e).1 (nI b) 0 → M2 23 2 < nI l → (sp_asg T S l (P b).2.1 s e).1 < l := fun M2 h2 z => by
        rw [h2.2.2.1] at z
        exact (nI_ltI (by omega) (by omega)).mp z
      have stp : ∀ M2, mch M M2 S (sp_asg T S l (P b).2.1 s e).2 (sp_asg T S l (P b).2.1 s e).1 (nI b) 0 → mch M (mc_put M2 23 2 (M2 23 2 + 1)) S (sp_asg T S l (P b).2.1 s e).2 ((sp_asg T S l (P b).2.1 s e).1 + 1) (nI b) 0 := fun M2 h2 => by
        refine ⟨fun c h3 h4 => ?_, ?_, ?_, ?_, ?_⟩
        · funext y
          rw [mc_put_at, if_neg (fun q => h3 q.1), h2.1 c h3 h4]
        · rw [mc_put_at, if_neg (by decide), h2.2.1]
        · rw [mc_put_at, if_pos ⟨rfl, rfl⟩, h2.2.2.1, nI_1]
        · rw [mc_put_at, if_neg (by decide), h2.2.2.2.1]
        · intro u hu hS0
          rw [mc_put_at, if_neg (by omega), h2.2.2.2.2 u hu hS0]
      have e2 : (sp_asg T S l (P b).2.1 s e).1 < l → (P b).2.2.1 = 2 → ∀ M3, mch M M3 S (sp_asg T S l (P b).2.1 s e).2 ((sp_asg T S l (P b).2.1 s e).1 + 1) (nI b) (sp_val T S (P b).2.2.2.1.1 (P b).2.2.2.1.2 (sp_asg T S l (P b).2.1 s e).2) → Q (some (.int 1)) M3 L := fun z1 z2 M3 h3 => by
        have q : sp_trav T S P l (fu + 1) b s e = (true, sp_val T S (P b).2.2.2.1.1 (P b).2.2.2.1.2 (sp_asg T S l (P b).2.1 s e).2, (sp_asg T S l (P b).2.1 s e).1 + 1, b) := by
          conv => lhs; unfold sp_trav
          simp only
          rw [if_pos z1, if_pos z2]
        rw [q] at h1
        exact h1 rfl M3 ⟨h3.1, h3.2.1, h3.2.2.1, h3.2.2.2.1⟩
      have e1 : (sp_asg T S l (P b).2.1 s e).1 < l → ¬ (P b).2.2.1 = 2 → ∀ M3, mch M M3 S (sp_asg T S l (P b).2.1 s e).2 ((sp_asg T S l (P b).2.1 s e).1 + 1) (if (P b).2.2.1 = 0 ∨ ¬ sp_val T S (P b).2.2.2.1.1 (P b).2.2.2.1.2 (sp_asg T S l (P b).2.1 s e).2 = 0 then (P b).2.2.2.2.1 else (P b).2.2.2.2.2) 0 → K 30 [some (.ref 23), some (.ref 1), some (.ref f), some (.ref 20), some (.int (nI l)), some (.int (nI vi + 1))] [] n M3 L := fun z1 z2 M3 h3 => by
        have q : sp_trav T S P l (fu + 1) b s e = sp_trav T S P l fu (if (P b).2.2.1 = 0 ∨ ¬ sp_val T S (P b).2.2.2.1.1 (P b).2.2.2.1.2 (sp_asg T S l (P b).2.1 s e).2 = 0 then (P b).2.2.2.2.1 else (P b).2.2.2.2.2).toNatClampNeg ((sp_asg T S l (P b).2.1 s e).1 + 1) (sp_asg T S l (P b).2.1 s e).2 := by
          conv => lhs; unfold sp_trav
          simp only
          rw [if_pos z1, if_neg z2]
        rw [q] at h1 h0
        have ht : ∃ t, t < nb ∧ (if (P b).2.2.1 = 0 ∨ ¬ sp_val T S (P b).2.2.2.1.1 (P b).2.2.2.1.2 (sp_asg T S l (P b).2.1 s e).2 = 0 then (P b).2.2.2.2.1 else (P b).2.2.2.2.2) = nI t := by
          rcases htg b hb with y | ⟨⟨t, y1, y2⟩, y3⟩
          · exact absurd y z2
          · split
            · exact ⟨t, y1, y2⟩
            · next y4 =>
              rcases y3 with y3 | y3
              · exact absurd (Or.inl y3) y4
              · exact y3
        obtain ⟨t, ht1, ht2⟩ := ht
        rw [ht2, nI_clamp (by omega)] at h1 h0
        rw [ht2] at h3
        exact ih (vi + 1) _ M3 t _ _ (by omega) (nI_1 vi) h3 ht1 (by omega) h1 h0
      rcases hf with ⟨rfl, rfl⟩ | ⟨rfl, rfl⟩ | ⟨rfl, rfl⟩ <;>
      exact hK.1 [30] 60 30 _ _ _ _ _ ⟨fun z => absurd z c1, fun _ => cM_doAssignments hf' hT hN hS hB (by omega) hst rfl hl hs (by omega) (fun M2 h2 => ⟨fun z => cM_doJump hf' hT hN hS hB (by omega) (stp M2 h2) (by omega) (fun z2 M3 h3 => ⟨fun y => absurd y (by decide), fun _ => ⟨Or.inr rfl, Nat.le_refl _, e2 (lt M2 h2 z) z2 M3 h3⟩⟩) (fun z2 M3 h3 => ⟨fun _ => e1 (lt M2 h2 z) z2 M3 h3, fun y => absurd rfl y⟩), fun z => ⟨Or.inl rfl, Nat.le_refl _, ex M2 h2 z⟩⟩)⟩
  have st0 : mch M (mc_put (mc_put (mc_put (mc_set M 24 (va_cpy (M 20) (M 24) (0 : Int32).toNatClampNeg (0 : Int32).toNatClampNeg (8 : Int32).toNatClampNeg)) 23 1 0) 23 2 0) 23 3 0) S (M 20) 0 (nI 0) 0 := by
    refine ⟨fun c h3 h4 => ?_, ?_, ?_, ?_, ?_⟩
    · funext y
      rw [mc_put_at, if_neg (fun q => h3 q.1), mc_put_at, if_neg (fun q => h3 q.1), mc_put_at, if_neg (fun q => h3 q.1), mc_set_n h4]
    · rw [mc_put_at, if_neg (by decide), mc_put_at, if_neg (by decide), mc_put_at, if_pos ⟨rfl, rfl⟩]
    · rw [mc_put_at, if_neg (by decide), mc_put_at, if_pos ⟨rfl, rfl⟩]
      rfl
    · rw [mc_put_at, if_pos ⟨rfl, rfl⟩]
      rfl
    · intro u hu _
      rw [mc_put_at, if_neg (by omega), mc_put_at, if_neg (by omega), mc_put_at, if_neg (by omega), mc_set_s]
      show (if 0 ≤ u ∧ u < 0 + 8 then M 20 (0 + (u - 0)) else _) = _
      rw [if_pos (by omega)]
      congr 1
      omega
  have lp' := fun K hK => lp K hK l 0 0 _ 0 0 (M 20) rfl rfl st0 hnb (by omega) h1 h0
  rcases hf with ⟨rfl, rfl⟩ | ⟨rfl, rfl⟩ | ⟨rfl, rfl⟩ <;>
  exact inM_travel (Nat.le_of_ble_eq_true rfl) (fun K hK => hK.1 [30] 40 0 _ _ _ _ _ ⟨by decide, by decide, by decide, by decide, by decide, lp' K hK⟩)
end MA
