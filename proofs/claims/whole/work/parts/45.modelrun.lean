/-! The model's run -/
def sp_mid (T : Nat → Nat → Int32) (S : Int32) (P : Nat → Blk) (lim f b : Nat) (rest : List Asg) (s : Nat) (e : Nat → Int32) : Bool × Int32 × Nat × Nat :=
  let r := sp_asg T S lim rest s e
  if r.1 < lim then
    let x := sp_val T S (P b).2.2.2.1.1 (P b).2.2.2.1.2 r.2
    if (P b).2.2.1 = 2 then (true, x, r.1 + 1, b)
    else sp_trav T S P lim f (if (P b).2.2.1 = 0 ∨ ¬ x = 0 then (P b).2.2.2.2.1 else (P b).2.2.2.2.2).toNatClampNeg (r.1 + 1) r.2
  else (false, 0, r.1, b)
theorem sp_mid_out {T : Nat → Nat → Int32} {S : Int32} {P : Nat → Blk} {lim f b s : Nat} {e : Nat → Int32} (h : ¬ s < lim) : ∀ rest, sp_mid T S P lim f b rest s e = (false, 0, s, b)
  | [] => by
    unfold sp_mid sp_asg
    exact if_neg h
  | (v, k, fr) :: r => by
    unfold sp_mid sp_asg
    rw [if_neg h]
    exact if_neg h
theorem sp_mid_cons {T : Nat → Nat → Int32} {S : Int32} {P : Nat → Blk} {lim f b s : Nat} {e : Nat → Int32} (h : s < lim) (v k : Nat) (fr : Nat → Int32) (r : List Asg) : sp_mid T S P lim f b ((v, k, fr) :: r) s e = sp_mid T S P lim f b r (s + 1) (upd e v (sp_val T S k fr e)) := by
  conv => lhs; unfold sp_mid sp_asg
  rw [if_pos h]
  rfl
theorem sp_mid_nil {T : Nat → Nat → Int32} {S : Int32} {P : Nat → Blk} {lim f b s : Nat} {e : Nat → Int32} (h : s < lim) : sp_mid T S P lim f b [] s e = if (P b).2.2.1 = 2 then (true, sp_val T S (P b).2.2.2.1.1 (P b).2.2.2.1.2 e, s + 1, b) else sp_trav T S P lim f (if (P b).2.2.1 = 0 ∨ ¬ sp_val T S (P b).2.2.2.1.1 (P b).2.2.2.1.2 e = 0 then (P b).2.2.2.2.1 else (P b).2.2.2.2.2).toNatClampNeg (s + 1) e := by
  unfold sp_mid sp_asg
  exact if_pos h
def trR (M0 : mc_M) (r : Bool × Int32 × Nat × Nat) (M : mc_M) : Prop := (∀ c, c ≠ 64 → c ≠ 78 → c ≠ 79 → M c = M0 c) ∧ M 64 39 = r.2.1 ∧ M 64 40 = nI r.2.2.1 ∧ M 64 41 = nI r.2.2.2 ∧ M 64 0 = 0 ∧ ∀ i, i ≠ 0 → i ≠ 39 → i ≠ 40 → i ≠ 41 → M 64 i = M0 64 i
section RR
variable {g : mc_G} {d n : Nat} {M : mc_M} {L : mc_L} {Q : Option Value → mc_M → mc_L → Prop} {T : Nat → Nat → Int32} {m : Nat} {P : Nat → Blk}
theorem cR_worthJ (hT : nt_ok T m) (hN : nt_R M T m) {x : Int32} {k : Nat} (hj : jnR m x k) {E : Nat → Int32} (hE : ∀ v, v < 8 → fl_bit (T 4 k) v = true → M 78 v = E v) (hd : 1 ≤ d) (h : ∀ r M', (∀ c, c ≠ 79 → M' c = M c) → r = nd_val (T 0) (T 1) (T 2) E k → Q (some (.int r)) M' L) : ctR_worth g d [.ref 64, .int x] n M L Q := by
  have hm := hT.1
  refine cR_worth hT hN (by
    rcases hj with hj | hj
    · exact Or.inl hj.1
    · exact Or.inr ⟨k, hj.1, hj.2⟩) hd (fun z => h _ M (fun _ _ => rfl) ?_) (fun k' hk z M' h1 _ => h _ M' h1 ?_)
  · rcases hj with hj | hj
    · rw [hj.2, nd_val_0 (hT.2.2 0 150 (by omega)), hT.2.2 1 150 (by omega)]
    · rw [hj.2] at z
      exact absurd z (nI_ne_m1 (by omega))
  · rcases hj with hj | hj
    · rw [hj.1] at z
      exact absurd z.symm (nI_ne_m1 (by omega))
    · rw [hj.2] at z
      have e := (nI_eq (by omega) (by omega)).mp z
      subst e
      exact nd_val_env hT k hE
def trI (M0 M : mc_M) (e : Nat → Int32) (s b : Nat) : Prop := (∀ c, c ≠ 64 → c ≠ 78 → c ≠ 79 → M c = M0 c) ∧ M 64 39 = 0 ∧ M 64 40 = nI s ∧ M 64 41 = nI b ∧ M 64 0 = 0 ∧ (∀ i, i ≠ 0 → i ≠ 39 → i ≠ 40 → i ≠ 41 → M 64 i = M0 64 i) ∧ ∀ v, v < 8 → M 78 v = e v
theorem sp_val_0 (hT : nt_ok T m) {k : Nat} {fr e : Nat → Int32} : sp_val T 0 k fr e = nd_val (T 0) (T 1) (T 2) e k := by
  unfold sp_val
  refine nd_val_env hT k (fun v _ _ => ?_)
  rw [fl_bit_0]
  exact if_neg (by decide)
theorem cR_run (hT : nt_ok T m) (hN : nt_R M T m) (hP : pgR M m P) (hJ : pjR M m P) {e : Nat → Int32} (he : ∀ v, v < 8 → M 77 v = e v) {x : Int32} (hd : 2 ≤ d) (h1 : ¬ (0 ≤ x ∧ x ≤ 5000) → ∀ M', M' = mc_put M 64 0 1 → Q (some (.int 0)) M' L)
    (h0 : ∀ l, l ≤ 5000 → x = nI l → ∀ M', trR M (sp_trav T 0 P l l 0 0 e) M' → Q (some (.int (bI (sp_trav T 0 P l l 0 0 e).1))) M' L) : ctR_run g d [.ref 64, .int x] n M L Q := by
  obtain ⟨d, rfl⟩ := Nat.exists_eq_add_of_le' (show 1 ≤ d by omega)
  have hm150 := hT.1
  have lp : ∀ (K : mc_K), mc_closed true tab0 n 0 (some .boolean) (shR_run g d) Q (fun _ _ _ => False) tbR_run K → ∀ l, l ≤ 5000 → x = nI l → ∀ (r s f b : Nat) (e : Nat → Int32) (a : Nat) (i : Int32) (M1 : mc_M), r + s = l → l ≤ f + 1 + s → b < 16 → a ≤ (P b).2.1.length → i = nI a → trI M M1 e s b → (∀ M', trR M (sp_mid T 0 P l f b ((P b).2.1.drop a) s e) M' → Q (some (.int (bI (sp_mid T 0 P l f b ((P b).2.1.drop a) s e).1))) M' L) → K 24 [some (.ref 64), some (.int x), some (.int i), none] [] n M1 L := by
    intro K hK l hl hx r
    induction r with
    | zero =>
      intro s f b e a i M1 hr hf hb ha hi hI h
      have hs : s = l := by omega
      subst hs
      rw [sp_mid_out (by omega)] at h
      obtain ⟨i1, i2, i3, i4, i5, i6, -⟩ := hI
      have c1 : x ≤ M1 64 40 := by rw [hx, i3]; exact nI_le (Nat.le_refl _) (by omega)
      exact hK.1 [] 20 24 _ _ _ _ _ ⟨fun _ => ⟨Or.inl rfl, Nat.le_refl _, h M1 ⟨i1, i2, i3, i4, i5, i6⟩⟩, fun z => absurd c1 z⟩
    | succ r ih =>
      intro s f b e a i M1 hr hf hb ha hi hI h
      have hI' := hI
      obtain ⟨i1, i2, i3, i4, i5, i6, i7⟩ := hI
      have c1 : ¬ x ≤ M1 64 40 := by rw [hx, i3]; exact nI_ge (by omega) (by omega)
      obtain ⟨p1, p2, p3⟩ := hP b hb
      obtain ⟨q0, q1, q2, q3⟩ := hJ b hb
      have eb : (M1 64 41).toNatClampNeg = b := by rw [i4]; exact nI_clamp (by omega)
      have vb : vp_in (M1 64 41) 16 := by rw [i4]; exact vp_in_nI hb (by decide)
      have hI2 : trI M (mc_put M1 64 40 (M1 64 40 + 1)) e (s + 1) b := by
        refine ⟨fun c h1 h2 h3 => ?_, ?_, ?_, ?_, ?_, fun j h1 h2 h3 h4 => ?_, fun v hv => ?_⟩
        · funext w; rw [mc_put_at, if_neg (fun z => h1 z.1), i1 c h1 h2 h3]
        · rw [mc_put_at, if_neg (by omega), i2]
        · rw [mc_put_at, if_pos ⟨rfl, rfl⟩, i3, nI_1]
        · rw [mc_put_at, if_neg (by omega), i4]
        · rw [mc_put_at, if_neg (by omega), i5]
        · rw [mc_put_at, if_neg (fun z => h3 z.2), i6 j h1 h2 h3 h4]
        · rw [mc_put_at, if_neg (by omega), i7 v hv]
      have hN2 : nt_R (mc_put M1 64 40 (M1 64 40 + 1)) T m := nt_R_to hN (by rw [hI2.2.2.2.2.2.1 1 (by decide) (by decide) (by decide) (by decide)]) (fun c h1 h2 => hI2.1 c (by omega) (by omega) (by omega))
      have m70 : M1 70 (M1 64 41).toNatClampNeg = nI (P b).2.1.length := by rw [eb, i1 70 (by decide) (by decide) (by decide), p1]
      subst hi
      by_cases hal : a < (P b).2.1.length
      · obtain ⟨v, k, hv, hk, hlk, m71, m72⟩ := p3 a hal
        have hil := (List.getElem?_eq_some_iff.mp hlk).1
        have hdr : (P b).2.1.drop a = (v, k, fun _ => 0) :: (P b).2.1.drop (a + 1) := by rw [List.drop_eq_getElem_cons hil, (List.getElem?_eq_some_iff.mp hlk).2]
        rw [hdr, sp_mid_cons (by omega)] at h
        have c2 : ¬ M1 70 (M1 64 41).toNatClampNeg ≤ nI a := by rw [m70]; exact nI_ge hal (by omega)
        have ei : 10 * M1 64 41 + nI a = nI (b * 10 + a) := by rw [i4, show (10 : Int32) = nI 10 from rfl, nI_mul, nI_add, Nat.mul_comm]
        have vi : vp_in (10 * M1 64 41 + nI a) 160 := by rw [ei]; exact vp_in_nI (by omega) (by decide)
        have e71 : M1 71 (10 * M1 64 41 + nI a).toNatClampNeg = nI v := by rw [ei, nI_clamp (by omega), i1 71 (by decide) (by decide) (by decide), m71]
        have e72 : M1 72 (10 * M1 64 41 + nI a).toNatClampNeg = nI k := by rw [ei, nI_clamp (by omega), i1 72 (by decide) (by decide) (by decide), m72]
        have vv : vp_in (M1 71 (10 * M1 64 41 + nI a).toNatClampNeg) 8 := by rw [e71]; exact vp_in_nI hv (by decide)
        have go : ∀ r' M', (∀ c, c ≠ 79 → M' c = mc_put M1 64 40 (M1 64 40 + 1) c) → r' = nd_val (T 0) (T 1) (T 2) e k → K 24 [some (.ref 64), some (.int x), some (.int (nI a + 1)), none] [] n (mc_put M' 78 (M1 71 (10 * M1 64 41 + nI a).toNatClampNeg).toNatClampNeg r') L := fun r' M' hM hr' => by
          rw [e71, nI_clamp (by omega)]
          refine ih (s + 1) f b (upd e v (sp_val T 0 k (fun _ => 0) e)) (a + 1) _ _ (by omega) (by omega) hb (by omega) (nI_1 a) ?_ h
          obtain ⟨j1, j2, j3, j4, j5, j6, j7⟩ := hI2
          refine ⟨fun c h1 h2 h3 => ?_, ?_, ?_, ?_, ?_, fun j h1 h2 h3 h4 => ?_, fun u hu => ?_⟩
          · funext w; rw [mc_put_at, if_neg (fun z => h2 z.1), hM c h3, j1 c h1 h2 h3]
          · rw [mc_put_at, if_neg (by omega), hM 64 (by decide), j2]
          · rw [mc_put_at, if_neg (by omega), hM 64 (by decide), j3]
          · rw [mc_put_at, if_neg (by omega), hM 64 (by decide), j4]
          · rw [mc_put_at, if_neg (by omega), hM 64 (by decide), j5]
          · rw [mc_put_at, if_neg (by omega), hM 64 (by decide), j6 j h1 h2 h3 h4]
          · rw [mc_put_at, sp_val_0 hT, hr']
            unfold upd
            by_cases euv : u = v
            · rw [if_pos ⟨rfl, euv⟩, if_pos euv]
            · rw [if_neg (fun z => euv z.2), if_neg euv, hM 78 (by decide), j7 u hu]
        exact hK.1 [24] 60 24 _ _ _ _ _ ⟨fun z => absurd z c1, fun _ => ⟨vb, fun z => absurd z c2, fun _ => ⟨vi, vi, cR_worthJ hT hN2 (Or.inr ⟨hk, e72⟩) (fun v hv _ => hI2.2.2.2.2.2.2 v hv) (by omega) (fun r' M' hM hr' => ⟨vv, go r' M' hM hr'⟩)⟩⟩⟩
      · have ha' : a = (P b).2.1.length := by omega
        have c2 : M1 70 (M1 64 41).toNatClampNeg ≤ nI a := by rw [m70]; exact nI_le (by omega) (by omega)
        rw [List.drop_eq_nil_of_le (by omega), sp_mid_nil (by omega)] at h
        have m73 : M1 73 (M1 64 41).toNatClampNeg = (P b).2.2.1 := by rw [eb, i1 73 (by decide) (by decide) (by decide), q0]
        have m74 : jnR m (M1 74 (M1 64 41).toNatClampNeg) (P b).2.2.2.1.1 := by rw [eb, i1 74 (by decide) (by decide) (by decide)]; exact q1
        have m75 : M1 75 (M1 64 41).toNatClampNeg = M 75 b := by rw [eb, i1 75 (by decide) (by decide) (by decide)]
        have m76 : M1 76 (M1 64 41).toNatClampNeg = M 76 b := by rw [eb, i1 76 (by decide) (by decide) (by decide)]
        rw [sp_val_0 hT] at h
        have hE := fun v hv (_ : fl_bit (T 4 (P b).2.2.2.1.1) v = true) => hI2.2.2.2.2.2.2 v hv
        have go : ∀ (t : Nat) y q M', t < 16 → y = nI t → (∀ c, c ≠ 79 → M' c = mc_put M1 64 40 (M1 64 40 + 1) c) → (∀ M', trR M (sp_trav T 0 P l f t (s + 1) e) M' → Q (some (.int (bI (sp_trav T 0 P l f t (s + 1) e).1))) M' L) → K 24 [some (.ref 64), some (.int x), some (.int 0), q] [] n (mc_put M' 64 41 y) L := fun t y q M' ht hy hM h => by
          refine hK.2 [true, true, true, false] _ _ _ _ _ _ ?_
          obtain ⟨j1, j2, j3, j4, j5, j6, j7⟩ := hI2
          have hI3 : trI M (mc_put M' 64 41 y) e (s + 1) t := by
            refine ⟨fun c h1 h2 h3 => ?_, ?_, ?_, ?_, ?_, fun j h1 h2 h3 h4 => ?_, fun u hu => ?_⟩
            · funext w; rw [mc_put_at, if_neg (fun z => h1 z.1), hM c h3, j1 c h1 h2 h3]
            · rw [mc_put_at, if_neg (by omega), hM 64 (by decide), j2]
            · rw [mc_put_at, if_neg (by omega), hM 64 (by decide), j3]
            · rw [mc_put_at, if_pos ⟨rfl, rfl⟩, hy]
            · rw [mc_put_at, if_neg (by omega), hM 64 (by decide), j5]
            · rw [mc_put_at, if_neg (fun z => h4 z.2), hM 64 (by decide), j6 j h1 h2 h3 h4]
            · rw [mc_put_at, if_neg (by omega), hM 78 (by decide), j7 u hu]
          cases f with
          | zero =>
            refine ih (s + 1) 0 t e 0 0 _ (by omega) (by omega) ht (Nat.zero_le _) rfl hI3 ?_
            rw [sp_mid_out (by omega)]
            exact h
          | succ f => exact ih (s + 1) f t e 0 0 _ (by omega) (by omega) ht (Nat.zero_le _) rfl hI3 (by rw [List.drop_zero]; exact h)
        have e0 : ∀ M', M' = mc_put M1 64 40 (M1 64 40 + 1) → ∀ c, c ≠ 79 → M' c = mc_put M1 64 40 (M1 64 40 + 1) c := fun M' hM c _ => by rw [hM]
        rcases q3 with ⟨k0, k1, ⟨t, ht, k2, k3⟩, k4⟩ | ⟨k0, k1, ⟨t, ht, k2, k3⟩, ⟨u, hu, k4, k5⟩⟩ | ⟨k0, k1, k2⟩
        · rw [k0, if_neg (by decide), if_pos (Or.inl rfl), k2, nI_clamp (by omega)] at h
          have n2 : ¬ M1 73 (M1 64 41).toNatClampNeg = 2 := by rw [m73, k0]; decide
          have n1 : ¬ M1 73 (M1 64 41).toNatClampNeg = 1 := by rw [m73, k0]; decide
          exact hK.1 [24] 80 24 _ _ _ _ _ ⟨fun z => absurd z c1, fun _ => ⟨vb, fun _ => ⟨vb, fun _ => ⟨vb, fun _ => ⟨fun _ => ⟨vb, go t _ _ _ ht (m75.trans k3) (e0 _ rfl) h⟩, fun z => absurd rfl z⟩, fun z => absurd z n1⟩, fun z => absurd z n2⟩, fun z => absurd c2 z⟩⟩
        · have n2 : ¬ M1 73 (M1 64 41).toNatClampNeg = 2 := by rw [m73, k0]; decide
          have y1 : M1 73 (M1 64 41).toNatClampNeg = 1 := by rw [m73, k0]
          rw [k0, if_neg (by decide)] at h
          exact hK.1 [24] 80 24 _ _ _ _ _ ⟨fun z => absurd z c1, fun _ => ⟨vb, fun _ => ⟨vb, fun _ => ⟨vb, fun z => absurd y1 z, fun _ => ⟨vb, cR_worthJ hT hN2 m74 hE (by omega) (fun r' M' hM hr' => ⟨fun z => ⟨fun _ => ⟨by rw [hM 64 (by decide)]; exact vb, go t _ _ M' ht (by rw [hM 75 (by decide), hM 64 (by decide)]; exact m75.trans k3) hM (by rw [hr'] at z; rw [if_pos (Or.inr z), k2, nI_clamp (by omega)] at h; exact h)⟩, fun z => absurd rfl z⟩, fun z => ⟨fun z => absurd z (by decide), fun _ => ⟨by rw [hM 64 (by decide)]; exact vb, go u _ _ M' hu (by rw [hM 76 (by decide), hM 64 (by decide)]; exact m76.trans k5) hM (by rw [hr'] at z; rw [if_neg (fun w => by rcases w with w | w; exact absurd w (by decide); exact w z), k4, nI_clamp (by omega)] at h; exact h)⟩⟩⟩)⟩⟩, fun z => absurd z n2⟩, fun z => absurd c2 z⟩⟩
        · have y2 : M1 73 (M1 64 41).toNatClampNeg = 2 := by rw [m73, k0]
          rw [k0, if_pos rfl] at h
          refine hK.1 [24] 80 24 _ _ _ _ _ ⟨fun z => absurd z c1, fun _ => ⟨vb, fun _ => ⟨vb, fun z => absurd y2 z, fun _ => ⟨vb, cR_worthJ hT hN2 m74 hE (by omega) (fun r' M' hM hr' => ⟨Or.inr rfl, Nat.le_refl _, h _ ?_⟩)⟩⟩, fun z => absurd c2 z⟩⟩
          obtain ⟨j1, j2, j3, j4, j5, j6, j7⟩ := hI2
          refine ⟨fun c h1 h2 h3 => ?_, ?_, ?_, ?_, ?_, fun j h1 h2 h3 h4 => ?_⟩
          · funext w; rw [mc_put_at, if_neg (fun z => h1 z.1), hM c h3, j1 c h1 h2 h3]
          · rw [mc_put_at, if_pos ⟨rfl, rfl⟩, hr']
          · rw [mc_put_at, if_neg (by omega), hM 64 (by decide), j3]
          · rw [mc_put_at, if_neg (by omega), hM 64 (by decide), j4]
          · rw [mc_put_at, if_neg (by omega), hM 64 (by decide), j5]
          · rw [mc_put_at, if_neg (fun z => h2 z.2), hM 64 (by decide), j6 j h1 h2 h3 h4]
  refine inR_run (Nat.le_of_ble_eq_true rfl) (fun K hK => hK.1 [24] 60 0 _ _ _ _ _ (cR_within (by omega) (fun l0 l2 => cR_goes (one := true) (two := true) rfl rfl (by omega) (fun _ _ M' hM => ⟨fun _ => ?_, fun z => absurd z (by decide)⟩) (fun z => by cases z) (fun _ z => by cases z)) (fun w => cR_goes (one := false) (two := true) rfl rfl (by omega) (fun z => by cases z) (fun _ M' hM => ⟨fun z => absurd rfl z, fun _ => ⟨Or.inl rfl, Nat.le_refl _, h1 w M' hM⟩⟩) (fun z => by cases z))))
  obtain ⟨l, hl, hx⟩ := nI_lt_of (x := x) (m := 5001) (by decide) (Int32.not_lt.mpr l0) (fun z => absurd (Int32.le_trans z l2) (by decide))
  have hh := h0 l (by omega) hx
  refine cR_begin (by omega) (fun M2 b1 b2 b3 => ?_)
  have hI : trI M M2 e 0 0 := by
    refine ⟨fun c h1 h2 h3 => ?_, ?_, ?_, ?_, ?_, fun j h1 h2 h3 h4 => ?_, fun u hu => ?_⟩
    · rw [b1 c h1 h2, hM]; funext w; rw [mc_put_at, if_neg (fun z => h1 z.1)]
    · rw [b3]; rfl
    · rw [b3]; rfl
    · rw [b3]; rfl
    · rw [b3, hM]; rfl
    · rw [b3, if_neg h4, if_neg h3, if_neg h2, hM, mc_put_at, if_neg (fun z => h1 z.2)]
    · rw [b2 u hu, hM, mc_put_at, if_neg (by omega), he u hu]
  cases l with
  | zero => exact lp K hK 0 (by omega) hx 0 0 0 0 e 0 0 M2 rfl (by omega) (by decide) (Nat.zero_le _) rfl hI (by rw [sp_mid_out (by omega)]; exact hh)
  | succ l => exact lp K hK (l + 1) (by omega) hx (l + 1) 0 l 0 e 0 0 M2 rfl (by omega) (by decide) (Nat.zero_le _) rfl hI (by rw [List.drop_zero]; exact hh)
end RR
