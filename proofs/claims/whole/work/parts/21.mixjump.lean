/-! Mixer: assignments and jumps -/
def rs_is (f : Nat) : Prop := f = 38 ∨ f = 51
theorem mfr_low {f k : Nat} {M M' : mc_M} (hf : rs_is f) (h : mfr f k M M') {c : Nat} (hc : c < 25 ∨ c = 28 ∨ c = f) : M' c = M c := by
  funext l
  refine h c l ?_
  unfold tch
  rcases hf with rfl | rfl <;> omega
theorem fl_fr_env {T : Nat → Nat → Int32} {S : Int32} {E E' : Nat → Int32} {k : Nat} (h : ∀ v, v < 8 → E v = E' v) : fl_fr T S E 0 k = fl_fr T S E' 0 k := by
  funext v
  unfold fl_fr
  by_cases hv : v < 8 ∧ fl_bit S v = true ∧ fl_bit (T 4 k) v = true
  · rw [if_pos hv, if_pos hv, Nat.zero_mul, Nat.zero_add, h v hv.1]
  · rw [if_neg hv, if_neg hv]
section MJ
variable {g : mc_G} {d n f : Nat} {M0 M : mc_M} {L : mc_L} {Q : Option Value → mc_M → mc_L → Prop} {T : Nat → Nat → Int32} {m : Nat}
theorem cX_mixAssignments (hf : rs_is f) (hT : nt_ok T m) (hN : nt_C M0 T m) {S : Int32} (hS : M0 f 1 = S) {k s b j : Nat} {kept : Nat → Int32} {q : Stt} {ov : Bool} {E : Nat → Int32} {B : Blk} {ss : List Nat} (hB : fl_blk T m 0 M0 7 16 b B ss j) (hb : b < 16) (hss : ss.length ≤ 10) (hk : k < s) (hqb : (q k).1 = b) {x : Int32} (hx : x = nI k)
    (hM : mfr f k M0 M) (hs : mxs M kept q s ov E) (hr : rblk T m S M f k []) (hd : 34 ≤ d) (h : ∀ M', mfr f k M0 M' → kp5 f M M' → mxs M' kept q s ov (sp_mixa T S B.2.1 E).1 → rblk T m S M' f k (sp_mixa T S B.2.1 E).2 → Q none M' L) : ctX_mixAssignments g d [.ref 25, .ref 1, .ref 7, .ref f, .int x] n M L Q := by
  obtain ⟨d, rfl⟩ := Nat.exists_eq_add_of_le' (show 1 ≤ d by omega)
  subst hx
  have hs100 := hs.1
  have hm150 := hT.1
  obtain ⟨-, hc, -, hch, hsv, has, -⟩ := hB
  have ek : (nI k).toNatClampNeg = k := nI_clamp (by omega)
  have vk : vp_in (nI k) 100 := vp_in_nI (by omega) (by decide)
  have eb : (nI b).toNatClampNeg = b := nI_clamp (by omega)
  have vb : vp_in (nI b) 16 := vp_in_nI hb (by decide)
  have hfl : fl_is f 100 := by
    rcases hf with rfl | rfl
    · exact Or.inr (Or.inl ⟨rfl, rfl⟩)
    · exact Or.inr (Or.inr ⟨rfl, rfl⟩)
  have hf30 : 30 < f := by rcases hf with rfl | rfl <;> decide
  have lp : ∀ (K : mc_K), mc_closed true tab0 n 0 none (shX_mixAssignments g d) Q (fun _ _ _ => False) tbX_mixAssignments K → ∀ (rs : List Nat) (x i : Int32) (M : mc_M) (E : Nat → Int32) (l : List Asg), fl_ch (M0 18) 176 x rs → (∀ t ∈ rs, fl_sv M0 7 m t) → rs.length ≤ ss.length → i = nI (ss.length - rs.length) → mfr f k M0 M → mxs M kept q s ov E → rblk T m S M f k l → l.length + rs.length ≤ 10 →
      (∀ M', mfr f k M0 M' → kp5 f M M' → mxs M' kept q s ov (sp_mixa T S (rs.map (fl_as T 0 M0 7)) E).1 → rblk T m S M' f k (l ++ (sp_mixa T S (rs.map (fl_as T 0 M0 7)) E).2) → Q none M' L) → K 21 [some (.ref 25), some (.ref 1), some (.ref 7), some (.ref f), some (.int (nI k)), some (.int (nI b)), some (.int x), some (.int i), none, none] [] n M L := by
    intro K hK rs
    induction rs with
    | nil =>
      intro x i M E l _ _ _ hi hM hs hr _ h
      subst hi
      have c1 : M 9 (nI b).toNatClampNeg ≤ nI (ss.length - 0) := by
        rw [eb, mfr_low hf hM (Or.inl (by decide))]
        rw [show M0 9 b = nI ss.length from hc]
        exact nI_le (by omega) (by omega)
      have t := h M hM ⟨rfl, rfl, rfl, rfl⟩ hs (by simpa [sp_mixa] using hr)
      exact hK.1 [] 30 21 _ _ _ _ _ ⟨vb, fun _ => ⟨Nat.le_refl _, t⟩, fun z => absurd c1 z⟩
    | cons t rs ih =>
      intro x i M E l hx hsv hlen hi hM hs hr hl10 h
      obtain ⟨rfl, htw, hx'⟩ := hx
      subst hi
      have hlen' : rs.length + 1 ≤ ss.length := hlen
      have hl10' : l.length + (rs.length + 1) ≤ 10 := hl10
      obtain ⟨⟨v, hv8, hvr⟩, nd, hnd, hndr⟩ := hsv t List.mem_cons_self
      have c1 : ¬ M 9 (nI b).toNatClampNeg ≤ nI (ss.length - (rs.length + 1)) := by
        rw [eb, mfr_low hf hM (Or.inl (by decide))]
        rw [show M0 9 b = nI ss.length from hc]
        exact nI_ge (by omega) (by omega)
      have e1 : (nI t).toNatClampNeg = t := nI_clamp (by omega)
      have v2 : vp_in (nI t) 176 := vp_in_nI htw (by decide)
      have a16 : M 16 (nI t).toNatClampNeg = nI v := by
        rw [e1, mfr_low hf hM (Or.inl (by decide))]
        exact hvr
      have a17 : M 17 (nI t).toNatClampNeg = nI nd := by
        rw [e1, mfr_low hf hM (Or.inl (by decide))]
        exact hndr
      have hN' : nt_C M T m := nt_C_to hN (fun c h1 h2 => mfr_low hf hM (Or.inl (by omega)))
      have hS' : M f 1 = S := by rw [mfr_low hf hM (Or.inr (Or.inr rfl)), hS]
      have as1 : fl_as T 0 M0 7 t = (v, nd, fl_fr T 0 (M0 19) t nd) := by
        unfold fl_as
        rw [hvr, hndr, nI_clamp (by omega), nI_clamp (by omega)]
      rw [List.map_cons, as1] at h
      have bitv : ((M f 1 >>> (M 16 (nI t).toNatClampNeg &&& 31)) &&& 1) = ((S >>> (nI v &&& 31)) &&& 1) := by rw [a16, hS']
      have next : ∀ (M2 : mc_M), mfr f k M0 M2 → M2 18 (nI t).toNatClampNeg = M0 18 t := fun M2 h2 => by rw [e1, mfr_low hf h2 (Or.inl (by decide))]
      have st : ¬ ((M f 1 >>> (M 16 (nI t).toNatClampNeg &&& 31)) &&& 1) = 0 → ∀ r, r = nd_val (T 0) (T 1) (T 2) (M 29) nd → vp_in (M 16 (nI t).toNatClampNeg) 8 ∧ ∀ M2, M2 = mc_put M 29 (M 16 (nI t).toNatClampNeg).toNatClampNeg r → ∀ y1 y2, K 21 [some (.ref 25), some (.ref 1), some (.ref 7), some (.ref f), some (.int (nI k)), some (.int (nI b)), some (.int (M2 18 (nI t).toNatClampNeg)), some (.int (nI (ss.length - (rs.length + 1)) + 1)), y1, y2] [] n M2 L := fun z r hr1 => by
        rw [bitv] at z
        have zb : fl_bit S v = true := by simp [fl_bit, z]
        refine ⟨by rw [a16]; exact vp_in_nI hv8 (by decide), fun M2 h2 y1 y2 => ?_⟩
        rw [a16, nI_clamp (by omega)] at h2
        have hrE : r = nd_val (T 0) (T 1) (T 2) E nd := by
          rw [hr1]
          exact nd_val_env hT nd (fun u hu _ => hs.2.2.2.2.2 u hu)
        have w2 : ∀ c l, c ≠ 29 → M2 c l = M c l := fun c l hc => by rw [h2, mc_put_at, if_neg (fun y => hc y.1)]
        have f2 : mfr f k M0 M2 := fun c l y => by
          rw [w2 c l (fun y' => y (by unfold tch; omega))]
          exact hM c l y
        refine hK.2 [true, true, true, true, true, true, true, true, false, false] _ _ _ _ _ _ ?_
        refine ih _ _ M2 (upd E v r) l (by rw [next M2 f2]; exact hx') (fun t ht => hsv t (List.mem_cons_of_mem _ ht)) (by omega) (by rw [nI_1]; congr 1; omega) f2 ⟨hs.1, ?_, ?_, fun u hu => ?_, fun u hu => ?_, fun u hu => ?_⟩ ?_ (by omega) (fun M' g1 g0 g2 g3 => h M' g1 (kp5_tr ⟨funext fun x => w2 _ x (by omega), funext fun x => w2 _ x (by omega), funext fun x => w2 _ x (by omega), funext fun x => w2 _ x (by omega)⟩ g0) ?_ ?_)
        · rw [w2 25 5 (by decide)]
          exact hs.2.1
        · rw [w2 25 6 (by decide)]
          exact hs.2.2.1
        · obtain ⟨q1, q2, q3⟩ := hs.2.2.2.1 u hu
          exact ⟨by rw [w2 26 u (by decide)]; exact q1, q2, fun w hw => by rw [w2 27 _ (by decide)]; exact q3 w hw⟩
        · rw [w2 28 u (by decide)]
          exact hs.2.2.2.2.1 u hu
        · rw [h2, mc_put_at]
          unfold upd
          by_cases huv : u = v
          · rw [if_pos ⟨rfl, huv⟩, if_pos huv]
          · rw [if_neg (fun y => huv y.2), if_neg huv]
            exact hs.2.2.2.2.2 u hu
        · have rowf : ∀ i, M2 (f + i) = M (f + i) := fun i => funext fun l => w2 (f + i) l (by omega)
          unfold rblk fl_sv fl_as at hr ⊢
          rw [rowf 2, rowf 3, rowf 4, rowf 9, rowf 10, rowf 11, rowf 12]
          exact hr
        · unfold sp_mixa
          rw [if_pos zb, ← hrE]
          exact g2
        · unfold sp_mixa
          rw [if_pos zb, ← hrE]
          exact g3
      have dy : ((M f 1 >>> (M 16 (nI t).toNatClampNeg &&& 31)) &&& 1) = 0 → ∀ M1, M1 = fl_app M f k l.length (k * 11 + (l.length - 1)) (M 16 (nI t).toNatClampNeg) (M 17 (nI t).toNatClampNeg) → ∀ M2, M2 = mc_set M1 (f + 12) (va_cpy (M1 29) (M1 (f + 12)) 0 ((k * 11 + l.length) * 8) 8) → ∀ y1 y2, K 21 [some (.ref 25), some (.ref 1), some (.ref 7), some (.ref f), some (.int (nI k)), some (.int (nI b)), some (.int (M2 18 (nI t).toNatClampNeg)), some (.int (nI (ss.length - (rs.length + 1)) + 1)), y1, y2] [] n M2 L := fun z M1 h1 M2 h2 y1 y2 => by
        rw [bitv] at z
        have zb : ¬ fl_bit S v = true := by simp [fl_bit, z]
        rw [a16, a17] at h1
        obtain ⟨r1, r2, r3, r4⟩ := rblk_app hr hf30 (by omega) (by omega) hv8 hnd hm150 h1 h2
        have f2 : mfr f k M0 M2 := mfr_tr hM r2
        refine hK.2 [true, true, true, true, true, true, true, true, false, false] _ _ _ _ _ _ ?_
        refine ih _ _ M2 E (l ++ [(v, nd, fl_fr T S (M 29) 0 nd)]) (by rw [next M2 f2]; exact hx') (fun t ht => hsv t (List.mem_cons_of_mem _ ht)) (by omega) (by rw [nI_1]; congr 1; omega) f2 ?_ r1 (by rw [List.length_append]; simp; omega) (fun M' g1 g0 g2 g3 => h M' g1 (kp5_tr r4 g0) ?_ ?_)
        · unfold mxs
          rw [r3 25 (by omega), r3 26 (by omega), r3 27 (by omega), r3 28 (by omega), r3 29 (by omega)]
          exact hs
        · unfold sp_mixa
          rw [if_neg zb]
          exact g2
        · unfold sp_mixa
          rw [if_neg zb]
          rw [fl_fr_env (E' := E) hs.2.2.2.2.2, List.append_assoc] at g3
          exact g3
      have sx : ∀ r, r = nI (k * 11 + l.length) → k * 11 + l.length < 100 * 11 := fun _ _ => by omega
      rcases hf with rfl | rfl <;>
      exact hK.1 [21] 80 21 _ _ _ _ _ ⟨vb, fun z => absurd z c1, fun _ => ⟨v2, v2, fun z => cF_append (l := k * 11 + (l.length - 1)) hfl (by omega) rfl (by omega) hr.1 (by omega) (fun y => ⟨(hr.2.2.1 y).2, by omega⟩) (fun r M1 hr1 h1 => cF_freeze hfl (by omega) hr1 (by omega) (fun M2 h2 => ⟨v2, dy z M1 h1 M2 h2 _ _⟩)), fun z => cN_value hT hN' (Or.inr (Or.inl rfl)) a17 hnd (by omega) (fun r hr1 => ⟨(st z r hr1).1, v2, (st z r hr1).2 _ rfl _ _⟩)⟩⟩
  have hq := hs.2.2.2.1 k hk
  have bb : M 26 (nI k).toNatClampNeg = nI b := by rw [ek, hq.1, hqb]
  have vb' : vp_in (M 26 (nI k).toNatClampNeg) 16 := by rw [bb]; exact vb
  have x0 : M 10 (M 26 (nI k).toNatClampNeg).toNatClampNeg = M0 10 b := by rw [bb, eb, mfr_low hf hM (Or.inl (by decide))]
  rw [has] at h
  have lp' : ∀ K, mc_closed true tab0 n 0 none (shX_mixAssignments g d) Q (fun _ _ _ => False) tbX_mixAssignments K → K 21 [some (.ref 25), some (.ref 1), some (.ref 7), some (.ref f), some (.int (nI k)), some (.int (M 26 (nI k).toNatClampNeg)), some (.int (M 10 (M 26 (nI k).toNatClampNeg).toNatClampNeg)), some (.int 0), none, none] [] n M L := fun K hK => by
    rw [x0, bb]
    exact lp K hK ss (M0 10 b) 0 M E [] hch hsv (Nat.le_refl _) (by rw [Nat.sub_self]; rfl) hM hs hr (by simpa using hss) h
  rcases hf with rfl | rfl <;>
  exact inX_mixAssignments (Nat.le_of_ble_eq_true rfl) (fun K hK => hK.1 [21] 40 0 _ _ _ _ _ ⟨vk, vb', lp' K hK⟩)
def rj (T : Nat → Nat → Int32) (m : Nat) (S : Int32) (M : mc_M) (f k : Nat) (l : List Asg) (q' : Int32) (nd : Nat) (E : Nat → Int32) : Prop := rblk T m S M f k l ∧ M (f + 5) k = nI k ∧ M (f + 6) k = q' ∧ M (f + 10) (k * 11 + 10) = nI nd ∧ ∀ v, v < 8 → M (f + 12) ((k * 11 + 10) * 8 + v) = E v
theorem rblk_rows {S : Int32} {M M' : mc_M} {f k : Nat} {l : List Asg} (h : rblk T m S M f k l) (e2 : M' (f + 2) k = M (f + 2) k) (e3 : M' (f + 3) k = M (f + 3) k) (e4 : M' (f + 4) k = M (f + 4) k) (e9 : ∀ i, i < 10 → M' (f + 9) (k * 11 + i) = M (f + 9) (k * 11 + i)) (e10 : ∀ i, i < 10 → M' (f + 10) (k * 11 + i) = M (f + 10) (k * 11 + i)) (e11 : ∀ i, i < 10 → M' (f + 11) (k * 11 + i) = M (f + 11) (k * 11 + i)) (e12 : ∀ i v, i < 10 → v < 8 → M' (f + 12) ((k * 11 + i) * 8 + v) = M (f + 12) ((k * 11 + i) * 8 + v)) : rblk T m S M' f k l := by
  obtain ⟨h1, h2, h3, h4, h5⟩ := h
  refine ⟨by rw [e2]; exact h1, h2, fun z => by rw [e3, e4]; exact h3 z, fun i hi => by rw [e11 i (by omega)]; exact h4 i hi, fun i hi => ?_⟩
  obtain ⟨a1, a2⟩ := h5 i hi
  unfold fl_sv fl_as at *
  rw [e9 i (by omega), e10 i (by omega)]
  refine ⟨a1, ?_⟩
  rw [a2]
  congr 3
  funext v
  unfold fl_fr
  by_cases hv : v < 8 ∧ fl_bit S v = true ∧ fl_bit (T 4 (M (f + 10) (k * 11 + i)).toNatClampNeg) v = true
  · rw [if_pos hv, if_pos hv, e12 i v (by omega) hv.1]
  · rw [if_neg hv, if_neg hv]
theorem rj_mk {S : Int32} {M M1 M2 : mc_M} {k nd : Nat} {l : List Asg} {q' ndI : Int32} {E : Nat → Int32} (hf : rs_is f) (hk : k < 100) (hr : rblk T m S M f k l) (h5 : M (f + 5) k = nI k) (hE : ∀ v, v < 8 → M 29 v = E v) (hnd : ndI = nI nd) (h1 : M1 = mc_set M (f + 12) (va_cpy (M 29) (M (f + 12)) 0 ((k * 11 + 10) * 8) 8)) (h2 : M2 = mc_put (mc_put M1 (f + 6) k q') (f + 10) (k * 11 + 10) ndI) :
    rj T m S M2 f k l q' nd E ∧ mfr f k M M2 ∧ (∀ c, c < f → M2 c = M c) ∧ M2 (f + 7) = M (f + 7) ∧ M2 (f + 8) = M (f + 8) ∧ M2 (f + 1) = M (f + 1) := by
  have hf30 : 30 < f := by rcases hf with rfl | rfl <;> decide
  have a : ∀ c x, M2 c x = if c = f + 10 ∧ x = k * 11 + 10 then ndI else if c = f + 6 ∧ x = k then q' else M1 c x := fun c x => by rw [h2, mc_put_at, mc_put_at]
  have b : ∀ c, c ≠ f + 12 → M1 c = M c := fun c hc => by rw [h1, mc_set_n hc]
  have b12 : ∀ x, M1 (f + 12) x = if (k * 11 + 10) * 8 ≤ x ∧ x < (k * 11 + 10) * 8 + 8 then M 29 (x - (k * 11 + 10) * 8) else M (f + 12) x := fun x => by
    rw [h1, mc_set_s]
    show (if (k * 11 + 10) * 8 ≤ x ∧ x < (k * 11 + 10) * 8 + 8 then M 29 (0 + (x - (k * 11 + 10) * 8)) else M (f + 12) x) = _
    rw [Nat.zero_add]
  refine ⟨⟨rblk_rows hr ?_ ?_ ?_ (fun i hi => ?_) (fun i hi => ?_) (fun i hi => ?_) (fun i v hi hv => ?_), ?_, ?_, ?_, fun v hv => ?_⟩, fun c x z => ?_, fun c hc => ?_, ?_, ?_, ?_⟩
  · rw [a, if_neg (by omega), if_neg (by omega), b _ (by omega)]
  · rw [a, if_neg (by omega), if_neg (by omega), b _ (by omega)]
  · rw [a, if_neg (by omega), if_neg (by omega), b _ (by omega)]
  · rw [a, if_neg (by omega), if_neg (by omega), b _ (by omega)]
  · rw [a, if_neg (by omega), if_neg (by omega), b _ (by omega)]
  · rw [a, if_neg (by omega), if_neg (by omega), b _ (by omega)]
  · rw [a, if_neg (by omega), if_neg (by omega), b12, if_neg (by omega)]
  · rw [a, if_neg (by omega), if_neg (by omega), b _ (by omega), h5]
  · rw [a, if_neg (by omega), if_pos ⟨rfl, rfl⟩]
  · rw [a, if_pos ⟨rfl, rfl⟩, hnd]
  · rw [a, if_neg (by omega), if_neg (by omega), b12, if_pos (by omega), ← hE v hv]
    congr 1
    omega
  · unfold tch at z
    rw [a, if_neg (by omega), if_neg (by omega)]
    by_cases hc : c = f + 12
    · rw [hc, b12, if_neg (by omega)]
    · rw [b c hc]
  · funext x
    rw [a, if_neg (by omega), if_neg (by omega), b c (by omega)]
  · funext x
    rw [a, if_neg (by omega), if_neg (by omega), b _ (by omega)]
  · funext x
    rw [a, if_neg (by omega), if_neg (by omega), b _ (by omega)]
  · funext x
    rw [a, if_neg (by omega), if_neg (by omega), b _ (by omega)]
theorem rj_fr {S : Int32} {M M' : mc_M} {k nd : Nat} {l : List Asg} {q' : Int32} {E : Nat → Int32} (hf : rs_is f) (h : rj T m S M f k l q' nd E) (hM : mx_fr M M') : rj T m S M' f k l q' nd E := by
  have e : ∀ i, M' (f + i) = M (f + i) := fun i => by
    refine hM _ ?_ ?_ ?_ ?_ <;> rcases hf with rfl | rfl <;> omega
  unfold rj rblk fl_sv fl_as at h ⊢
  rw [e 2, e 3, e 4, e 5, e 6, e 9, e 10, e 11, e 12]
  exact h
theorem mfr_fr {M M' : mc_M} {k : Nat} (hM : mx_fr M M') : mfr f k M M' := fun c l z => by
  have := hM c (fun y => z (Or.inl y)) (fun y => z (Or.inr (Or.inl y))) (fun y => z (Or.inr (Or.inr (Or.inl y)))) (fun y => z (Or.inr (Or.inr (Or.inr (Or.inr (Or.inl y))))))
  rw [this]
theorem rj_tg {S : Int32} {M M' : mc_M} {k nd : Nat} {l : List Asg} {q' one other : Int32} {E : Nat → Int32} (h : rj T m S M f k l q' nd E) (hM : M' = mc_put (mc_put M (f + 7) k one) (f + 8) k other) : rj T m S M' f k l q' nd E ∧ mfr f k M M' ∧ M' (f + 7) k = one ∧ M' (f + 8) k = other ∧ (∀ c, c < f → M' c = M c) ∧ M' (f + 1) = M (f + 1) := by
  have a : ∀ c x, c ≠ f + 7 → c ≠ f + 8 → M' c x = M c x := fun c x h7 h8 => by rw [hM, mc_put_at, if_neg (fun y => h8 y.1), mc_put_at, if_neg (fun y => h7 y.1)]
  have e : ∀ i, i ≠ 7 → i ≠ 8 → M' (f + i) = M (f + i) := fun i h7 h8 => funext fun x => a _ x (by omega) (by omega)
  refine ⟨?_, fun c x z => ?_, ?_, ?_, fun c hc => funext fun x => a c x (by omega) (by omega), e 1 (by decide) (by decide)⟩
  · unfold rj rblk fl_sv fl_as at h ⊢
    rw [e 2 (by decide) (by decide), e 3 (by decide) (by decide), e 4 (by decide) (by decide), e 5 (by decide) (by decide), e 6 (by decide) (by decide), e 9 (by decide) (by decide), e 10 (by decide) (by decide), e 11 (by decide) (by decide), e 12 (by decide) (by decide)]
    exact h
  · unfold tch at z
    rw [hM, mc_put_at, if_neg (by omega), mc_put_at, if_neg (by omega)]
  · rw [hM, mc_put_at, if_neg (by omega), mc_put_at, if_pos ⟨rfl, rfl⟩]
  · rw [hM, mc_put_at, if_pos ⟨rfl, rfl⟩]
abbrev Jmp : Type := Int32 × (Nat × (Nat → Int32)) × Int32 × Int32
def sp_mixj (T : Nat → Nat → Int32) (S : Int32) (kept : Nat → Int32) (q : Stt) (s : Nat) (ov : Bool) (E : Nat → Int32) (B : Blk) : (Stt × Nat × Bool) × Jmp :=
  if B.2.2.1 = 2 then ((q, s, ov), (2, (B.2.2.2.1.1, fl_fr T S E 0 B.2.2.2.1.1), -1, -1))
  else if B.2.2.1 = 1 ∧ ¬ (T 4 B.2.2.2.1.1 &&& (S ^^^ (-1))) = 0 then
    ((sp_come kept (sp_come kept q s ov E B.2.2.2.2.1.toNatClampNeg).1.1 (sp_come kept q s ov E B.2.2.2.2.1.toNatClampNeg).1.2.1 (sp_come kept q s ov E B.2.2.2.2.1.toNatClampNeg).1.2.2 E B.2.2.2.2.2.toNatClampNeg).1,
      (1, (B.2.2.2.1.1, fl_fr T S E 0 B.2.2.2.1.1), (sp_come kept q s ov E B.2.2.2.2.1.toNatClampNeg).2, (sp_come kept (sp_come kept q s ov E B.2.2.2.2.1.toNatClampNeg).1.1 (sp_come kept q s ov E B.2.2.2.2.1.toNatClampNeg).1.2.1 (sp_come kept q s ov E B.2.2.2.2.1.toNatClampNeg).1.2.2 E B.2.2.2.2.2.toNatClampNeg).2))
  else
    ((sp_come kept q s ov E (if B.2.2.1 = 0 ∨ ¬ nd_val (T 0) (T 1) (T 2) E B.2.2.2.1.1 = 0 then B.2.2.2.2.1 else B.2.2.2.2.2).toNatClampNeg).1, (0, (150, fl_fr T S E 0 150), (sp_come kept q s ov E (if B.2.2.1 = 0 ∨ ¬ nd_val (T 0) (T 1) (T 2) E B.2.2.2.1.1 = 0 then B.2.2.2.2.1 else B.2.2.2.2.2).toNatClampNeg).2, -1))
def rjmp (T : Nat → Nat → Int32) (m : Nat) (S : Int32) (M : mc_M) (f k : Nat) (J : Jmp) : Prop := M (f + 5) k = nI k ∧ M (f + 6) k = J.1 ∧ (∃ nd, (nd < m ∨ nd = 150) ∧ M (f + 10) (k * 11 + 10) = nI nd ∧ J.2.1 = (nd, fl_fr T S (M (f + 12)) (k * 11 + 10) nd)) ∧ M (f + 7) k = J.2.2.1 ∧ M (f + 8) k = J.2.2.2
theorem rjmp_of {S : Int32} {M : mc_M} {k nd : Nat} {l : List Asg} {q' : Int32} {E : Nat → Int32} (h : rj T m S M f k l q' nd E) (hnd : nd < m ∨ nd = 150) : rblk T m S M f k l ∧ rjmp T m S M f k (q', (nd, fl_fr T S E 0 nd), M (f + 7) k, M (f + 8) k) := by
  obtain ⟨h1, h2, h3, h4, h5⟩ := h
  refine ⟨h1, h2, h3, ⟨nd, hnd, h4, ?_⟩, rfl, rfl⟩
  show (nd, _) = (nd, _)
  congr 1
  funext v
  unfold fl_fr
  by_cases hv : v < 8 ∧ fl_bit S v = true ∧ fl_bit (T 4 nd) v = true
  · rw [if_pos hv, if_pos hv, h5 v hv.1, Nat.zero_mul, Nat.zero_add]
  · rw [if_neg hv, if_neg hv]
end MJ
