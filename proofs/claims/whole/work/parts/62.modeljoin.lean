/-! The model's join and copyBlock -/
def jnM (b k l : Nat) (M M' : mc_M) : Prop := (∀ c, (c < 84 ∨ 91 < c) → M' c = M c) ∧ (∀ j, M' 84 j = if j = k then 1 else M 84 j) ∧ (∀ j, M' 85 j = if j = b ∧ ¬ M 85 k = -1 ∧ M 85 b = -1 then M 85 k else M 85 j) ∧ (∀ j, M' 86 j = if j = b ∧ ¬ M 85 k = -1 then M 86 k else M 86 j) ∧ (∀ c, 87 ≤ c → c ≤ 90 → ∀ j, M' c j = if j = b then M c k else M c j) ∧ ∀ j, M' 91 j = if j = l ∧ ¬ M 85 k = -1 ∧ ¬ M 85 b = -1 then M 85 k else M 91 j
section JN
variable {g : mc_G} {d n : Nat} {M : mc_M} {L : mc_L} {Q : Option Value → mc_M → mc_L → Prop}
theorem cR_join {b k l : Nat} {x y : Int32} (hx : x = nI b) (hy : y = nI k) (hb : b < 100) (hk : k < 100) (hbk : b ≠ k) (hl : ¬ M 85 b = -1 → M 86 b = nI l ∧ l < 1100) (hd : 2 ≤ d) (h : ∀ M', jnM b k l M M' → Q none M' L) : ctR_join g d [.ref 64, .int x, .int y] n M L Q := by
  obtain ⟨d, rfl⟩ := Nat.exists_eq_add_of_le' (show 1 ≤ d by omega)
  subst hx
  subst hy
  have vb : vp_in (nI b) 100 := vp_in_nI hb (by decide)
  have vk : vp_in (nI k) 100 := vp_in_nI hk (by decide)
  have eb : (nI b).toNatClampNeg = b := nI_clamp (by omega)
  have ek : (nI k).toNatClampNeg = k := nI_clamp (by omega)
  have tail : ∀ (K : mc_K), mc_closed true tab0 n 0 none (shR_join g d) Q (fun _ _ _ => False) tbR_join K → ∀ M2 : mc_M, (∀ c, c ≠ 85 → c ≠ 86 → c ≠ 91 → M2 c = M c) → (∀ j, M2 85 j = if j = b ∧ ¬ M 85 k = -1 ∧ M 85 b = -1 then M 85 k else M 85 j) → (∀ j, M2 86 j = if j = b ∧ ¬ M 85 k = -1 then M 86 k else M 86 j) → (∀ j, M2 91 j = if j = l ∧ ¬ M 85 k = -1 ∧ ¬ M 85 b = -1 then M 85 k else M 91 j) → K 33 [some (.ref 64), some (.int (nI b)), some (.int (nI k))] [] n M2 L := fun K hK M2 e0 e1 e2 e3 => by
    have q : ∀ M', M' = mc_put (mc_put (mc_put (mc_put (mc_put M2 87 b (M2 87 k)) 88 b (M2 88 k)) 89 b (M2 89 k)) 90 b (M2 90 k)) 84 k 1 → Q none M' L := fun M' hM => by
      refine h M' ⟨fun c hc => ?_, fun j => ?_, fun j => ?_, fun j => ?_, fun c h1 h2 j => ?_, fun j => ?_⟩
      · funext w
        rw [hM, mc_put_at, if_neg (by omega), mc_put_at, if_neg (by omega), mc_put_at, if_neg (by omega), mc_put_at, if_neg (by omega), mc_put_at, if_neg (by omega), e0 c (by omega) (by omega) (by omega)]
      · rw [hM, mc_put_at]
        by_cases e : j = k
        · rw [if_pos ⟨rfl, e⟩, if_pos e]
        · rw [if_neg (fun z => e z.2), if_neg e, mc_put_at, if_neg (by omega), mc_put_at, if_neg (by omega), mc_put_at, if_neg (by omega), mc_put_at, if_neg (by omega), e0 84 (by decide) (by decide) (by decide)]
      · rw [hM, mc_put_at, if_neg (fun z => absurd z.1 (by decide)), mc_put_at, if_neg (fun z => absurd z.1 (by decide)), mc_put_at, if_neg (fun z => absurd z.1 (by decide)), mc_put_at, if_neg (fun z => absurd z.1 (by decide)), mc_put_at, if_neg (fun z => absurd z.1 (by decide)), e1 j]
      · rw [hM, mc_put_at, if_neg (fun z => absurd z.1 (by decide)), mc_put_at, if_neg (fun z => absurd z.1 (by decide)), mc_put_at, if_neg (fun z => absurd z.1 (by decide)), mc_put_at, if_neg (fun z => absurd z.1 (by decide)), mc_put_at, if_neg (fun z => absurd z.1 (by decide)), e2 j]
      · have hc : c = 87 ∨ c = 88 ∨ c = 89 ∨ c = 90 := by omega
        rw [hM]
        by_cases e : j = b
        · subst e
          rcases hc with rfl | rfl | rfl | rfl
          · rw [if_pos rfl, mc_put_at, if_neg (by omega), mc_put_at, if_neg (by omega), mc_put_at, if_neg (by omega), mc_put_at, if_neg (by omega), mc_put_at, if_pos ⟨rfl, rfl⟩, e0 87 (by decide) (by decide) (by decide)]
          · rw [if_pos rfl, mc_put_at, if_neg (by omega), mc_put_at, if_neg (by omega), mc_put_at, if_neg (by omega), mc_put_at, if_pos ⟨rfl, rfl⟩, e0 88 (by decide) (by decide) (by decide)]
          · rw [if_pos rfl, mc_put_at, if_neg (by omega), mc_put_at, if_neg (by omega), mc_put_at, if_pos ⟨rfl, rfl⟩, e0 89 (by decide) (by decide) (by decide)]
          · rw [if_pos rfl, mc_put_at, if_neg (by omega), mc_put_at, if_pos ⟨rfl, rfl⟩, e0 90 (by decide) (by decide) (by decide)]
        · rw [if_neg e, mc_put_at, if_neg (by omega), mc_put_at, if_neg (by omega), mc_put_at, if_neg (by omega), mc_put_at, if_neg (by omega), mc_put_at, if_neg (by omega), e0 c (by omega) (by omega) (by omega)]
      · rw [hM, mc_put_at, if_neg (fun z => absurd z.1 (by decide)), mc_put_at, if_neg (fun z => absurd z.1 (by decide)), mc_put_at, if_neg (fun z => absurd z.1 (by decide)), mc_put_at, if_neg (fun z => absurd z.1 (by decide)), mc_put_at, if_neg (fun z => absurd z.1 (by decide)), e3 j]
    have q2 : Q none (mc_put (mc_put (mc_put (mc_put (mc_put M2 87 (nI b).toNatClampNeg (M2 87 (nI k).toNatClampNeg)) 88 (nI b).toNatClampNeg (M2 88 (nI k).toNatClampNeg)) 89 (nI b).toNatClampNeg (M2 89 (nI k).toNatClampNeg)) 90 (nI b).toNatClampNeg (M2 90 (nI k).toNatClampNeg)) 84 (nI k).toNatClampNeg (vp_nar .boolean 1)) L := q _ (by rw [eb, ek, nar_b1])
    exact hK.1 [] 80 33 _ _ _ _ _ ⟨vk, vb, vk, vb, vk, vb, vk, vb, vk, Nat.le_refl _, q2⟩
  by_cases e : M 85 k = -1
  · have e' : M 85 (nI k).toNatClampNeg = -1 := by rw [ek, e]
    have t := fun K hK => tail K hK M (fun _ _ _ _ => rfl) (fun j => by rw [if_neg (fun z => z.2.1 e)]) (fun j => by rw [if_neg (fun z => z.2 e)]) (fun j => by rw [if_neg (fun z => z.2.1 e)])
    exact inR_join (Nat.le_of_ble_eq_true rfl) (fun K hK => hK.1 [33] 40 0 _ _ _ _ _ ⟨vk, fun _ => t K hK, fun z => absurd e' z⟩)
  · have e' : ¬ M 85 (nI k).toNatClampNeg = -1 := by rw [ek]; exact e
    refine inR_join (Nat.le_of_ble_eq_true rfl) (fun K hK => hK.1 [33] 40 0 _ _ _ _ _ ⟨vk, fun z => absurd z e', fun _ => ⟨vk, cR_append (l := l) rfl hb hl (by omega) (fun M1 hM1 => ⟨vk, vb, ?_⟩)⟩⟩)
    rw [ek] at hM1
    have m86k : M1 86 k = M 86 k := by
      rw [hM1]
      unfold apR
      rw [mc_put_at, if_neg (by omega)]
      split
      · rw [mc_put_at, if_neg (by omega)]
      · rw [mc_put_at, if_neg (by omega)]
    show K 33 [some (.ref 64), some (.int (nI b)), some (.int (nI k))] [] n (mc_put M1 86 (nI b).toNatClampNeg (M1 86 (nI k).toNatClampNeg)) L
    rw [eb, ek, m86k]
    refine tail K hK _ (fun c h1 h2 h3 => ?_) (fun j => ?_) (fun j => ?_) (fun j => ?_)
    · funext w
      rw [mc_put_at, if_neg (fun z => h2 z.1), hM1]
      unfold apR
      rw [mc_put_at, if_neg (fun z => h2 z.1)]
      split
      · rw [mc_put_at, if_neg (fun z => h1 z.1)]
      · rw [mc_put_at, if_neg (fun z => h3 z.1)]
    · rw [mc_put_at, if_neg (fun z => absurd z.1 (by decide)), hM1]
      unfold apR
      rw [mc_put_at, if_neg (fun z => absurd z.1 (by decide))]
      by_cases e2 : M 85 b = -1
      · rw [if_pos e2, mc_put_at]
        by_cases e3 : j = b
        · rw [if_pos ⟨rfl, e3⟩, if_pos ⟨e3, e, e2⟩]
        · rw [if_neg (fun z => e3 z.2), if_neg (fun z => e3 z.1)]
      · rw [if_neg e2, mc_put_at, if_neg (fun z => absurd z.1 (by decide)), if_neg (fun z => e2 z.2.2)]
    · rw [mc_put_at]
      by_cases e3 : j = b
      · rw [if_pos ⟨rfl, e3⟩, if_pos ⟨e3, e⟩]
      · rw [if_neg (fun z => e3 z.2), if_neg (fun z => e3 z.1), hM1]
        unfold apR
        rw [mc_put_at, if_neg (fun z => e3 z.2)]
        split
        · rw [mc_put_at, if_neg (fun z => absurd z.1 (by decide))]
        · rw [mc_put_at, if_neg (fun z => absurd z.1 (by decide))]
    · rw [mc_put_at, if_neg (fun z => absurd z.1 (by decide)), hM1]
      unfold apR
      rw [mc_put_at, if_neg (fun z => absurd z.1 (by decide))]
      by_cases e2 : M 85 b = -1
      · rw [if_pos e2, mc_put_at, if_neg (fun z => absurd z.1 (by decide)), if_neg (fun z => z.2.2 e2)]
      · rw [if_neg e2, mc_put_at]
        by_cases e3 : j = l
        · rw [if_pos ⟨rfl, e3⟩, if_pos ⟨e3, e, e2⟩]
        · rw [if_neg (fun z => e3 z.2), if_neg (fun z => e3 z.1)]
def cpB (a t : Nat) (M M' : mc_M) : Prop := ∀ c j, M' c j = if (c = 83 ∨ (85 ≤ c ∧ c ≤ 90)) ∧ j = t then M c a else M c j
theorem cR_copyBlock {a t : Nat} {x y : Int32} (hx : x = nI a) (hy : y = nI t) (ha : a < 100) (ht : t < 100) (hd : 1 ≤ d) (h : ∀ M', cpB a t M M' → Q none M' L) : ctR_copyBlock g d [.ref 64, .int x, .int y] n M L Q := by
  obtain ⟨d, rfl⟩ := Nat.exists_eq_add_of_le' hd
  subst hx
  subst hy
  have va : vp_in (nI a) 100 := vp_in_nI ha (by decide)
  have vt : vp_in (nI t) 100 := vp_in_nI ht (by decide)
  have ea : (nI a).toNatClampNeg = a := nI_clamp (by omega)
  have et : (nI t).toNatClampNeg = t := nI_clamp (by omega)
  have q : ∀ M', M' = mc_put (mc_put (mc_put (mc_put (mc_put (mc_put (mc_put M 83 t (M 83 a)) 85 t (M 85 a)) 86 t (M 86 a)) 87 t (M 87 a)) 88 t (M 88 a)) 89 t (M 89 a)) 90 t (M 90 a) → Q none M' L := fun M' hM => by
    refine h M' (fun c j => ?_)
    rw [hM]
    by_cases e : j = t
    · subst e
      by_cases hc : c = 83 ∨ (85 ≤ c ∧ c ≤ 90)
      · rw [if_pos ⟨hc, rfl⟩]
        have hc' : c = 83 ∨ c = 85 ∨ c = 86 ∨ c = 87 ∨ c = 88 ∨ c = 89 ∨ c = 90 := by omega
        rcases hc' with rfl | rfl | rfl | rfl | rfl | rfl | rfl <;> simp [mc_put_at]
      · rw [if_neg (fun z => hc z.1), mc_put_at, if_neg (by omega), mc_put_at, if_neg (by omega), mc_put_at, if_neg (by omega), mc_put_at, if_neg (by omega), mc_put_at, if_neg (by omega), mc_put_at, if_neg (by omega), mc_put_at, if_neg (by omega)]
    · rw [if_neg (fun z => e z.2), mc_put_at, if_neg (fun z => e z.2), mc_put_at, if_neg (fun z => e z.2), mc_put_at, if_neg (fun z => e z.2), mc_put_at, if_neg (fun z => e z.2), mc_put_at, if_neg (fun z => e z.2), mc_put_at, if_neg (fun z => e z.2), mc_put_at, if_neg (fun z => e z.2)]
  have q2 : Q none (mc_put (mc_put (mc_put (mc_put (mc_put (mc_put (mc_put M 83 (nI t).toNatClampNeg (M 83 (nI a).toNatClampNeg)) 85 (nI t).toNatClampNeg (M 85 (nI a).toNatClampNeg)) 86 (nI t).toNatClampNeg (M 86 (nI a).toNatClampNeg)) 87 (nI t).toNatClampNeg (M 87 (nI a).toNatClampNeg)) 88 (nI t).toNatClampNeg (M 88 (nI a).toNatClampNeg)) 89 (nI t).toNatClampNeg (M 89 (nI a).toNatClampNeg)) 90 (nI t).toNatClampNeg (M 90 (nI a).toNatClampNeg)) L := q _ (by rw [ea, et])
  exact inR_copyBlock (Nat.le_of_ble_eq_true rfl) (fun K hK => hK.1 [] 80 0 _ _ _ _ _ ⟨va, vt, va, vt, va, vt, va, vt, va, vt, va, vt, va, vt, Nat.le_refl _, q2⟩)
end JN
/-! The joined blocks -/
def mrg (T : Nat → Nat → Int32) (m : Nat) (S : Int32) (M : mc_M) (pb nb : Nat) (R : Nat → Blk) (gone : Nat → Bool) (PS : Nat → List Nat) : Prop := (∀ b, b < nb → gone b = false → mblk T m S M pb b (R b) (PS b)) ∧ ∀ b c, b < nb → c < nb → gone b = false → gone c = false → b ≠ c → ∀ s ∈ PS b, s ∉ PS c
theorem pch_ne {N : Nat → Int32} {x : Int32} {l : List Nat} (h : pch N x l) : x = -1 ↔ l = [] := by
  cases l with
  | nil => exact ⟨fun _ => rfl, fun _ => h⟩
  | cons p r =>
    refine ⟨fun z => ?_, fun z => by cases z⟩
    rw [h.1] at z
    exact absurd z (nI_ne_m1 (by have := h.2.1; omega))
theorem mrg_jn {T : Nat → Nat → Int32} {m : Nat} {S : Int32} {M M' : mc_M} {pb nb : Nat} {R : Nat → Blk} {gone : Nat → Bool} {PS : Nat → List Nat} (h : mrg T m S M pb nb R gone PS) {b k l : Nat} (hb : b < nb) (hk : k < nb) (gb : gone b = false) (gk : gone k = false) (hbk : b ≠ k) (hl : ∀ x, (PS b).getLast? = some x → x = l) (hM : jnM b k l M M') : mrg T m S M' pb nb (sp_jn R b k) (sp_gn gone k) (fun i => if i = b then PS b ++ PS k else PS i) := by
  obtain ⟨j0, j1, j2, j3, j4, j5⟩ := hM
  have B := h.1 b hb gb
  have Kk := h.1 k hk gk
  have dbk := h.2 b k hb hk gb gk hbk
  obtain ⟨a1, a2, a3, a4, a5, a6, a7, a8, a9, a10⟩ := B
  obtain ⟨c1, c2, c3, c4, c5, c6, c7, ⟨jj, nd, w1, w2, w3, w4, w5⟩, c9, c10⟩ := Kk
  have nb1 := pch_ne a2
  have nk1 := pch_ne c2
  have eas : ∀ s, mp_as T S M' s = mp_as T S M s := fun s => mp_as_eq (by rw [j0 92 (by omega)]) (by rw [j0 93 (by omega)]) (fun v _ => by rw [j0 94 (by omega)])
  have eok : ∀ s, mp_ok M m s → mp_ok M' m s := fun s hs => by
    unfold mp_ok at hs ⊢
    rw [j0 92 (by omega), j0 93 (by omega)]
    exact hs
  have lin : ∀ s, ¬ PS b = [] → s = l → s ∈ PS b := fun s hne hs => by
    cases hq : (PS b).getLast? with
    | none => exact absurd (by simpa using hq) hne
    | some x =>
      rw [hs, ← hl x hq]
      exact List.mem_of_getLast? hq
  refine ⟨fun i hi gi => ?_, fun i c hi hc gi gc hic s hs => ?_⟩
  · obtain ⟨ik, gi'⟩ := sp_gn_f gi
    by_cases e : i = b
    · subst e
      show mblk T m S M' pb i (sp_jn R i k i) (if i = i then PS i ++ PS k else PS i)
      have eR : sp_jn R i k i = ((R i).1, (R i).2.1 ++ (R k).2.1, (R k).2.2) := by
        unfold sp_jn
        rw [if_pos rfl]
      rw [eR, if_pos rfl]
      refine ⟨by rw [j0 83 (by omega)]; exact a1, ?_, fun x hx => ?_, ?_, fun s hs => ?_, ?_, ?_, ⟨jj, nd, w1, w2, ?_, ?_, ?_⟩, ?_, ?_⟩
      · by_cases ek : PS k = []
        · rw [ek, List.append_nil, j2, if_neg (fun z => z.2.1 (nk1.mpr ek))]
          exact pch_congr (fun s _ => by rw [j5, if_neg (fun z => z.2.1 (nk1.mpr ek))]) a2
        · have ek' : ¬ M 85 k = -1 := fun z => ek (nk1.mp z)
          by_cases ei : PS i = []
          · rw [ei, List.nil_append, j2, if_pos ⟨rfl, ek', nb1.mpr ei⟩]
            exact pch_congr (fun s _ => by rw [j5, if_neg (fun z => z.2.2 (nb1.mpr ei))]) c2
          · have ei' : ¬ M 85 i = -1 := fun z => ei (nb1.mp z)
            rw [j2, if_neg (fun z => ei' z.2.2)]
            have hlast : (PS i).getLast? = some l := by
              cases hq : (PS i).getLast? with
              | none => exact absurd (by simpa using hq) ei
              | some x => rw [hl x hq]
            have lm : l ∈ PS i := List.mem_of_getLast? hlast
            have hr : pch (M' 91) (M 85 k) (PS k) := pch_congr (fun s hs => by
              have ne : ¬ s = l := fun z => dbk l lm (by rw [← z]; exact hs)
              rw [j5, if_neg (fun z => ne z.1)]) c2
            refine pch_app (N := M 91) hr (by rw [j5, if_pos ⟨rfl, ek', ei'⟩]) (fun s h1 _ => by rw [j5, if_neg (fun z => h1 z.1)]) hlast a4 (fun s hs => dbk s hs) a2
      · rw [List.getLast?_append] at hx
        cases hq : (PS k).getLast? with
        | none =>
          have ek : PS k = [] := by simpa using hq
          rw [hq] at hx
          rw [j3, if_neg (fun z => z.2 (nk1.mpr ek))]
          exact a3 x (by simpa using hx)
        | some y =>
          have ek : ¬ PS k = [] := fun z => by rw [z] at hq; cases hq
          rw [hq] at hx
          have : y = x := by simpa using hx
          rw [j3, if_pos ⟨rfl, fun z => ek (nk1.mp z)⟩, ← this]
          exact c3 y hq
      · exact List.nodup_append.mpr ⟨a4, c4, fun x hx y hy z => dbk x hx (z ▸ hy)⟩
      · rcases List.mem_append.mp hs with hs | hs
        · exact ⟨(a5 s hs).1, eok s (a5 s hs).2⟩
        · exact ⟨(c5 s hs).1, eok s (c5 s hs).2⟩
      · rw [List.map_append, List.map_congr_left (fun s _ => eas s), List.map_congr_left (fun s _ => eas s), ← a6, ← c6]
      · rw [j4 87 (by omega) (by omega), if_pos rfl]
        exact c7
      · rw [j4 90 (by omega) (by omega), if_pos rfl]
        exact w3
      · rw [j0 93 (by omega)]
        exact w4
      · rw [j0 94 (by omega)]
        exact w5
      · rw [j4 88 (by omega) (by omega), if_pos rfl]
        exact c9
      · rw [j4 89 (by omega) (by omega), if_pos rfl]
        exact c10
    · show mblk T m S M' pb i (sp_jn R b k i) (if i = b then PS b ++ PS k else PS i)
      have eR : sp_jn R b k i = R i := by
        unfold sp_jn
        rw [if_neg e]
      rw [eR, if_neg e]
      obtain ⟨q1, q2, q3, q4, q5, q6, q7, ⟨j', nd', y1, y2, y3, y4, y5⟩, q9, q10⟩ := h.1 i hi gi'
      have dbi := h.2 b i hb hi gb gi' (fun z => e z.symm)
      refine ⟨by rw [j0 83 (by omega)]; exact q1, ?_, fun x hx => by rw [j3, if_neg (fun z => e z.1)]; exact q3 x hx, q4, fun s hs => ⟨(q5 s hs).1, eok s (q5 s hs).2⟩, ?_, by rw [j4 87 (by omega) (by omega), if_neg e]; exact q7, ⟨j', nd', y1, y2, by rw [j4 90 (by omega) (by omega), if_neg e]; exact y3, by rw [j0 93 (by omega)]; exact y4, by rw [j0 94 (by omega)]; exact y5⟩, by rw [j4 88 (by omega) (by omega), if_neg e]; exact q9, by rw [j4 89 (by omega) (by omega), if_neg e]; exact q10⟩
      · rw [j2, if_neg (fun z => e z.1)]
        refine pch_congr (fun s hs => ?_) q2
        rw [j5, if_neg (fun z => ?_)]
        exact dbi s (lin s (fun w => z.2.2 (nb1.mpr w)) z.1) hs
      · rw [q6]
        exact List.map_congr_left (fun s _ => (eas s).symm)
  · obtain ⟨ik, gi'⟩ := sp_gn_f gi
    obtain ⟨ck, gc'⟩ := sp_gn_f gc
    dsimp only at hs ⊢
    by_cases ei : i = b
    · have ec : ¬ c = b := fun z => hic (ei.trans z.symm)
      rw [if_pos ei] at hs
      rw [if_neg ec]
      rcases List.mem_append.mp hs with hs | hs
      · exact h.2 b c hb hc gb gc' (fun z => ec z.symm) s hs
      · exact h.2 k c hk hc gk gc' (fun z => ck z.symm) s hs
    · rw [if_neg ei] at hs
      by_cases ec : c = b
      · rw [if_pos ec]
        intro hz
        rcases List.mem_append.mp hz with hz | hz
        · exact h.2 i b hi hb gi' gb ei s hs hz
        · exact h.2 i k hi hk gi' gk ik s hs hz
      · rw [if_neg ec]
        exact h.2 i c hi hc gi' gc' hic s hs
theorem nu_gn {gone : Nat → Bool} {k : Nat} (gk : gone k = false) : ∀ nb, k < nb → nu (sp_gn gone k) nb + 1 = nu gone nb
  | 0, h => absurd h (Nat.not_lt_zero _)
  | nb + 1, h => by
    have lo : ∀ c, c ≤ k → nu (sp_gn gone k) c = nu gone c := by
      intro c
      induction c with
      | zero => intro _; rfl
      | succ c ih =>
        intro hc
        unfold nu
        have : sp_gn gone k c = gone c := by
          unfold sp_gn
          rw [if_neg (by omega)]
        rw [ih (by omega), this]
    unfold nu
    by_cases e : nb = k
    · subst e
      have : sp_gn gone nb nb = true := by
        unfold sp_gn
        rw [if_pos rfl]
      rw [this, if_pos rfl, gk, if_neg (by decide), lo nb (Nat.le_refl _)]
    · have ih := nu_gn gk nb (by omega)
      have : sp_gn gone k nb = gone nb := by
        unfold sp_gn
        rw [if_neg e]
      rw [this]
      cases gone nb with
      | true => rw [if_pos rfl, if_pos rfl]; exact ih
      | false => rw [if_neg (by decide), if_neg (by decide)]; omega
