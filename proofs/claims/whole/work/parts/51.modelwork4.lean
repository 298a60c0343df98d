/-! The model's work, with writing -/
def mp_as (T : Nat → Nat → Int32) (S : Int32) (M : mc_M) (p : Nat) : Asg := ((M 92 p).toNatClampNeg, (M 93 p).toNatClampNeg, fl_fr T S (M 94) p (M 93 p).toNatClampNeg)
def mp_ok (M : mc_M) (m p : Nat) : Prop := ∃ v k, v < 8 ∧ k < m ∧ M 92 p = nI v ∧ M 93 p = nI k
/-- the parts of the block that is written -/
def mpt (T : Nat → Nat → Int32) (m : Nat) (S : Int32) (M : mc_M) (k p0 p : Nat) (l : List Asg) (ps : List Nat) : Prop :=
  pch (M 91) (M 85 k) ps ∧ (∀ x, ps.getLast? = some x → M 86 k = nI x) ∧ ps.Nodup ∧ (∀ s ∈ ps, p0 ≤ s ∧ s < p) ∧ M 64 33 = nI p ∧ (∀ s ∈ ps, mp_ok M m s) ∧ l = ps.map (mp_as T S M)
def a1fr (k p0 : Nat) (M M' : mc_M) : Prop := (∀ c, c ≠ 64 → c ≠ 78 → c ≠ 79 → c ≠ 85 → c ≠ 86 → c ≠ 91 → c ≠ 92 → c ≠ 93 → c ≠ 94 → M' c = M c) ∧ (∀ i, i ≠ 33 → M' 64 i = M 64 i) ∧ (∀ j, j ≠ k → M' 85 j = M 85 j ∧ M' 86 j = M 86 j) ∧ (∀ j, j < p0 → M' 91 j = M 91 j ∧ M' 92 j = M 92 j ∧ M' 93 j = M 93 j) ∧ ∀ j v, j < p0 → v < 8 → M' 94 (j * 8 + v) = M 94 (j * 8 + v)
theorem fl_fr_eq {T : Nat → Nat → Int32} {S : Int32} {F G : Nat → Int32} {s t k : Nat} (h : ∀ v, v < 8 → F (s * 8 + v) = G (t * 8 + v)) : fl_fr T S F s k = fl_fr T S G t k := by
  funext v
  unfold fl_fr
  by_cases e : v < 8 ∧ fl_bit S v = true ∧ fl_bit (T 4 k) v = true
  · rw [if_pos e, if_pos e, h v e.1]
  · rw [if_neg e, if_neg e]
theorem mp_as_eq {T : Nat → Nat → Int32} {S : Int32} {M M' : mc_M} {p : Nat} (h2 : M' 92 p = M 92 p) (h3 : M' 93 p = M 93 p) (h4 : ∀ v, v < 8 → M' 94 (p * 8 + v) = M 94 (p * 8 + v)) : mp_as T S M' p = mp_as T S M p := by
  unfold mp_as
  rw [h2, h3, fl_fr_eq h4]
/-- a new part behind the others -/
theorem mpt_new {T : Nat → Nat → Int32} {m : Nat} {S : Int32} {M M1 M2 : mc_M} {k p0 p v nd lb : Nat} {l : List Asg} {ps : List Nat} (h : mpt T m S M k p0 p l ps) (hp0 : p0 ≤ p) (hp : p < 1100) (hv : v < 8) (hnd : nd < m) (hm : m ≤ 150) (hlb : ∀ x, ps.getLast? = some x → x = lb) (h1 : ptR M M1 p (nI v) (nI nd)) (h2 : M2 = apR M1 k lb (nI p)) :
    mpt T m S M2 k p0 (p + 1) (l ++ [(v, nd, fl_fr T S (M 78) 0 nd)]) (ps ++ [p]) ∧ a1fr k p0 M M2 := by
  obtain ⟨a1, a2, a3, a4, a5, a6, a7⟩ := h
  obtain ⟨b1, b2, b3, b4, b5, b6⟩ := h1
  have pn : p ∉ ps := fun z => absurd (a4 p z).2 (Nat.lt_irrefl _)
  have c85 : M1 85 = M 85 := b1 85 (by decide) (by decide) (by decide) (by decide) (by decide)
  have c86 : M1 86 = M 86 := b1 86 (by decide) (by decide) (by decide) (by decide) (by decide)
  have o : ∀ c, c ≠ 85 → c ≠ 86 → c ≠ 91 → M2 c = M1 c := fun c h1 h3 h4 => by
    rw [h2]
    unfold apR
    funext w
    rw [mc_put_at, if_neg (fun z => h3 z.1)]
    split
    · rw [mc_put_at, if_neg (fun z => h1 z.1)]
    · rw [mc_put_at, if_neg (fun z => h4 z.1)]
  have o86 : ∀ j, M2 86 j = if j = k then nI p else M 86 j := fun j => by
    rw [h2]
    unfold apR
    rw [mc_put_at]
    by_cases e : j = k
    · rw [if_pos ⟨rfl, e⟩, if_pos e]
    · rw [if_neg (fun z => e z.2), if_neg e]
      split
      · rw [mc_put_at, if_neg (by omega), c86]
      · rw [mc_put_at, if_neg (by omega), c86]
  have oas : ∀ s ∈ ps, mp_as T S M2 s = mp_as T S M s := fun s hs => by
    have ne : s ≠ p := fun z => pn (z ▸ hs)
    refine mp_as_eq ?_ ?_ (fun v hv => ?_)
    · rw [o 92 (by decide) (by decide) (by decide), b4, if_neg ne]
    · rw [o 93 (by decide) (by decide) (by decide), b5, if_neg ne]
    · rw [o 94 (by decide) (by decide) (by decide), b6 s v hv, if_neg ne]
  have n92 : M2 92 p = nI v := by rw [o 92 (by decide) (by decide) (by decide), b4, if_pos rfl]
  have n93 : M2 93 p = nI nd := by rw [o 93 (by decide) (by decide) (by decide), b5, if_pos rfl]
  have nas : mp_as T S M2 p = (v, nd, fl_fr T S (M 78) 0 nd) := by
    unfold mp_as
    rw [n92, n93, nI_clamp (by omega), nI_clamp (by omega)]
    rw [fl_fr_eq (G := M 78) (t := 0) (fun v hv => by rw [o 94 (by decide) (by decide) (by decide), b6 p v hv, if_pos rfl, Nat.zero_mul, Nat.zero_add])]
  have ch : pch (M2 91) (M2 85 k) (ps ++ [p]) := by
    cases hps : ps.getLast? with
    | none =>
      have e0 : ps = [] := by simpa using hps
      rw [e0] at a1 ⊢
      have a1' : M1 85 k = -1 := by rw [c85]; exact a1
      have e85 : M2 85 k = nI p := by
        rw [h2]
        unfold apR
        rw [if_pos a1', mc_put_at, if_neg (by omega), mc_put_at, if_pos ⟨rfl, rfl⟩]
      have e91 : M2 91 p = -1 := by
        rw [h2]
        unfold apR
        rw [if_pos a1', mc_put_at, if_neg (by omega), mc_put_at, if_neg (by omega), b3, if_pos rfl]
      exact ⟨e85, hp, e91⟩
    | some x =>
      have ex := hlb x hps
      subst ex
      have n1 : ¬ M1 85 k = -1 := by
        rw [c85]
        cases ps with
        | nil => cases hps
        | cons t r =>
          rw [a1.1]
          exact nI_ne_m1 (by have := a1.2.1; omega)
      have xm : x ∈ ps := List.mem_of_getLast? hps
      have e85 : M2 85 k = M 85 k := by
        rw [h2]
        unfold apR
        rw [if_neg n1, mc_put_at, if_neg (by omega), mc_put_at, if_neg (by omega), c85]
      have e91 : ∀ j, M2 91 j = if j = x then nI p else if j = p then -1 else M 91 j := fun j => by
        rw [h2]
        unfold apR
        rw [if_neg n1, mc_put_at, if_neg (by omega), mc_put_at]
        by_cases e : j = x
        · rw [if_pos ⟨rfl, e⟩, if_pos e]
        · rw [if_neg (fun z => e z.2), if_neg e, b3]
      rw [e85]
      have px : ¬ p = x := fun z => pn (z ▸ xm)
      have hr : pch (M2 91) (nI p) [p] := ⟨rfl, hp, by
        show M2 91 p = -1
        rw [e91, if_neg px, if_pos rfl]⟩
      refine pch_app (N := M 91) hr (by rw [e91, if_pos rfl]) (fun s h1 h2 => ?_) hps a3 (fun s hs hs2 => ?_) a1
      · rw [e91, if_neg h1, if_neg (fun z => h2 (by rw [z]; exact List.mem_singleton.mpr rfl))]
      · rw [List.mem_singleton.mp hs2] at hs
        exact pn hs
  refine ⟨⟨ch, fun x hx => ?_, ?_, fun s hs => ?_, ?_, fun s hs => ?_, ?_⟩, fun c h1 h3 h4 h5 h6 h7 h8 h9 h10 => ?_, fun i hi => ?_, fun j hj => ⟨?_, ?_⟩, fun j hj => ⟨?_, ?_, ?_⟩, fun j v hj hv => ?_⟩
  · have : x = p := by simpa using hx.symm
    rw [o86, if_pos rfl, this]
  · exact List.nodup_append.mpr ⟨a3, List.nodup_cons.mpr ⟨List.not_mem_nil, List.nodup_nil⟩, fun a ha b hb => fun z => pn (by rw [← List.mem_singleton.mp hb, ← z]; exact ha)⟩
  · rcases List.mem_append.mp hs with hs | hs
    · have := a4 s hs
      omega
    · rw [List.mem_singleton.mp hs]
      omega
  · rw [o 64 (by decide) (by decide) (by decide), b2, if_pos rfl]
  · rcases List.mem_append.mp hs with hs | hs
    · have ne : s ≠ p := fun z => pn (z ▸ hs)
      obtain ⟨v', k', q1, q2, q3, q4⟩ := a6 s hs
      refine ⟨v', k', q1, q2, ?_, ?_⟩
      · rw [o 92 (by decide) (by decide) (by decide), b4, if_neg ne, q3]
      · rw [o 93 (by decide) (by decide) (by decide), b5, if_neg ne, q4]
    · rw [List.mem_singleton.mp hs]
      exact ⟨v, nd, hv, hnd, n92, n93⟩
  · rw [List.map_append, List.map_congr_left oas, ← a7, List.map_cons, List.map_nil, nas]
  · rw [o c h5 h6 h7, b1 c h1 h7 h8 h9 h10]
  · rw [o 64 (by decide) (by decide) (by decide), b2, if_neg hi]
  · rw [h2]
    unfold apR
    rw [mc_put_at, if_neg (by omega)]
    split
    · rw [mc_put_at, if_neg (fun z => hj z.2), c85]
    · rw [mc_put_at, if_neg (by omega), c85]
  · rw [o86, if_neg hj]
  · rw [h2]
    unfold apR
    rw [mc_put_at, if_neg (by omega)]
    split
    · rw [mc_put_at, if_neg (by omega), b3, if_neg (by omega)]
    · next n1 =>
      rw [mc_put_at, if_neg (fun z => ?_), b3, if_neg (by omega)]
      cases hps : ps.getLast? with
      | none =>
        have e0 : ps = [] := by simpa using hps
        rw [e0] at a1
        exact n1 (by rw [c85]; exact a1)
      | some x =>
        have := hlb x hps
        have := (a4 x (List.mem_of_getLast? hps)).1
        omega
  · rw [o 92 (by decide) (by decide) (by decide), b4, if_neg (by omega)]
  · rw [o 93 (by decide) (by decide) (by decide), b5, if_neg (by omega)]
  · rw [o 94 (by decide) (by decide) (by decide), b6 j v hv, if_neg (by omega)]
theorem a1fr_tr {k p0 : Nat} {M M' M'' : mc_M} (h : a1fr k p0 M M') (h' : a1fr k p0 M' M'') : a1fr k p0 M M'' :=
  ⟨fun c h1 h2 h3 h4 h5 h6 h7 h8 h9 => (h'.1 c h1 h2 h3 h4 h5 h6 h7 h8 h9).trans (h.1 c h1 h2 h3 h4 h5 h6 h7 h8 h9), fun i hi => (h'.2.1 i hi).trans (h.2.1 i hi), fun j hj => ⟨(h'.2.2.1 j hj).1.trans (h.2.2.1 j hj).1, (h'.2.2.1 j hj).2.trans (h.2.2.1 j hj).2⟩, fun j hj => ⟨(h'.2.2.2.1 j hj).1.trans (h.2.2.2.1 j hj).1, (h'.2.2.2.1 j hj).2.1.trans (h.2.2.2.1 j hj).2.1, (h'.2.2.2.1 j hj).2.2.trans (h.2.2.2.1 j hj).2.2⟩, fun j v hj hv => (h'.2.2.2.2 j v hj hv).trans (h.2.2.2.2 j v hj hv)⟩
theorem a1fr_n {k p0 : Nat} {M M' : mc_M} (h : ∀ c, c ≠ 78 → c ≠ 79 → M' c = M c) : a1fr k p0 M M' :=
  ⟨fun c _ h2 h3 _ _ _ _ _ _ => h c h2 h3, fun i _ => by rw [h 64 (by decide) (by decide)], fun j _ => ⟨by rw [h 85 (by decide) (by decide)], by rw [h 86 (by decide) (by decide)]⟩, fun j _ => ⟨by rw [h 91 (by decide) (by decide)], by rw [h 92 (by decide) (by decide)], by rw [h 93 (by decide) (by decide)]⟩, fun j v _ _ => by rw [h 94 (by decide) (by decide)]⟩
theorem mpt_to {T : Nat → Nat → Int32} {m : Nat} {S : Int32} {M M' : mc_M} {k p0 p : Nat} {l : List Asg} {ps : List Nat} (h : mpt T m S M k p0 p l ps) (h33 : M' 64 33 = M 64 33) (h85 : M' 85 k = M 85 k) (h86 : M' 86 k = M 86 k) (hM : ∀ c, 91 ≤ c → c ≤ 94 → M' c = M c) : mpt T m S M' k p0 p l ps := by
  unfold mpt mp_ok mp_as at *
  rw [h33, h85, h86, hM 91 (by decide) (by decide), hM 92 (by decide) (by decide), hM 93 (by decide) (by decide), hM 94 (by decide) (by decide)]
  exact h
section WK3
variable {g : mc_G} {d n : Nat} {M : mc_M} {L : mc_L} {Q : Option Value → mc_M → mc_L → Prop} {T : Nat → Nat → Int32} {m : Nat} {P : Nat → Blk} {K : mc_K}
theorem wk_asg1 (hK : mc_closed true tab0 n 0 none (shR_work g (d + 1)) Q (fun _ _ _ => False) tbR_work K) {D : Int32} (hT : nt_ok T m) (hR : mxR T m P D M) {k b p0 : Nat} (hk : k < 100) (hb : b < 16) (hp0 : p0 + 10 < 1100) {F : Nat → Int32} {lF : List Asg}
    (h : ∀ i M2 ps p, a1fr k p0 M M2 → (∀ v, v < 8 → M2 78 v = F v) → p ≤ p0 + 10 → p0 ≤ p → mpt T m (255 &&& (D ^^^ (-1))) M2 k p0 p lF ps → K 158 [some (.ref 64), some (.int (nI k)), some (.int 1), some (.int (nI b)), some (.int i), none, none, none, none] [] n M2 L) :
    ∀ (r a : Nat) (i : Int32) (E : Nat → Int32) (M1 : mc_M) (l : List Asg) (ps : List Nat) (p : Nat), r + a = (P b).2.1.length → i = nI (b * 10 + a) → a1fr k p0 M M1 → (∀ v, v < 8 → M1 78 v = E v) → p ≤ p0 + a → p0 ≤ p → mpt T m (255 &&& (D ^^^ (-1))) M1 k p0 p l ps → (sp_mixa T (255 &&& (D ^^^ (-1))) ((P b).2.1.drop a) E).1 = F → l ++ (sp_mixa T (255 &&& (D ^^^ (-1))) ((P b).2.1.drop a) E).2 = lF → K 48 [some (.ref 64), some (.int (nI k)), some (.int 1), some (.int (nI b)), some (.int i), none, none, none, none] [] n M1 L := by
  have hm150 := hT.1
  obtain ⟨hN, hP, hJ, h21, hY⟩ := hR
  obtain ⟨p1, p2, p3⟩ := hP b hb
  have vb : vp_in (nI b) 16 := vp_in_nI hb (by decide)
  have eb : (nI b).toNatClampNeg = b := nI_clamp (by omega)
  have e10 : (10 : Int32) * nI b = nI (b * 10) := by rw [show (10 : Int32) = nI 10 from rfl, nI_mul, Nat.mul_comm]
  intro r
  induction r with
  | zero =>
    intro a i E M1 l ps p hr hi e1 e2 hpa hpp hm hF hlF
    subst hi
    rw [List.drop_eq_nil_of_le (by omega)] at hF hlF
    have hlF' : l = lF := by rw [← hlF]; exact (List.append_nil l).symm
    subst hlF'
    have c1 : 10 * nI b + M1 70 (nI b).toNatClampNeg ≤ nI (b * 10 + a) := by
      rw [e10, eb, e1.1 70 (by decide) (by decide) (by decide) (by decide) (by decide) (by decide) (by decide) (by decide) (by decide), p1, nI_add]
      exact nI_le (by omega) (by omega)
    exact hK.1 [158] 40 48 _ _ _ _ _ ⟨vb, fun _ => h _ M1 ps p e1 (fun v hv => by rw [e2 v hv, ← hF]; rfl) (by omega) hpp hm, fun z => absurd c1 z⟩
  | succ r ih =>
    intro a i E M1 l ps p hr hi e1 e2 hpa hpp hm hF hlF
    subst hi
    obtain ⟨v, nd, hv, hnd, hlk, m71, m72⟩ := p3 a (by omega)
    have hil := (List.getElem?_eq_some_iff.mp hlk).1
    have hdr : (P b).2.1.drop a = (v, nd, fun _ => 0) :: (P b).2.1.drop (a + 1) := by rw [List.drop_eq_getElem_cons hil, (List.getElem?_eq_some_iff.mp hlk).2]
    rw [hdr] at hF hlF
    unfold sp_mixa at hF hlF
    have fr : ∀ c, 65 ≤ c → c ≤ 76 → M1 c = M c := fun c h1 h2 => e1.1 c (by omega) (by omega) (by omega) (by omega) (by omega) (by omega) (by omega) (by omega) (by omega)
    have c1 : ¬ 10 * nI b + M1 70 (nI b).toNatClampNeg ≤ nI (b * 10 + a) := by
      rw [e10, eb, fr 70 (by decide) (by decide), p1, nI_add]
      exact nI_ge (by omega) (by omega)
    have ei : (nI (b * 10 + a)).toNatClampNeg = b * 10 + a := nI_clamp (by omega)
    have vi : vp_in (nI (b * 10 + a)) 160 := vp_in_nI (by omega) (by decide)
    have e71 : M1 71 (nI (b * 10 + a)).toNatClampNeg = nI v := by rw [ei, fr 71 (by decide) (by decide), m71]
    have e72 : M1 72 (nI (b * 10 + a)).toNatClampNeg = nI nd := by rw [ei, fr 72 (by decide) (by decide), m72]
    have vv : vp_in (M1 71 (nI (b * 10 + a)).toNatClampNeg) 8 := by rw [e71]; exact vp_in_nI hv (by decide)
    have e21 : M1 64 21 = D := by rw [e1.2.1 21 (by decide), h21]
    have hN1 : nt_R M1 T m := nt_R_to hN (e1.2.1 1 (by decide)) (fun c _ _ => fr c (by omega) (by omega))
    have nx : nI (b * 10 + a) + 1 = nI (b * 10 + (a + 1)) := nI_1 _
    cases hD : fl_bit D v with
    | true =>
      have hb1 : (M1 64 21 >>> (M1 71 (nI (b * 10 + a)).toNatClampNeg &&& 31)) &&& 1 = 1 := by rw [e21, e71]; exact fl_bit_t.mp hD
      rw [st_bit D hv, hD, if_neg (by decide)] at hF hlF
      have hlb : ∃ lb, ∀ x, ps.getLast? = some x → x = lb := by
        cases ps.getLast? with
        | none => exact ⟨0, fun x hx => by cases hx⟩
        | some y => exact ⟨y, fun x hx => (Option.some.inj hx).symm⟩
      obtain ⟨lb, hlb⟩ := hlb
      refine hK.1 [48] 60 48 _ _ _ _ _ ⟨vb, fun z => absurd z c1, fun _ => ⟨vi, fun z => absurd hb1 z, fun _ => ⟨fun z => absurd z (by decide), fun _ => ⟨fun z => absurd z (by decide), fun _ => ⟨vi, vi, cR_part hm.2.2.2.2.1 (by omega) (by omega) (fun r2 M2 hr2 hpt2 => cR_append (l := lb) rfl hk (fun n1 => ?_) (by omega) (fun M3 hM3 => ?_))⟩⟩⟩⟩⟩
      · have c85 : M2 85 = M1 85 := hpt2.1 85 (by decide) (by decide) (by decide) (by decide) (by decide)
        have c86 : M2 86 = M1 86 := hpt2.1 86 (by decide) (by decide) (by decide) (by decide) (by decide)
        rw [c85] at n1
        rw [c86]
        cases hps : ps.getLast? with
        | none =>
          have e0 : ps = [] := by simpa using hps
          have a1 := hm.1
          rw [e0] at a1
          exact absurd a1 n1
        | some x =>
          have ex := hlb x hps
          subst ex
          exact ⟨hm.2.1 x hps, pch_lt hm.1 x (List.mem_of_getLast? hps)⟩
      · rw [e71, e72] at hpt2
        rw [hr2] at hM3
        obtain ⟨w1, w2⟩ := mpt_new hm hpp (by omega) hv hnd hm150 hlb hpt2 hM3
        refine hK.2 [true, true, true, true, true, false, true, true, true] _ _ _ _ _ _ ?_
        refine ih (a + 1) _ E M3 _ _ (p + 1) (by omega) nx (a1fr_tr e1 w2) (fun u hu => ?_) (by omega) (by omega) w1 hF ?_
        · have e78 : M3 78 = M1 78 := by
            rw [hM3]
            unfold apR
            have q1 : M2 78 = M1 78 := hpt2.1 78 (by decide) (by decide) (by decide) (by decide) (by decide)
            funext w
            rw [mc_put_at, if_neg (by omega)]
            split
            · rw [mc_put_at, if_neg (by omega), q1]
            · rw [mc_put_at, if_neg (by omega), q1]
          rw [e78, e2 u hu]
        · rw [fl_fr_env e2, List.append_assoc]
          exact hlF
    | false =>
      have hb1 : ¬ (M1 64 21 >>> (M1 71 (nI (b * 10 + a)).toNatClampNeg &&& 31)) &&& 1 = 1 := by
        rw [e21, e71]
        intro z
        rw [fl_bit_t.mpr z] at hD
        cases hD
      rw [st_bit D hv, hD, if_pos (by decide)] at hF hlF
      refine hK.1 [48] 60 48 _ _ _ _ _ ⟨vb, fun z => absurd z c1, fun _ => ⟨vi, fun _ => ⟨fun _ => ⟨fun z => absurd rfl z, fun _ => ⟨vi, vi, cR_worthJ hT hN1 (Or.inr ⟨hnd, e72⟩) (fun u hu _ => e2 u hu) (by omega) (fun r' M2 hM hr' => ⟨vv, ?_⟩)⟩⟩, fun z => absurd rfl z⟩, fun z => absurd z hb1⟩⟩
      refine hK.2 [true, true, true, true, true, false, true, true, true] _ _ _ _ _ _ ?_
      rw [e71, nI_clamp (by omega)]
      have al : ∀ c, c ≠ 78 → c ≠ 79 → mc_put M2 78 v r' c = M1 c := fun c h1 h2 => by
        funext w
        rw [mc_put_at, if_neg (fun z => h1 z.1), hM c h2]
      refine ih (a + 1) _ (upd E v r') _ l ps p (by omega) nx (a1fr_tr e1 (a1fr_n al)) (fun u hu => ?_) (by omega) hpp (mpt_to hm (by rw [al 64 (by decide) (by decide)]) (by rw [al 85 (by decide) (by decide)]) (by rw [al 86 (by decide) (by decide)]) (fun c _ _ => al c (by omega) (by omega))) (by rw [hr']; exact hF) (by rw [hr']; exact hlF)
      rw [mc_put_at]
      unfold upd
      by_cases e : u = v
      · rw [if_pos ⟨rfl, e⟩, if_pos e]
      · rw [if_neg (fun z => e z.2), if_neg e, hM 78 (by decide), e2 u hu]
end WK3
