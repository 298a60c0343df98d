/-! The model's spell: a pile of nodes and signs -/
def it_v : Int32 ⊕ Nat → Int32
  | .inl c => 0 - c
  | .inr k => nI k
def it_t (T : Nat → Nat → Int32) (S : Int32) (E : Nat → Int32) : Int32 ⊕ Nat → List Int32
  | .inl c => [c]
  | .inr k => sp_pt T S E (k + 1) k
def it_w (T : Nat → Nat → Int32) : Int32 ⊕ Nat → Nat
  | .inl _ => 1
  | .inr k => 3 * (T 3 k).toNatClampNeg
def it_ok (k0 : Nat) : Int32 ⊕ Nat → Prop
  | .inl c => ¬ 0 ≤ 0 - c
  | .inr k => k ≤ k0
def pl_t (T : Nat → Nat → Int32) (S : Int32) (E : Nat → Int32) : List (Int32 ⊕ Nat) → List Int32
  | [] => []
  | x :: r => it_t T S E x ++ pl_t T S E r
def pl_w (T : Nat → Nat → Int32) : List (Int32 ⊕ Nat) → Nat
  | [] => 0
  | x :: r => it_w T x + pl_w T r
theorem nt_sz {T : Nat → Nat → Int32} {m : Nat} (hT : nt_ok T m) {k : Nat} (hk : k < m) : ∃ s, T 3 k = nI s ∧ 1 ≤ s ∧ s ≤ 60 := by
  obtain ⟨⟨s, g0, g1, g2, -⟩, -⟩ := hT.2.1 k hk
  exact ⟨s, g0, g1, g2⟩
theorem pl_len {T : Nat → Nat → Int32} {m : Nat} (hT : nt_ok T m) {k0 : Nat} (hk : k0 < m) : ∀ pl : List (Int32 ⊕ Nat), (∀ x ∈ pl, it_ok k0 x) → pl.length ≤ pl_w T pl
  | [], _ => Nat.le_refl _
  | .inl c :: r, h => by
    have := pl_len hT hk r (fun x hx => h x (List.mem_cons_of_mem _ hx))
    show r.length + 1 ≤ 1 + pl_w T r
    omega
  | .inr k :: r, h => by
    have ih := pl_len hT hk r (fun x hx => h x (List.mem_cons_of_mem _ hx))
    have hk' : k ≤ k0 := h _ List.mem_cons_self
    obtain ⟨s, h1, h2, h3⟩ := nt_sz hT (show k < m by omega)
    show r.length + 1 ≤ 3 * (T 3 k).toNatClampNeg + pl_w T r
    rw [h1, nI_clamp (by omega)]
    omega
theorem pl_fit {M : mc_M} {x : Int32 ⊕ Nat} {r : List (Int32 ⊕ Nat)} (h : ∀ i y, (x :: r)[i]? = some y → M 97 ((x :: r).length - 1 - i) = it_v y) : M 97 r.length = it_v x ∧ ∀ i y, r[i]? = some y → M 97 (r.length - 1 - i) = it_v y := by
  refine ⟨?_, fun i y hy => ?_⟩
  · have := h 0 x rfl
    rw [List.length_cons] at this
    exact this
  · have h1 := h (i + 1) y (by simpa using hy)
    rw [List.length_cons, show r.length + 1 - 1 - (i + 1) = r.length - 1 - i by omega] at h1
    exact h1
theorem sp_num_0 : sp_num 0 = [48] := by decide +kernel
section SPL
variable {g : mc_G} {d n : Nat} {M : mc_M} {L : mc_L} {Q : Option Value → mc_M → mc_L → Prop} {T : Nat → Nat → Int32} {m : Nat} {tx : List Int32}
/-- what a text call leaves -/
def spf (M M' : mc_M) : Prop := (∀ c, c ≠ 64 → c ≠ 78 → c ≠ 79 → c ≠ 96 → c ≠ 97 → M' c = M c) ∧ ∀ i, i ≠ 42 → M' 64 i = M 64 i
theorem spf_tr {M M' M'' : mc_M} (h : spf M M') (h' : spf M' M'') : spf M M'' := ⟨fun c h1 h2 h3 h4 h5 => (h'.1 c h1 h2 h3 h4 h5).trans (h.1 c h1 h2 h3 h4 h5), fun i hi => (h'.2 i hi).trans (h.2 i hi)⟩
theorem spf_t {M M' : mc_M} (h : tfR M M') : spf M M' := ⟨fun c h1 _ _ h4 _ => h.1 c h1 h4, h.2⟩
theorem spl_lp (hT : nt_ok T m) {D : Int32} {E : Nat → Int32} {k0 : Nat} (hk0 : k0 < m) (hN : nt_R M T m) (h24 : M 64 24 = D) {x w0 : Int32} (hd : 2 ≤ d) {tF : List Int32} (hF : tF.length + 12 < 2 ^ 31)
    (h : ∀ M', spf M M' → txR M' tF → Q none M' L) (K : mc_K) (hK : mc_closed true tab0 n 0 none (shR_spell g d) Q (fun _ _ _ => False) tbR_spell K) :
    ∀ (w : Nat) (pl : List (Int32 ⊕ Nat)) (i : Int32) (t1 : List Int32) (M1 : mc_M), pl_w T pl ≤ w → w ≤ 180 → (∀ y ∈ pl, it_ok k0 y) → i = nI pl.length → (∀ j y, pl[j]? = some y → M1 97 (pl.length - 1 - j) = it_v y) → spf M M1 → (∀ j, j ≤ k0 → M1 79 j = nd_val (T 0) (T 1) (T 2) E j) → txR M1 t1 → t1 ++ pl_t T (255 &&& (D ^^^ (-1))) E pl = tF → K 37 [some (.ref 64), some (.int x), some (.int w0), some (.int i), none] [] n M1 L := by
  have hm := hT.1
  intro w
  induction w with
  | zero =>
    intro pl i t1 M1 hw _ hok hi hp hf h79 ht hF'
    have hl := pl_len hT hk0 pl hok
    have e0 : pl = [] := by
      cases pl with
      | nil => rfl
      | cons y r =>
        have : r.length + 1 ≤ pl_w T (y :: r) := hl
        omega
    subst e0
    subst hi
    have q := h M1 hf (by rw [← hF']; show txR M1 (t1 ++ []); rw [List.append_nil]; exact ht)
    exact hK.1 [] 20 37 _ _ _ _ _ ⟨fun _ => ⟨Nat.le_refl _, q⟩, fun z => absurd (show nI ([] : List (Int32 ⊕ Nat)).length ≤ 0 by decide) z⟩
  | succ w ih =>
    intro pl i t1 M1 hw hw180 hok hi hp hf h79 ht hF'
    cases pl with
    | nil =>
      subst hi
      have q := h M1 hf (by rw [← hF']; show txR M1 (t1 ++ []); rw [List.append_nil]; exact ht)
      exact hK.1 [] 20 37 _ _ _ _ _ ⟨fun _ => ⟨Nat.le_refl _, q⟩, fun z => absurd (show nI ([] : List (Int32 ⊕ Nat)).length ≤ 0 by decide) z⟩
    | cons y r =>
      have hl := pl_len hT hk0 (y :: r) hok
      have hlr : r.length + 1 ≤ 180 := by
        have : r.length + 1 ≤ pl_w T (y :: r) := hl
        omega
      subst hi
      obtain ⟨p1, p2⟩ := pl_fit hp
      have hokr : ∀ z ∈ r, it_ok k0 z := fun z hz => hok z (List.mem_cons_of_mem _ hz)
      have c1 : ¬ nI (y :: r).length ≤ 0 := nI_nle (by simp) (by rw [List.length_cons]; omega)
      have ei : nI (y :: r).length + (-1) = nI r.length := by
        rw [← Int32.sub_eq_add_neg, List.length_cons, nI_pred]
      have vi : vp_in (nI (y :: r).length + (-1)) 200 := by rw [ei]; exact vp_in_nI (by omega) (by decide)
      have e97 : M1 97 (nI (y :: r).length + (-1)).toNatClampNeg = it_v y := by rw [ei, nI_clamp (by omega), p1]
      have tl : t1.length ≤ tF.length := by rw [← hF', List.length_append]; omega
      have hN1 : ∀ c, 65 ≤ c → c ≤ 69 → M1 c = M c := fun c _ _ => hf.1 c (by omega) (by omega) (by omega) (by omega) (by omega)
      have e24 : M1 64 24 = D := by rw [hf.2 24 (by decide), h24]
      have wr : pl_w T (y :: r) = it_w T y + pl_w T r := rfl
      have nxt : 1 ≤ it_w T y → ∀ (v : Option Value) M2, tfR M1 M2 → txR M2 (t1 ++ it_t T (255 &&& (D ^^^ (-1))) E y) → K 37 [some (.ref 64), some (.int x), some (.int w0), some (.int (nI (y :: r).length + (-1))), v] [] n M2 L := fun h1 v M2 a1 a2 => by
        refine hK.2 [true, true, true, true, false] _ _ _ _ _ _ ?_
        refine ih r _ (t1 ++ it_t T (255 &&& (D ^^^ (-1))) E y) M2 (by omega) (by omega) hokr ei (fun j z hz => ?_) (spf_tr hf (spf_t a1)) (fun j hj => ?_) a2 (by rw [List.append_assoc]; exact hF')
        · rw [a1.1 97 (by decide) (by decide)]
          exact p2 j z hz
        · rw [a1.1 79 (by decide) (by decide)]
          exact h79 j hj
      cases y with
      | inl c =>
        have hc : ¬ 0 ≤ 0 - c := hok _ List.mem_cons_self
        have c2 : ¬ 0 ≤ M1 97 (nI ((Sum.inl c : Int32 ⊕ Nat) :: r).length + (-1)).toNatClampNeg := by rw [e97]; exact hc
        have e2 : 0 - M1 97 (nI ((Sum.inl c : Int32 ⊕ Nat) :: r).length + (-1)).toNatClampNeg = c := by
          rw [e97]
          show 0 - (0 - c) = c
          simp
        exact hK.1 [37] 40 37 _ _ _ _ _ ⟨fun z => absurd z c1, fun _ => ⟨vi, fun z => absurd z c2, fun _ => cR_put ht (by omega) (by omega) (fun M2 a1 a2 => nxt (Nat.le_refl _) _ M2 a2 (by rw [e2] at a1; exact a1))⟩⟩
      | inr k =>
        have hk : k ≤ k0 := hok _ List.mem_cons_self
        have hkm : k < m := by omega
        obtain ⟨s, hs, hs1, hs60⟩ := nt_sz hT hkm
        have iw : it_w T (.inr k) = 3 * s := by
          show 3 * (T 3 k).toNatClampNeg = 3 * s
          rw [hs, nI_clamp (by omega)]
        have c2 : 0 ≤ M1 97 (nI ((Sum.inr k : Int32 ⊕ Nat) :: r).length + (-1)).toNatClampNeg := by rw [e97]; exact nI_pos' (by omega)
        have e2 : (M1 97 (nI ((Sum.inr k : Int32 ⊕ Nat) :: r).length + (-1)).toNatClampNeg).toNatClampNeg = k := by rw [e97]; exact nI_clamp (by omega)
        have vk : vp_in (M1 97 (nI ((Sum.inr k : Int32 ⊕ Nat) :: r).length + (-1)).toNatClampNeg) 150 := by rw [e97]; exact vp_in_nI (by omega) (by decide)
        have t4 : M1 69 (M1 97 (nI ((Sum.inr k : Int32 ⊕ Nat) :: r).length + (-1)).toNatClampNeg).toNatClampNeg &&& M1 64 24 = T 4 k &&& ((255 &&& (D ^^^ (-1))) ^^^ (-1)) := by
          rw [e2, e24, hN1 69 (by decide) (by decide), t4_known hT, show M 69 k = T 4 k from hN.2 4 (by decide) k hkm]
        have r0 : M1 65 (M1 97 (nI ((Sum.inr k : Int32 ⊕ Nat) :: r).length + (-1)).toNatClampNeg).toNatClampNeg = T 0 k := by
          rw [e2, hN1 65 (by decide) (by decide)]
          exact hN.2 0 (by decide) k hkm
        have r1 : M1 66 (M1 97 (nI ((Sum.inr k : Int32 ⊕ Nat) :: r).length + (-1)).toNatClampNeg).toNatClampNeg = T 1 k := by
          rw [e2, hN1 66 (by decide) (by decide)]
          exact hN.2 1 (by decide) k hkm
        have r2 : M1 67 (M1 97 (nI ((Sum.inr k : Int32 ⊕ Nat) :: r).length + (-1)).toNatClampNeg).toNatClampNeg = T 2 k := by
          rw [e2, hN1 67 (by decide) (by decide)]
          exact hN.2 2 (by decide) k hkm
        have pt : it_t T (255 &&& (D ^^^ (-1))) E (.inr k) = if (T 4 k &&& ((255 &&& (D ^^^ (-1))) ^^^ (-1))) = 0 then sp_num (nd_val (T 0) (T 1) (T 2) E k) else if T 0 k = 1 then [97 + T 1 k] else 40 :: (sp_pt T (255 &&& (D ^^^ (-1))) E k (T 1 k).toNatClampNeg ++ (sp_op (T 0 k) :: (sp_pt T (255 &&& (D ^^^ (-1))) E k (T 2 k).toNatClampNeg ++ [41]))) := rfl
        by_cases k4 : (T 4 k &&& ((255 &&& (D ^^^ (-1))) ^^^ (-1))) = 0
        · have o1 := t4.trans k4
          rw [if_pos k4] at pt
          have e79 : M1 79 (M1 97 (nI ((Sum.inr k : Int32 ⊕ Nat) :: r).length + (-1)).toNatClampNeg).toNatClampNeg = nd_val (T 0) (T 1) (T 2) E k := by rw [e2, h79 k hk]
          exact hK.1 [37] 60 37 _ _ _ _ _ ⟨fun z => absurd z c1, fun _ => ⟨vi, fun _ => ⟨vk, fun z => absurd o1 z, fun _ => ⟨vk, cR_number ht (by omega) (by omega) (fun M2 a1 a2 => nxt (by omega) _ M2 a2 (by rw [e79] at a1; rw [pt]; exact a1))⟩⟩, fun z => absurd c2 z⟩⟩
        · have o1 : ¬ M1 69 (M1 97 (nI ((Sum.inr k : Int32 ⊕ Nat) :: r).length + (-1)).toNatClampNeg).toNatClampNeg &&& M1 64 24 = 0 := fun z => k4 (t4.symm.trans z)
          rw [if_neg k4] at pt
          by_cases k1 : T 0 k = 1
          · have y1 := r0.trans k1
            rw [if_pos k1] at pt
            exact hK.1 [37] 60 37 _ _ _ _ _ ⟨fun z => absurd z c1, fun _ => ⟨vi, fun _ => ⟨vk, fun _ => ⟨vk, fun z => absurd y1 z, fun _ => ⟨vk, cR_put ht (by omega) (by omega) (fun M2 a1 a2 => nxt (by omega) _ M2 a2 (by rw [r1] at a1; rw [pt]; exact a1))⟩⟩, fun z => absurd z o1⟩, fun z => absurd c2 z⟩⟩
          · have n1 : ¬ M1 65 (M1 97 (nI ((Sum.inr k : Int32 ⊕ Nat) :: r).length + (-1)).toNatClampNeg).toNatClampNeg = 1 := fun z => k1 (r0.symm.trans z)
            rw [if_neg k1] at pt
            obtain ⟨-, a, b, s', sa, sb, ha, hb, hA, hB, hs', hsa, hsb, hss, h60, h1, h2, h4, g2, g6⟩ := nt_in hT (fun z => k4 (and_0_of z)) k1
            have es : s' = s := (nI_eq (by omega) (by omega)).mp (hs'.symm.trans hs)
            rw [hA, hB, nI_clamp (by omega), nI_clamp (by omega), sp_pt_fuel hT a k (a + 1) ha (by omega), sp_pt_fuel hT b k (b + 1) hb (by omega)] at pt
            have op_ok : ∀ q : Int32, ¬ 0 ≤ 0 - sp_op q := fun q => by
              unfold sp_op
              split
              · decide
              · split
                · decide
                · split
                  · decide
                  · split
                    · decide
                    · decide
            have wa : it_w T (.inr a) = 3 * sa := by
              show 3 * (T 3 a).toNatClampNeg = 3 * sa
              rw [hsa, nI_clamp (by omega)]
            have wb : it_w T (.inr b) = 3 * sb := by
              show 3 * (T 3 b).toNatClampNeg = 3 * sb
              rw [hsb, nI_clamp (by omega)]
            have wn : pl_w T (.inr a :: .inl (sp_op (T 0 k)) :: .inr b :: .inl 41 :: r) ≤ w := by
              show it_w T (.inr a) + (1 + (it_w T (.inr b) + (1 + pl_w T r))) ≤ w
              omega
            have okn : ∀ z ∈ (.inr a :: .inl (sp_op (T 0 k)) :: .inr b :: .inl 41 :: r : List (Int32 ⊕ Nat)), it_ok k0 z := fun z hz => by
              rcases List.mem_cons.mp hz with rfl | hz
              · show a ≤ k0
                omega
              · rcases List.mem_cons.mp hz with rfl | hz
                · exact op_ok _
                · rcases List.mem_cons.mp hz with rfl | hz
                  · show b ≤ k0
                    omega
                  · rcases List.mem_cons.mp hz with rfl | hz
                    · show ¬ (0 : Int32) ≤ 0 - 41
                      decide
                    · exact hokr z hz
            have hl4 : r.length + 4 ≤ 180 := by
              have := pl_len hT hk0 _ okn
              have h5 : r.length + 1 + 1 + 1 + 1 ≤ pl_w T (.inr a :: .inl (sp_op (T 0 k)) :: .inr b :: .inl 41 :: r) := this
              omega
            have i1 : nI (((Sum.inr k : Int32 ⊕ Nat)) :: r).length + (-1) + 1 = nI (r.length + 1) := by rw [ei, nI_1]
            have i2 : nI (((Sum.inr k : Int32 ⊕ Nat)) :: r).length + (-1) + 2 = nI (r.length + 2) := by rw [ei]; exact nI_add _ 2
            have i3 : nI (((Sum.inr k : Int32 ⊕ Nat)) :: r).length + (-1) + 3 = nI (r.length + 3) := by rw [ei]; exact nI_add _ 3
            have i4 : nI (((Sum.inr k : Int32 ⊕ Nat)) :: r).length + (-1) + 4 = nI (r.length + 4) := by rw [ei]; exact nI_add _ 4
            have v1 : vp_in (nI (((Sum.inr k : Int32 ⊕ Nat)) :: r).length + (-1) + 1) 200 := by rw [i1]; exact vp_in_nI (by omega) (by decide)
            have v2 : vp_in (nI (((Sum.inr k : Int32 ⊕ Nat)) :: r).length + (-1) + 2) 200 := by rw [i2]; exact vp_in_nI (by omega) (by decide)
            have v3 : vp_in (nI (((Sum.inr k : Int32 ⊕ Nat)) :: r).length + (-1) + 3) 200 := by rw [i3]; exact vp_in_nI (by omega) (by decide)
            have fin : ∀ (v : Option Value) (ob oo oa : Int32) M2, tfR M1 M2 → txR M2 (t1 ++ [40]) → ob = nI b → oo = 0 - sp_op (T 0 k) → oa = nI a → K 37 [some (.ref 64), some (.int x), some (.int w0), some (.int (nI (((Sum.inr k : Int32 ⊕ Nat)) :: r).length + (-1) + 4)), v] [] n (mc_put (mc_put (mc_put (mc_put M2 97 (nI (((Sum.inr k : Int32 ⊕ Nat)) :: r).length + (-1)).toNatClampNeg (-41)) 97 (nI (((Sum.inr k : Int32 ⊕ Nat)) :: r).length + (-1) + 1).toNatClampNeg ob) 97 (nI (((Sum.inr k : Int32 ⊕ Nat)) :: r).length + (-1) + 2).toNatClampNeg oo) 97 (nI (((Sum.inr k : Int32 ⊕ Nat)) :: r).length + (-1) + 3).toNatClampNeg oa) L := fun v ob oo oa M2 a1 a2 z1 z2 z3 => by
              rw [z1, z2, z3, i1, i2, i3, i4, ei, nI_clamp (by omega), nI_clamp (by omega), nI_clamp (by omega), nI_clamp (by omega)]
              refine hK.2 [true, true, true, true, false] _ _ _ _ _ _ ?_
              have o97 : ∀ c, c ≠ 97 → ∀ l, mc_put (mc_put (mc_put (mc_put M2 97 r.length (-41)) 97 (r.length + 1) (nI b)) 97 (r.length + 2) (0 - sp_op (T 0 k))) 97 (r.length + 3) (nI a) c l = M2 c l := fun c hc l => by
                rw [mc_put_at, if_neg (fun z => hc z.1), mc_put_at, if_neg (fun z => hc z.1), mc_put_at, if_neg (fun z => hc z.1), mc_put_at, if_neg (fun z => hc z.1)]
              refine ih (.inr a :: .inl (sp_op (T 0 k)) :: .inr b :: .inl 41 :: r) _ (t1 ++ [40]) _ wn (by omega) okn rfl (fun j z hz => ?_) ⟨fun c q1 q2 q3 q4 q5 => ?_, fun i hi => ?_⟩ (fun j hj => ?_) ⟨?_, fun i hi c hc => ?_⟩ ?_
              · have lenE : (.inr a :: .inl (sp_op (T 0 k)) :: .inr b :: .inl 41 :: r : List (Int32 ⊕ Nat)).length = r.length + 4 := rfl
                rw [lenE]
                match j, hz with
                | 0, hz =>
                  have : z = .inr a := (Option.some.inj hz).symm
                  subst this
                  rw [mc_put_at, if_pos ⟨rfl, by omega⟩]
                  rfl
                | 1, hz =>
                  have : z = .inl (sp_op (T 0 k)) := (Option.some.inj hz).symm
                  subst this
                  rw [mc_put_at, if_neg (by omega), mc_put_at, if_pos ⟨rfl, by omega⟩]
                  rfl
                | 2, hz =>
                  have : z = .inr b := (Option.some.inj hz).symm
                  subst this
                  rw [mc_put_at, if_neg (by omega), mc_put_at, if_neg (by omega), mc_put_at, if_pos ⟨rfl, by omega⟩]
                  rfl
                | 3, hz =>
                  have : z = .inl 41 := (Option.some.inj hz).symm
                  subst this
                  rw [mc_put_at, if_neg (by omega), mc_put_at, if_neg (by omega), mc_put_at, if_neg (by omega), mc_put_at, if_pos ⟨rfl, by omega⟩]
                  rfl
                | j + 4, hz =>
                  have hz' : r[j]? = some z := hz
                  have hj := (List.getElem?_eq_some_iff.mp hz').1
                  rw [mc_put_at, if_neg (by omega), mc_put_at, if_neg (by omega), mc_put_at, if_neg (by omega), mc_put_at, if_neg (by omega), a1.1 97 (by decide) (by decide), show r.length + 4 - 1 - (j + 4) = r.length - 1 - j by omega]
                  exact p2 j z hz'
              · funext l
                rw [o97 c q5 l, a1.1 c q1 q4, hf.1 c q1 q2 q3 q4 q5]
              · rw [o97 64 (by decide) i, a1.2 i hi, hf.2 i hi]
              · rw [o97 79 (by decide) j, a1.1 79 (by decide) (by decide), h79 j hj]
              · rw [o97 64 (by decide) 42]
                exact a2.1
              · rw [o97 96 (by decide) i]
                exact a2.2 i hi c hc
              · rw [← hF']
                show (t1 ++ [40]) ++ (it_t T (255 &&& (D ^^^ (-1))) E (.inr a) ++ ([sp_op (T 0 k)] ++ (it_t T (255 &&& (D ^^^ (-1))) E (.inr b) ++ ([41] ++ pl_t T (255 &&& (D ^^^ (-1))) E r)))) = t1 ++ (it_t T (255 &&& (D ^^^ (-1))) E (.inr k) ++ pl_t T (255 &&& (D ^^^ (-1))) E r)
                rw [pt]
                simp [it_t]
            have rr0 : ∀ M2, tfR M1 M2 → M2 65 (M1 97 (nI ((Sum.inr k : Int32 ⊕ Nat) :: r).length + (-1)).toNatClampNeg).toNatClampNeg = T 0 k := fun M2 a => by rw [a.1 65 (by decide) (by decide), r0]
            have rr1 : ∀ M2, tfR M1 M2 → M2 66 (M1 97 (nI ((Sum.inr k : Int32 ⊕ Nat) :: r).length + (-1)).toNatClampNeg).toNatClampNeg = nI a := fun M2 a => by rw [a.1 66 (by decide) (by decide), r1, hA]
            have rr2 : ∀ M2, tfR M1 M2 → M2 67 (M1 97 (nI ((Sum.inr k : Int32 ⊕ Nat) :: r).length + (-1)).toNatClampNeg).toNatClampNeg = nI b := fun M2 a => by rw [a.1 67 (by decide) (by decide), r2, hB]
            exact hK.1 [37] 140 37 _ _ _ _ _ ⟨fun z => absurd z c1, fun _ => ⟨vi, fun _ => ⟨vk, fun _ => ⟨vk, fun _ => cR_put ht (by omega) (by omega) (fun M2 a1 a2 => ⟨vi, vk, v1, vk,
              fun z2 => ⟨vk, fun z3 => ⟨vk, fun z4 => ⟨vk, fun z5 => ⟨v2, vk, v3, fin _ _ _ _ M2 a2 a1 (rr2 M2 a2) (by
                have q2 : ¬ T 0 k = 2 := fun z => z2 ((rr0 M2 a2).trans z)
                have q3 : ¬ T 0 k = 3 := fun z => z3 ((rr0 M2 a2).trans z)
                have q4 : ¬ T 0 k = 4 := fun z => z4 ((rr0 M2 a2).trans z)
                have q5 : ¬ T 0 k = 5 := fun z => z5 ((rr0 M2 a2).trans z)
                unfold sp_op
                rw [if_neg q2, if_neg q3, if_neg q4, if_neg q5]
                rfl) (rr1 M2 a2)⟩, fun z5 => ⟨v2, vk, v3, fin _ _ _ _ M2 a2 a1 (rr2 M2 a2) (by
                have q5 : T 0 k = 5 := (rr0 M2 a2).symm.trans z5
                rw [q5]
                rfl) (rr1 M2 a2)⟩⟩, fun z4 => ⟨v2, vk, v3, fin _ _ _ _ M2 a2 a1 (rr2 M2 a2) (by
                have q4 : T 0 k = 4 := (rr0 M2 a2).symm.trans z4
                rw [q4]
                rfl) (rr1 M2 a2)⟩⟩, fun z3 => ⟨v2, vk, v3, fin _ _ _ _ M2 a2 a1 (rr2 M2 a2) (by
                have q3 : T 0 k = 3 := (rr0 M2 a2).symm.trans z3
                rw [q3]
                rfl) (rr1 M2 a2)⟩⟩, fun z2 => ⟨v2, vk, v3, fin _ _ _ _ M2 a2 a1 (rr2 M2 a2) (by
                have q2 : T 0 k = 2 := (rr0 M2 a2).symm.trans z2
                rw [q2]
                rfl) (rr1 M2 a2)⟩⟩), fun z => absurd z n1⟩, fun z => absurd z o1⟩, fun z => absurd c2 z⟩⟩
end SPL
