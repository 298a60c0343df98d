/-! Live static values decide what mixing leaves -/
def agr (S W : Int32) (E E' : Nat → Int32) : Prop := ∀ v, v < 8 → fl_bit S v = true → fl_bit W v = true → E v = E' v
theorem grw_anti {x y : Int32} (h : grw x y) (h' : grw y x) : x = y := st_ext h'.1 (fun v hv => by
  cases hx : fl_bit x v with
  | true => exact (h.2 v hv hx).symm
  | false =>
    cases hy : fl_bit y v with
    | false => rfl
    | true =>
      rw [h'.2 v hv hy] at hx
      cases hx)
theorem sp_dyn_cl {T : Nat → Nat → Int32} : ∀ (l : List Asg) (D : Int32), (∀ a ∈ l, a.1 < 8) → sp_dyn T l D = D → ∀ a ∈ l, ¬ (T 4 a.2.1 &&& D) = 0 → fl_bit D a.1 = true
  | [], _, _, _, a, ha, _ => absurd ha List.not_mem_nil
  | (v, k, fr) :: l, D, h, e, a, ha, hne => by
    have hv : v < 8 := h _ List.mem_cons_self
    have hl : ∀ a ∈ l, a.1 < 8 := fun a ha => h a (List.mem_cons_of_mem _ ha)
    unfold sp_dyn at e
    have g1 : grw D (if ¬ (T 4 k &&& D) = 0 then D ||| (1 <<< (nI v &&& 31)) else D) := by
      split
      · exact grw_or hv
      · exact grw_rf D
    have g2 := sp_dyn_grw (T := T) l (if ¬ (T 4 k &&& D) = 0 then D ||| (1 <<< (nI v &&& 31)) else D) hl
    have g3 := g2
    rw [e] at g3
    have e1 := grw_anti g1 g3
    rw [← e1] at e
    rcases List.mem_cons.mp ha with ha | ha
    · subst ha
      rw [if_pos hne] at e1
      rw [e1, fl_bit_or _ _ hv, fl_bit_one hv hv]
      simp
    · exact sp_dyn_cl l D hl e a ha hne
theorem sp_dr_cl {T : Nat → Nat → Int32} {P : Nat → Blk} (hP : ∀ b, b < 16 → ∀ a ∈ (P b).2.1, a.1 < 8) : ∀ (r b : Nat) (D : Int32), r + b = 16 → sp_dr T P r b D = D → ∀ c, b ≤ c → c < 16 → ∀ a ∈ (P c).2.1, ¬ (T 4 a.2.1 &&& D) = 0 → fl_bit D a.1 = true
  | 0, b, D, hr, _, c, h1, h2 => by omega
  | r + 1, b, D, hr, e, c, h1, h2 => by
    unfold sp_dr at e
    have g1 := sp_dyn_grw (T := T) _ D (hP b (by omega))
    have g2 := sp_dr_grw (T := T) hP r (b + 1) (sp_dyn T (P b).2.1 D) (by omega)
    rw [e] at g2
    have e1 := grw_anti g1 g2
    rw [← e1] at e
    by_cases ec : c = b
    · rw [ec]
      exact sp_dyn_cl _ D (hP b (by omega)) e1.symm
    · exact sp_dr_cl hP r (b + 1) D (by omega) e c (by omega) h2
theorem and_0_bit {x y : Int32} (h : x &&& y = 0) {v : Nat} (hv : v < 8) (hx : fl_bit x v = true) : fl_bit y v = false := by
  have := fl_bit_and x y hv
  rw [h, fl_bit_0, hx] at this
  exact (by simpa using this.symm)
/-- what is assigned to a static variable has static variables alone -/
def scl (T : Nat → Nat → Int32) (S : Int32) (l : List Asg) : Prop := ∀ a ∈ l, fl_bit S a.1 = true → ∀ u, u < 8 → fl_bit (T 4 a.2.1) u = true → fl_bit S u = true
theorem st_bit (D : Int32) {v : Nat} (hv : v < 8) : fl_bit (255 &&& (D ^^^ (-1))) v = !fl_bit D v := by
  rw [fl_bit_and _ _ hv, fl_bit_not _ hv, fl_bit_255 hv]
  rfl
theorem scl_of {T : Nat → Nat → Int32} {P : Nat → Blk} (hP : ∀ b, b < 16 → ∀ a ∈ (P b).2.1, a.1 < 8) {D : Int32} (h : sp_dr T P 16 0 D = D) {b : Nat} (hb : b < 16) : scl T (255 &&& (D ^^^ (-1))) (P b).2.1 := fun a ha hs u hu hT => by
  have hv := hP b hb a ha
  rw [st_bit D hv] at hs
  rw [st_bit D hu]
  by_cases e : (T 4 a.2.1 &&& D) = 0
  · rw [and_0_bit e hu hT]
    rfl
  · rw [sp_dr_cl hP 16 0 D rfl h b (Nat.zero_le _) hb a ha e] at hs
    cases hs
theorem fl_fr_agr {T : Nat → Nat → Int32} {S : Int32} {E E' : Nat → Int32} {k : Nat} (h : agr S (T 4 k) E E') : fl_fr T S E 0 k = fl_fr T S E' 0 k := by
  funext v
  unfold fl_fr
  by_cases e : v < 8 ∧ fl_bit S v = true ∧ fl_bit (T 4 k) v = true
  · rw [if_pos e, if_pos e, Nat.zero_mul, Nat.zero_add]
    exact h v e.1 e.2.1 e.2.2
  · rw [if_neg e, if_neg e]
theorem mixa_agr {T : Nat → Nat → Int32} {m : Nat} (hT : nt_ok T m) {S s : Int32} : ∀ (l : List Asg) (E E' : Nat → Int32), (∀ a ∈ l, a.1 < 8) → scl T S l → agr S (mback T l s) E E' → (sp_mixa T S l E).2 = (sp_mixa T S l E').2 ∧ agr S s (sp_mixa T S l E).1 (sp_mixa T S l E').1
  | [], E, E', _, _, h => ⟨rfl, h⟩
  | (v, k, fr) :: r, E, E', hl, hc, h => by
    have hv : v < 8 := hl _ List.mem_cons_self
    have hl' : ∀ a ∈ r, a.1 < 8 := fun a ha => hl a (List.mem_cons_of_mem _ ha)
    have hc' : scl T S r := fun a ha => hc a (List.mem_cons_of_mem _ ha)
    have hb : ∀ u, u < 8 → fl_bit (mback T ((v, k, fr) :: r) s) u = ((fl_bit (mback T r s) u && !decide (u = v)) || fl_bit (T 4 k) u) := fun u hu => by
      show fl_bit ((mback T r s &&& ((1 <<< (nI v &&& 31)) ^^^ (-1))) ||| T 4 k) u = _
      rw [fl_bit_or _ _ hu, fl_bit_and _ _ hu, fl_bit_not _ hu, fl_bit_one hv hu]
    have hk : agr S (T 4 k) E E' := fun u hu hs ht => h u hu hs (by rw [hb u hu, ht]; simp)
    have ho : ∀ u, u < 8 → u ≠ v → fl_bit S u = true → fl_bit (mback T r s) u = true → E u = E' u := fun u hu hne hs ht => h u hu hs (by rw [hb u hu, ht]; simp [hne])
    unfold sp_mixa
    by_cases hS : fl_bit S v = true
    · rw [if_pos hS, if_pos hS]
      have ev : nd_val (T 0) (T 1) (T 2) E k = nd_val (T 0) (T 1) (T 2) E' k := nd_val_env hT k (fun u hu ht => hk u hu (hc _ List.mem_cons_self hS u hu ht) ht)
      rw [ev]
      refine mixa_agr hT r _ _ hl' hc' (fun u hu hs ht => ?_)
      unfold upd
      by_cases e : u = v
      · rw [if_pos e, if_pos e]
      · rw [if_neg e, if_neg e]
        exact ho u hu e hs ht
    · rw [if_neg hS, if_neg hS]
      obtain ⟨i1, i2⟩ := mixa_agr hT r E E' hl' hc' (s := s) (fun u hu hs ht => ho u hu (fun z => hS (z ▸ hs)) hs ht)
      exact ⟨by rw [fl_fr_agr hk, i1], i2⟩
/-! The class's states as the model has them -/
def mst (M : mc_M) (kept : Nat → Int32) (q : Stt) (s : Nat) : Prop := ∀ k, k < s → M 80 k = nI (q k).1 ∧ (q k).1 < 16 ∧ ∀ v, v < 8 → fl_bit (kept (q k).1) v = true → M 81 (k * 8 + v) = (q k).2 v
def qwf (kept : Nat → Int32) (q : Stt) (s : Nat) : Prop := ∀ k, k < s → ∀ v, v < 8 → fl_bit (kept (q k).1) v = false → (q k).2 v = 0
def smt (q : Stt) (b : Nat) (wv : Nat → Int32) (k : Nat) : Prop := (q k).1 = b ∧ ∀ v, v < 8 → (q k).2 v = wv v
theorem look_some {q : Stt} {b : Nat} {wv : Nat → Int32} : ∀ (r k0 k : Nat), k0 ≤ k → k < k0 + r → smt q b wv k → (∀ j, k0 ≤ j → j < k → ¬ smt q b wv j) → sp_look q b wv r k0 = some k
  | 0, k0, k, h1, h2, _, _ => by omega
  | r + 1, k0, k, h1, h2, hm, hn => by
    unfold sp_look
    by_cases e : k0 = k
    · subst e
      rw [if_pos ⟨hm.1, (sp_sm_iff _ _).mpr hm.2⟩]
    · rw [if_neg (fun z => hn k0 (Nat.le_refl _) (by omega) ⟨z.1, (sp_sm_iff _ _).mp z.2⟩)]
      exact look_some r (k0 + 1) k (by omega) (by omega) hm (fun j hj hj2 => hn j (by omega) hj2)
theorem look_none {q : Stt} {b : Nat} {wv : Nat → Int32} : ∀ (r k0 : Nat), (∀ j, k0 ≤ j → j < k0 + r → ¬ smt q b wv j) → sp_look q b wv r k0 = none
  | 0, _, _ => rfl
  | r + 1, k0, hn => by
    unfold sp_look
    rw [if_neg (fun z => hn k0 (Nat.le_refl _) (by omega) ⟨z.1, (sp_sm_iff _ _).mp z.2⟩)]
    exact look_none r (k0 + 1) (fun j hj hj2 => hn j (by omega) (by omega))
theorem look_is {q : Stt} {b : Nat} {wv : Nat → Int32} : ∀ (r k0 k : Nat), sp_look q b wv r k0 = some k → k0 ≤ k ∧ k < k0 + r ∧ smt q b wv k ∧ ∀ j, k0 ≤ j → j < k → ¬ smt q b wv j
  | 0, k0, k, h => by cases h
  | r + 1, k0, k, h => by
    unfold sp_look at h
    split at h
    · next z =>
      cases h
      exact ⟨Nat.le_refl _, by omega, ⟨z.1, (sp_sm_iff _ _).mp z.2⟩, fun j h1 h2 => by omega⟩
    · next z =>
      obtain ⟨a1, a2, a3, a4⟩ := look_is r (k0 + 1) k h
      refine ⟨by omega, by omega, a3, fun j h1 h2 => ?_⟩
      by_cases e : j = k0
      · rw [e]
        exact fun w => z ⟨w.1, (sp_sm_iff _ _).mpr w.2⟩
      · exact a4 j (by omega) h2
theorem look_isn {q : Stt} {b : Nat} {wv : Nat → Int32} : ∀ (r k0 : Nat), sp_look q b wv r k0 = none → ∀ j, k0 ≤ j → j < k0 + r → ¬ smt q b wv j
  | 0, k0, _, j, h1, h2 => by omega
  | r + 1, k0, h, j, h1, h2 => by
    unfold sp_look at h
    split at h
    · cases h
    · next z =>
      by_cases e : j = k0
      · rw [e]
        exact fun w => z ⟨w.1, (sp_sm_iff _ _).mpr w.2⟩
      · exact look_isn r (k0 + 1) h j (by omega) (by omega)
theorem mmat_iff {M : mc_M} {kept : Nat → Int32} {q : Stt} {s b k : Nat} {lk : Int32} {E : Nat → Int32} (hs : mst M kept q s) (hw : qwf kept q s) (hb : b < 16) (hl : ∀ v, v < 8 → fl_bit lk v = fl_bit (kept b) v) (hE : ∀ v, v < 8 → fl_bit (kept b) v = true → M 78 v = E v) (hk : k < s) : mmat M lk (nI b) k ↔ smt q b (sp_wt kept E b) k := by
  obtain ⟨a1, a2, a3⟩ := hs k hk
  have eb : M 80 k = nI b ↔ (q k).1 = b := by
    rw [a1]
    exact nI_eq (by omega) (by omega)
  constructor
  · rintro ⟨h1, h2⟩
    have e := eb.mp h1
    refine ⟨e, fun v hv => ?_⟩
    unfold sp_wt
    cases hkb : fl_bit (kept b) v with
    | true =>
      rw [if_pos ⟨hv, rfl⟩, ← hE v hv hkb, ← h2 v hv (by rw [hl v hv]; exact hkb)]
      exact (a3 v hv (by rw [e]; exact hkb)).symm
    | false =>
      rw [if_neg (fun z => by cases z.2)]
      exact hw k hk v hv (by rw [e]; exact hkb)
  · rintro ⟨h1, h2⟩
    refine ⟨eb.mpr h1, fun v hv hb => ?_⟩
    rw [hl v hv] at hb
    rw [a3 v hv (by rw [h1]; exact hb), h2 v hv, hE v hv hb]
    unfold sp_wt
    rw [if_pos ⟨hv, hb⟩]
theorem qwf_add {kept : Nat → Int32} {q : Stt} {s b : Nat} {E : Nat → Int32} (h : qwf kept q s) : qwf kept (sp_add q s b (sp_wt kept E b)) (s + 1) := fun k hk v hv hb => by
  unfold sp_add at hb ⊢
  by_cases e : k = s
  · rw [if_pos e] at hb ⊢
    show sp_wt kept E b v = 0
    unfold sp_wt
    rw [if_neg (fun z => by have h2 : fl_bit (kept b) v = false := hb; rw [h2] at z; cases z.2)]
  · rw [if_neg e] at hb ⊢
    exact h k (by omega) v hv hb
theorem qwf_come {kept : Nat → Int32} {q : Stt} {s b : Nat} {ov : Bool} {E : Nat → Int32} (h : qwf kept q s) : qwf kept (sp_come kept q s ov E b).1.1 (sp_come kept q s ov E b).1.2.1 := by
  unfold sp_come
  split
  · exact h
  · split
    · exact qwf_add h
    · exact h
