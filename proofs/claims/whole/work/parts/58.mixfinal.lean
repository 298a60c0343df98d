/-! What mixing leaves: states, targets, blocks -/
theorem come_ext {kept : Nat → Int32} {q : Stt} {s b : Nat} {ov : Bool} {E : Nat → Int32} : s ≤ (sp_come kept q s ov E b).1.2.1 ∧ ∀ k, k < s → (sp_come kept q s ov E b).1.1 k = q k := by
  unfold sp_come
  split
  · exact ⟨Nat.le_refl _, fun _ _ => rfl⟩
  · split
    · refine ⟨Nat.le_succ _, fun k hk => ?_⟩
      show sp_add q s b _ k = q k
      unfold sp_add
      rw [if_neg (by omega)]
    · exact ⟨Nat.le_refl _, fun _ _ => rfl⟩
/-- where it came to, a later look finds the same -/
theorem come_final {kept : Nat → Int32} {q qf : Stt} {s sf b : Nat} {E : Nat → Int32} (h : (sp_come kept q s false E b).1.2.2 = false) (hs : (sp_come kept q s false E b).1.2.1 ≤ sf) (hq : ∀ k, k < (sp_come kept q s false E b).1.2.1 → qf k = (sp_come kept q s false E b).1.1 k) : sp_come kept qf sf false E b = ((qf, sf, false), (sp_come kept q s false E b).2) ∧ ∃ t, t < sf ∧ (sp_come kept q s false E b).2 = nI t := by
  cases hl : sp_look q b (sp_wt kept E b) s 0 with
  | some k =>
    have e : sp_come kept q s false E b = ((q, s, false), nI k) := by
      unfold sp_come
      rw [hl]
    rw [e] at hs hq ⊢
    have hs' : s ≤ sf := hs
    have hq' : ∀ k, k < s → qf k = q k := hq
    obtain ⟨a1, a2, a3, a4⟩ := look_is s 0 k hl
    have l2 : sp_look qf b (sp_wt kept E b) sf 0 = some k := look_some sf 0 k (Nat.zero_le _) (by omega) (by
      unfold smt at a3 ⊢
      rw [hq' k (by omega)]
      exact a3) (fun j h1 h2 => by
      have := a4 j h1 h2
      unfold smt at this ⊢
      rw [hq' j (by omega)]
      exact this)
    refine ⟨?_, k, by omega, rfl⟩
    conv => lhs; unfold sp_come
    rw [l2]
  | none =>
    by_cases h1 : s < 100
    · have e : sp_come kept q s false E b = ((sp_add q s b (sp_wt kept E b), s + 1, false), nI s) := by
        unfold sp_come
        rw [hl]
        exact if_pos h1
      rw [e] at hs hq ⊢
      have hs' : s + 1 ≤ sf := hs
      have hq' : ∀ k, k < s + 1 → qf k = sp_add q s b (sp_wt kept E b) k := hq
      have a4 := look_isn s 0 hl
      have qs : qf s = (b, sp_wt kept E b) := by
        rw [hq' s (by omega)]
        unfold sp_add
        rw [if_pos rfl]
      have qo : ∀ j, j < s → qf j = q j := fun j hj => by
        rw [hq' j (by omega)]
        unfold sp_add
        rw [if_neg (by omega)]
      have l2 : sp_look qf b (sp_wt kept E b) sf 0 = some s := look_some sf 0 s (Nat.zero_le _) (by omega) (by
        unfold smt
        rw [qs]
        exact ⟨rfl, fun _ _ => rfl⟩) (fun j h1 h2 => by
        have := a4 j h1 (by omega)
        unfold smt at this ⊢
        rw [qo j h2]
        exact this)
      refine ⟨?_, s, by omega, rfl⟩
      conv => lhs; unfold sp_come
      rw [l2]
    · have e : sp_come kept q s false E b = ((q, s, true), -1) := by
        unfold sp_come
        rw [hl]
        exact if_neg h1
      rw [e] at h
      cases h
def jm_ok (J : Jmp) (sf : Nat) : Prop := (J.1 = 2 ∧ J.2.2.1 = -1 ∧ J.2.2.2 = -1) ∨ (J.1 = 0 ∧ (∃ t, t < sf ∧ J.2.2.1 = nI t) ∧ J.2.2.2 = -1) ∨ (J.1 = 1 ∧ (∃ t, t < sf ∧ J.2.2.1 = nI t) ∧ ∃ t, t < sf ∧ J.2.2.2 = nI t)
theorem mixj_ext {T : Nat → Nat → Int32} {S : Int32} {kept : Nat → Int32} {q : Stt} {s : Nat} {ov : Bool} {E : Nat → Int32} {B : Blk} : s ≤ (sp_mixj T S kept q s ov E B).1.2.1 ∧ ∀ k, k < s → (sp_mixj T S kept q s ov E B).1.1 k = q k := by
  refine ⟨?_, sp_mixj_lt⟩
  unfold sp_mixj
  split
  · exact Nat.le_refl _
  · split
    · exact Nat.le_trans come_ext.1 come_ext.1
    · exact come_ext.1
theorem mixj_final {T : Nat → Nat → Int32} {S : Int32} {kept : Nat → Int32} {q qf : Stt} {s sf : Nat} {E : Nat → Int32} {B : Blk} (hs : s ≤ 100) (h : (sp_mixj T S kept q s false E B).1.2.2 = false) (hsf : (sp_mixj T S kept q s false E B).1.2.1 ≤ sf) (hq : ∀ k, k < (sp_mixj T S kept q s false E B).1.2.1 → qf k = (sp_mixj T S kept q s false E B).1.1 k) : sp_mixj T S kept qf sf false E B = ((qf, sf, false), (sp_mixj T S kept q s false E B).2) ∧ jm_ok (sp_mixj T S kept q s false E B).2 sf := by
  unfold sp_mixj at h hsf hq ⊢
  by_cases k2 : B.2.2.1 = 2
  · rw [if_pos k2] at h hsf hq
    rw [if_pos k2, if_pos k2]
    exact ⟨rfl, Or.inl ⟨rfl, rfl, rfl⟩⟩
  · rw [if_neg k2] at h hsf hq
    rw [if_neg k2, if_neg k2]
    by_cases k1 : B.2.2.1 = 1 ∧ ¬ (T 4 B.2.2.2.1.1 &&& (S ^^^ (-1))) = 0
    · rw [if_pos k1] at h hsf hq
      rw [if_pos k1, if_pos k1]
      generalize B.2.2.2.2.1.toNatClampNeg = t at *
      generalize B.2.2.2.2.2.toNatClampNeg = u at *
      have c1 := come_mono (kept := kept) (q := q) (b := t) (ov := false) (E := E) hs
      have x1 := come_ext (kept := kept) (q := q) (s := s) (b := t) (ov := false) (E := E)
      generalize hA : sp_come kept q s false E t = A at *
      have ov1 : A.1.2.2 = false := by
        cases hb : A.1.2.2 with
        | false => rfl
        | true =>
          rw [hb] at h
          have := (come_mono (kept := kept) (q := A.1.1) (b := u) (ov := true) (E := E) c1.1).2 rfl
          rw [this] at h
          cases h
      rw [ov1] at h hsf hq ⊢
      have x2 := come_ext (kept := kept) (q := A.1.1) (s := A.1.2.1) (b := u) (ov := false) (E := E)
      have f2 := come_final h hsf hq
      have f1 := come_final (kept := kept) (q := q) (qf := qf) (s := s) (sf := sf) (b := t) (E := E) (by rw [hA]; exact ov1) (by rw [hA]; exact Nat.le_trans x2.1 hsf) (fun k hk => by
        rw [hA] at hk ⊢
        rw [hq k (Nat.lt_of_lt_of_le hk x2.1), x2.2 k hk])
      rw [hA] at f1
      rw [f1.1]
      refine ⟨?_, Or.inr (Or.inr ⟨rfl, f1.2, f2.2⟩)⟩
      show ((sp_come kept qf sf false E u).1, _) = _
      rw [f2.1]
    · rw [if_neg k1] at h hsf hq
      rw [if_neg k1, if_neg k1]
      generalize (if B.2.2.1 = 0 ∨ ¬ nd_val (T 0) (T 1) (T 2) E B.2.2.2.1.1 = 0 then B.2.2.2.2.1 else B.2.2.2.2.2).toNatClampNeg = t at *
      have f1 := come_final h hsf hq
      rw [f1.1]
      exact ⟨rfl, Or.inr (Or.inl ⟨rfl, f1.2, rfl⟩)⟩
theorem blk_final {T : Nat → Nat → Int32} {S : Int32} {kept : Nat → Int32} {P : Nat → Blk} {q qf : Stt} {s sf k : Nat} (hs : s ≤ 100) (hk : k < s) (h : (sp_blk T S kept P (q, s, false) k).1.2.2 = false) (hsf : (sp_blk T S kept P (q, s, false) k).1.2.1 ≤ sf) (hq : ∀ i, i < (sp_blk T S kept P (q, s, false) k).1.2.1 → qf i = (sp_blk T S kept P (q, s, false) k).1.1 i) : sp_blk T S kept P (qf, sf, false) k = ((qf, sf, false), (sp_blk T S kept P (q, s, false) k).2) ∧ jm_ok (sp_blk T S kept P (q, s, false) k).2.2.2 sf := by
  have x := mixj_ext (T := T) (S := S) (kept := kept) (q := q) (s := s) (ov := false) (E := (sp_mixa T S (P (q k).1).2.1 (q k).2).1) (B := P (q k).1)
  have ek : qf k = q k := by
    rw [hq k (Nat.lt_of_lt_of_le hk x.1)]
    exact x.2 k hk
  have f := mixj_final (qf := qf) (sf := sf) hs h hsf hq
  unfold sp_blk
  show ((sp_mixj T S kept qf sf false (sp_mixa T S (P (qf k).1).2.1 (qf k).2).1 (P (qf k).1)).1, (nI (qf k).1, (sp_mixa T S (P (qf k).1).2.1 (qf k).2).2, (sp_mixj T S kept qf sf false (sp_mixa T S (P (qf k).1).2.1 (qf k).2).1 (P (qf k).1)).2)) = _ ∧ _
  rw [ek, f.1]
  exact ⟨rfl, f.2⟩
theorem mixj_100 {T : Nat → Nat → Int32} {S : Int32} {kept : Nat → Int32} {q : Stt} {s : Nat} {ov : Bool} {E : Nat → Int32} {B : Blk} (hs : s ≤ 100) : (sp_mixj T S kept q s ov E B).1.2.1 ≤ 100 := by
  unfold sp_mixj
  split
  · exact hs
  · split
    · exact (come_mono (come_mono hs).1).1
    · exact (come_mono hs).1
theorem mixj_wf {T : Nat → Nat → Int32} {S : Int32} {kept : Nat → Int32} {q : Stt} {s : Nat} {ov : Bool} {E : Nat → Int32} {B : Blk} (hw : qwf kept q s) : qwf kept (sp_mixj T S kept q s ov E B).1.1 (sp_mixj T S kept q s ov E B).1.2.1 := by
  unfold sp_mixj
  split
  · exact hw
  · split
    · exact qwf_come (qwf_come hw)
    · exact qwf_come hw
theorem mx_ext {T : Nat → Nat → Int32} {S : Int32} {kept : Nat → Int32} {P : Nat → Blk} : ∀ (fu k : Nat) (st : Stt × Nat × Bool) (R : Nat → Blk), st.2.1 ≤ (sp_mx T S kept P fu k st R).1.2.1 ∧ (∀ i, i < st.2.1 → (sp_mx T S kept P fu k st R).1.1 i = st.1 i) ∧ ∀ i, i < k → (sp_mx T S kept P fu k st R).2 i = R i
  | 0, k, st, R => ⟨Nat.le_refl _, fun _ _ => rfl, fun _ _ => rfl⟩
  | fu + 1, k, st, R => by
    unfold sp_mx
    split
    · have ih := mx_ext (T := T) (S := S) (kept := kept) (P := P) fu (k + 1) (sp_blk T S kept P st k).1 (fun i => if i = k then (sp_blk T S kept P st k).2 else R i)
      have x := mixj_ext (T := T) (S := S) (kept := kept) (q := st.1) (s := st.2.1) (ov := st.2.2) (E := (sp_mixa T S (P (st.1 k).1).2.1 (st.1 k).2).1) (B := P (st.1 k).1)
      refine ⟨Nat.le_trans x.1 ih.1, fun i hi => ?_, fun i hi => ?_⟩
      · rw [ih.2.1 i (Nat.lt_of_lt_of_le hi x.1)]
        exact x.2 i hi
      · rw [ih.2.2 i (by omega), if_neg (by omega)]
    · exact ⟨Nat.le_refl _, fun _ _ => rfl, fun _ _ => rfl⟩
theorem mx_ov {T : Nat → Nat → Int32} {S : Int32} {kept : Nat → Int32} {P : Nat → Blk} (fu k : Nat) {st : Stt × Nat × Bool} (R : Nat → Blk) (h : st.2.2 = true) : sp_mx T S kept P fu k st R = (st, R) := by
  cases fu with
  | zero => rfl
  | succ fu =>
    unfold sp_mx
    rw [if_neg (fun z => by rw [h] at z; cases z.2)]
/-- one round of mixing, seen from its end -/
theorem mxn_step {T : Nat → Nat → Int32} {S : Int32} {kept : Nat → Int32} {P : Nat → Blk} {fu k s sf : Nat} {q qf : Stt} {R Rf : Nat → Blk} (hs : s ≤ 100) (hfu : 100 ≤ fu + k) (h : sp_mx T S kept P fu k (q, s, false) R = ((qf, sf, false), Rf)) (hk : k < sf) (hsf : sf ≤ 100) : ∃ fu', fu = fu' + 1 ∧ k < s ∧ (sp_blk T S kept P (q, s, false) k).1.2.2 = false ∧ (sp_blk T S kept P (q, s, false) k).1.2.1 ≤ 100 ∧ sp_mx T S kept P fu' (k + 1) (sp_blk T S kept P (q, s, false) k).1 (fun i => if i = k then (sp_blk T S kept P (q, s, false) k).2 else R i) = ((qf, sf, false), Rf) ∧ sp_blk T S kept P (qf, sf, false) k = ((qf, sf, false), Rf k) ∧ jm_ok (Rf k).2.2 sf := by
  cases fu with
  | zero => omega
  | succ fu =>
    have hks : k < s := by
      refine Nat.lt_of_not_le (fun z => ?_)
      unfold sp_mx at h
      rw [if_neg (fun w => by have : k < s := w.1; omega)] at h
      have : s = sf := by
        have h1 : (q, s, false) = (qf, sf, false) := congrArg Prod.fst h
        exact congrArg (fun x : Stt × Nat × Bool => x.2.1) h1
      omega
    have h' := h
    unfold sp_mx at h'
    rw [if_pos ⟨hks, rfl⟩] at h'
    have ov : (sp_blk T S kept P (q, s, false) k).1.2.2 = false := by
      cases hb : (sp_blk T S kept P (q, s, false) k).1.2.2 with
      | false => rfl
      | true =>
        rw [mx_ov fu (k + 1) _ hb] at h'
        have h1 : (sp_blk T S kept P (q, s, false) k).1 = (qf, sf, false) := congrArg Prod.fst h'
        rw [h1] at hb
        cases hb
    have x := mx_ext (T := T) (S := S) (kept := kept) (P := P) fu (k + 1) (sp_blk T S kept P (q, s, false) k).1 (fun i => if i = k then (sp_blk T S kept P (q, s, false) k).2 else R i)
    rw [h'] at x
    have f := blk_final (T := T) (S := S) (kept := kept) (P := P) (qf := qf) (sf := sf) hs hks ov x.1 x.2.1
    have eR : Rf k = (sp_blk T S kept P (q, s, false) k).2 := by
      have := x.2.2 k (by omega)
      rw [if_pos rfl] at this
      exact this
    refine ⟨fu, rfl, hks, ov, mixj_100 hs, h', ?_, ?_⟩
    · rw [f.1, eR]
    · rw [eR]
      exact f.2
