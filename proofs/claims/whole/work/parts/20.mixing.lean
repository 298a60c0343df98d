/-! What mixing writes -/
def tch (f k c l : Nat) : Prop := c = 25 ∨ c = 26 ∨ c = 27 ∨ c = 29 ∨ c = 30 ∨ (f + 1 ≤ c ∧ c ≤ f + 8 ∧ l = k) ∨ (f + 9 ≤ c ∧ c ≤ f + 11 ∧ k * 11 ≤ l ∧ l < k * 11 + 11) ∨ (c = f + 12 ∧ k * 88 ≤ l ∧ l < k * 88 + 88)
def mfr (f k : Nat) (M M' : mc_M) : Prop := ∀ c l, ¬ tch f k c l → M' c l = M c l
theorem mfr_rf (f k : Nat) (M : mc_M) : mfr f k M M := fun _ _ _ => rfl
theorem mfr_tr {f k : Nat} {M M' M'' : mc_M} (h : mfr f k M M') (h' : mfr f k M' M'') : mfr f k M M'' := fun c l z => (h' c l z).trans (h c l z)
theorem fl_app_at (M : mc_M) (f b c l : Nat) (v k : Int32) :
    (∀ x, fl_app M f b c l v k (f + 2) x = if x = b then nI (c + 1) else M (f + 2) x) ∧ (∀ x, fl_app M f b c l v k (f + 3) x = if c = 0 ∧ x = b then nI (b * 11 + c) else M (f + 3) x) ∧ (∀ x, fl_app M f b c l v k (f + 4) x = if x = b then nI (b * 11 + c) else M (f + 4) x) ∧
    (∀ x, fl_app M f b c l v k (f + 9) x = if x = b * 11 + c then v else M (f + 9) x) ∧ (∀ x, fl_app M f b c l v k (f + 10) x = if x = b * 11 + c then k else M (f + 10) x) ∧ (∀ x, fl_app M f b c l v k (f + 11) x = if ¬ c = 0 ∧ x = l then nI (b * 11 + c) else M (f + 11) x) ∧
    (∀ y x, y ≠ f + 2 → y ≠ f + 3 → y ≠ f + 4 → y ≠ f + 9 → y ≠ f + 10 → y ≠ f + 11 → fl_app M f b c l v k y x = M y x) := by
  unfold fl_app
  by_cases hc : c = 0
  · rw [if_pos hc]
    refine ⟨fun x => ?_, fun x => ?_, fun x => ?_, fun x => ?_, fun x => ?_, fun x => ?_, fun y x h1 h2 h3 h4 h5 h6 => ?_⟩ <;> simp [mc_put_at, *]
  · rw [if_neg hc]
    refine ⟨fun x => ?_, fun x => ?_, fun x => ?_, fun x => ?_, fun x => ?_, fun x => ?_, fun y x h1 h2 h3 h4 h5 h6 => ?_⟩ <;> simp [mc_put_at, *]
/-- a residual block's assignments, in its own steps -/
def rblk (T : Nat → Nat → Int32) (m : Nat) (S : Int32) (M : mc_M) (f k : Nat) (l : List Asg) : Prop :=
  M (f + 2) k = nI l.length ∧ l.length ≤ 10 ∧ (0 < l.length → M (f + 3) k = nI (k * 11) ∧ M (f + 4) k = nI (k * 11 + (l.length - 1))) ∧ (∀ i, i + 1 < l.length → M (f + 11) (k * 11 + i) = nI (k * 11 + (i + 1))) ∧ ∀ i, i < l.length → fl_sv M f m (k * 11 + i) ∧ l[i]? = some (fl_as T S M f (k * 11 + i))
theorem rblk_to {T : Nat → Nat → Int32} {m : Nat} {S : Int32} {M M' : mc_M} {f k b : Nat} {l : List Asg} (h : rblk T m S M f b l) (hM : mfr f k M M') (hf : 30 < f) (hbk : b ≠ k) : rblk T m S M' f b l := by
  obtain ⟨h1, h2, h3, h4, h5⟩ := h
  have e2 : M' (f + 2) b = M (f + 2) b := hM _ _ (by unfold tch; omega)
  have e3 : M' (f + 3) b = M (f + 3) b := hM _ _ (by unfold tch; omega)
  have e4 : M' (f + 4) b = M (f + 4) b := hM _ _ (by unfold tch; omega)
  have e9 : ∀ i, i < 11 → M' (f + 9) (b * 11 + i) = M (f + 9) (b * 11 + i) := fun i hi => hM _ _ (by unfold tch; omega)
  have e10 : ∀ i, i < 11 → M' (f + 10) (b * 11 + i) = M (f + 10) (b * 11 + i) := fun i hi => hM _ _ (by unfold tch; omega)
  have e11 : ∀ i, i < 11 → M' (f + 11) (b * 11 + i) = M (f + 11) (b * 11 + i) := fun i hi => hM _ _ (by unfold tch; omega)
  have e12 : ∀ i v, i < 11 → v < 8 → M' (f + 12) ((b * 11 + i) * 8 + v) = M (f + 12) ((b * 11 + i) * 8 + v) := fun i v hi hv => hM _ _ (by unfold tch; omega)
  refine ⟨by rw [e2]; exact h1, h2, fun z => by rw [e3, e4]; exact h3 z, fun i hi => by rw [e11 i (by omega)]; exact h4 i hi, fun i hi => ?_⟩
  obtain ⟨a1, a2⟩ := h5 i hi
  unfold fl_sv fl_as at *
  rw [e9 i (by omega), e10 i (by omega)]
  refine ⟨a1, ?_⟩
  rw [a2]
  congr 3
  funext v
  unfold fl_fr
  by_cases hv : v < 8 ∧ fl_bit S v = true ∧ fl_bit (T 4 (M (f + 10) (b * 11 + i)).toNatClampNeg) v = true
  · rw [if_pos hv, if_pos hv, e12 i v (by omega) hv.1]
  · rw [if_neg hv, if_neg hv]
def kp5 (f : Nat) (M M' : mc_M) : Prop := M' (f + 1) = M (f + 1) ∧ M' (f + 5) = M (f + 5) ∧ M' (f + 7) = M (f + 7) ∧ M' (f + 8) = M (f + 8)
theorem rblk_app {T : Nat → Nat → Int32} {m : Nat} {S : Int32} {M M1 M2 : mc_M} {f k v nd : Nat} {l : List Asg} (h : rblk T m S M f k l) (hf : 30 < f) (hl : l.length < 10) (hk : k < 100) (hv : v < 8) (hnd : nd < m ∨ nd = 150) (hm : m ≤ 150) (h1 : M1 = fl_app M f k l.length (k * 11 + (l.length - 1)) (nI v) (nI nd)) (h2 : M2 = mc_set M1 (f + 12) (va_cpy (M1 29) (M1 (f + 12)) 0 ((k * 11 + l.length) * 8) 8)) : rblk T m S M2 f k (l ++ [(v, nd, fl_fr T S (M 29) 0 nd)]) ∧ mfr f k M M2 ∧ (∀ c, c < f → M2 c = M c) ∧ kp5 f M M2 := by
  obtain ⟨p1, p2, p3, p4, p5⟩ := h
  obtain ⟨a2, a3, a4, a9, a10, a11, ao⟩ := fl_app_at M f k l.length (k * 11 + (l.length - 1)) (nI v) (nI nd)
  rw [← h1] at a2 a3 a4 a9 a10 a11 ao
  have m12 : ∀ c, c ≠ f + 12 → M2 c = M1 c := fun c hc => by rw [h2, mc_set_n hc]
  have e29 : M1 29 = M 29 := funext fun x => ao 29 x (by omega) (by omega) (by omega) (by omega) (by omega) (by omega)
  have q12 : ∀ x, M2 (f + 12) x = if (k * 11 + l.length) * 8 ≤ x ∧ x < (k * 11 + l.length) * 8 + 8 then M 29 (x - (k * 11 + l.length) * 8) else M (f + 12) x := fun x => by
    rw [h2, mc_set_s, e29]
    show (if (k * 11 + l.length) * 8 ≤ x ∧ x < (k * 11 + l.length) * 8 + 8 then M 29 (0 + (x - (k * 11 + l.length) * 8)) else M1 (f + 12) x) = _
    rw [Nat.zero_add, ao (f + 12) x (by omega) (by omega) (by omega) (by omega) (by omega) (by omega)]
  have e2 := m12 (f + 2) (by omega)
  have e3 := m12 (f + 3) (by omega)
  have e4 := m12 (f + 4) (by omega)
  have e9 := m12 (f + 9) (by omega)
  have e10 := m12 (f + 10) (by omega)
  have e11 := m12 (f + 11) (by omega)
  refine ⟨⟨?_, ?_, fun _ => ⟨?_, ?_⟩, fun i hi => ?_, fun i hi => ?_⟩, fun c x z => ?_, fun c hc => ?_, ?_, ?_, ?_, ?_⟩
  · rw [e2, a2, if_pos rfl]
    simp
  · simp
    omega
  · rw [e3, a3]
    by_cases h0 : l.length = 0
    · rw [if_pos ⟨h0, rfl⟩, h0]
      rfl
    · rw [if_neg (fun z => h0 z.1)]
      exact (p3 (by omega)).1
  · rw [e4, a4, if_pos rfl]
    simp
  · rw [List.length_append] at hi
    have hi' : i < l.length := by
      simp at hi
      omega
    rw [e11, a11]
    by_cases hx : i + 1 = l.length
    · rw [if_pos ⟨by omega, by omega⟩, hx]
    · rw [if_neg (fun z => by omega)]
      exact p4 i (by omega)
  · rw [List.length_append] at hi
    have hi' : i ≤ l.length := by
      simp at hi
      omega
    by_cases hx : i = l.length
    · subst hx
      have b9 : M2 (f + 9) (k * 11 + l.length) = nI v := by rw [e9, a9, if_pos rfl]
      have b10 : M2 (f + 10) (k * 11 + l.length) = nI nd := by rw [e10, a10, if_pos rfl]
      refine ⟨⟨⟨v, hv, b9⟩, nd, hnd, b10⟩, ?_⟩
      unfold fl_as
      rw [b9, b10, nI_clamp (by omega), nI_clamp (by omega)]
      rw [List.getElem?_append_right (Nat.le_refl _), Nat.sub_self]
      show some _ = some _
      congr 3
      funext u
      unfold fl_fr
      by_cases hu : u < 8 ∧ fl_bit S u = true ∧ fl_bit (T 4 nd) u = true
      · rw [if_pos hu, if_pos hu, q12, if_pos (by omega)]
        congr 1
        omega
      · rw [if_neg hu, if_neg hu]
    · obtain ⟨b1, b2⟩ := p5 i (by omega)
      have b9 : M2 (f + 9) (k * 11 + i) = M (f + 9) (k * 11 + i) := by rw [e9, a9, if_neg (by omega)]
      have b10 : M2 (f + 10) (k * 11 + i) = M (f + 10) (k * 11 + i) := by rw [e10, a10, if_neg (by omega)]
      unfold fl_sv fl_as at *
      rw [b9, b10, List.getElem?_append_left (by omega), b2]
      refine ⟨b1, ?_⟩
      congr 3
      funext u
      unfold fl_fr
      by_cases hu : u < 8 ∧ fl_bit S u = true ∧ fl_bit (T 4 (M (f + 10) (k * 11 + i)).toNatClampNeg) u = true
      · rw [if_pos hu, if_pos hu, q12, if_neg (by omega)]
      · rw [if_neg hu, if_neg hu]
  · unfold tch at z
    by_cases c12 : c = f + 12
    · rw [c12, q12, if_neg (by omega)]
    · rw [m12 c c12]
      by_cases c2 : c = f + 2
      · rw [c2, a2, if_neg (by omega)]
      by_cases c3 : c = f + 3
      · rw [c3, a3, if_neg (by omega)]
      by_cases c4 : c = f + 4
      · rw [c4, a4, if_neg (by omega)]
      by_cases c9 : c = f + 9
      · rw [c9, a9, if_neg (by omega)]
      by_cases c10 : c = f + 10
      · rw [c10, a10, if_neg (by omega)]
      by_cases c11 : c = f + 11
      · rw [c11, a11, if_neg (by omega)]
      exact ao c x c2 c3 c4 c9 c10 c11
  · rw [m12 c (by omega)]
    funext x
    exact ao c x (by omega) (by omega) (by omega) (by omega) (by omega) (by omega)
  · rw [m12 _ (by omega)]
    funext x
    exact ao _ x (by omega) (by omega) (by omega) (by omega) (by omega) (by omega)
  · rw [m12 _ (by omega)]
    funext x
    exact ao _ x (by omega) (by omega) (by omega) (by omega) (by omega) (by omega)
  · rw [m12 _ (by omega)]
    funext x
    exact ao _ x (by omega) (by omega) (by omega) (by omega) (by omega) (by omega)
  · rw [m12 _ (by omega)]
    funext x
    exact ao _ x (by omega) (by omega) (by omega) (by omega) (by omega) (by omega)
theorem kp5_tr {f : Nat} {M M' M'' : mc_M} (h : kp5 f M M') (h' : kp5 f M' M'') : kp5 f M M'' := ⟨h'.1.trans h.1, h'.2.1.trans h.2.1, h'.2.2.1.trans h.2.2.1, h'.2.2.2.trans h.2.2.2⟩
def sp_mixa (T : Nat → Nat → Int32) (S : Int32) : List Asg → (Nat → Int32) → (Nat → Int32) × List Asg
  | [], E => (E, [])
  | (v, k, _) :: r, E => if fl_bit S v = true then sp_mixa T S r (upd E v (nd_val (T 0) (T 1) (T 2) E k)) else ((sp_mixa T S r E).1, (v, k, fl_fr T S E 0 k) :: (sp_mixa T S r E).2)
