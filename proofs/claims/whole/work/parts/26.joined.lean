/-! What a join does to the blocks -/
theorem fl_ch_lt {N : Nat → Int32} {W : Nat} : ∀ {x : Int32} {l : List Nat}, fl_ch N W x l → ∀ s ∈ l, s < W
  | _, [], _, s, hs => absurd hs List.not_mem_nil
  | _, t :: r, h, s, hs => by
    rcases List.mem_cons.mp hs with rfl | hs
    · exact h.2.1
    · exact fl_ch_lt h.2.2 s hs
theorem fl_ch_congr {N N' : Nat → Int32} {W : Nat} : ∀ {x : Int32} {l : List Nat}, (∀ s ∈ l, N' s = N s) → fl_ch N W x l → fl_ch N' W x l
  | _, [], _, _ => trivial
  | _, t :: r, hN, h => ⟨h.1, h.2.1, by rw [hN t List.mem_cons_self]; exact fl_ch_congr (fun s hs => hN s (List.mem_cons_of_mem _ hs)) h.2.2⟩
theorem fl_ch_app {N N' : Nat → Int32} {W lb : Nat} {y : Int32} {r : List Nat} (hr : fl_ch N' W y r) (hy : N' lb = y) (hN : ∀ s, s ≠ lb → N' s = N s) : ∀ {x : Int32} {l : List Nat}, l.getLast? = some lb → l.Nodup → fl_ch N W x l → fl_ch N' W x (l ++ r)
  | _, [], h, _, _ => by cases h
  | _, [t], h, _, hc => by
    simp at h
    subst h
    exact ⟨hc.1, hc.2.1, by rw [hy]; exact hr⟩
  | _, t :: t' :: l, h, hd, hc => by
    have h' : (t' :: l).getLast? = some lb := by rw [← h]; rfl
    have hm : lb ∈ t' :: l := List.mem_of_getLast? h'
    have hd' := List.nodup_cons.mp hd
    have ht : t ≠ lb := fun z => hd'.1 (z ▸ hm)
    refine ⟨hc.1, hc.2.1, ?_⟩
    rw [hN t ht]
    exact fl_ch_app hr hy hN h' hd'.2 hc.2.2
theorem nodup_len : ∀ (N : Nat) (l : List Nat), l.Nodup → (∀ s ∈ l, s < N) → l.length ≤ N
  | 0, l, _, h => by
    cases l with
    | nil => simp
    | cons a r => exact absurd (h a List.mem_cons_self) (Nat.not_lt_zero _)
  | N + 1, l, hd, h => by
    by_cases hm : N ∈ l
    · have h1 := nodup_len N (l.erase N) (hd.erase N) (fun s hs => by
        have := (hd.mem_erase_iff).mp hs
        have h2 := h s this.2
        have h3 := this.1
        omega)
      rw [List.length_erase_of_mem hm] at h1
      omega
    · have := nodup_len N l hd (fun s hs => by
        have h2 := h s hs
        have h3 : s ≠ N := fun z => hm (z ▸ hs)
        omega)
      omega
def sp_jn (R : Nat → Blk) (b k : Nat) : Nat → Blk := fun i => if i = b then ((R b).1, (R b).2.1 ++ (R k).2.1, (R k).2.2) else R i
def sp_gn (gone : Nat → Bool) (k : Nat) : Nat → Bool := fun i => if i = k then true else gone i
def crs (T : Nat → Nat → Int32) (m : Nat) (S : Int32) (M : mc_M) (f nb : Nat) (R : Nat → Blk) (gone : Nat → Bool) (SS : Nat → List Nat) (J : Nat → Nat) : Prop :=
  (∀ b, b < nb → gone b = false → fl_blk T m S M f 100 b (R b) (SS b) (J b) ∧ (∀ l, (SS b).getLast? = some l → M (f + 4) b = nI l) ∧ (SS b).Nodup) ∧
  ∀ b c, b < nb → c < nb → gone b = false → gone c = false → b ≠ c → (∀ s ∈ SS b, s ∉ SS c) ∧ J b ≠ J c
theorem fl_jn_at (M : mc_M) (f b k cb ck lb : Nat) :
    (∀ x, x ≠ b → fl_jn M f b k cb ck lb (f + 2) x = M (f + 2) x ∧ fl_jn M f b k cb ck lb (f + 3) x = M (f + 3) x ∧ fl_jn M f b k cb ck lb (f + 4) x = M (f + 4) x ∧ fl_jn M f b k cb ck lb (f + 5) x = M (f + 5) x) ∧
    fl_jn M f b k cb ck lb (f + 5) b = M (f + 5) k ∧ (∀ x, x ≠ lb → fl_jn M f b k cb ck lb (f + 11) x = M (f + 11) x) ∧ (∀ c, c ≠ f + 2 → c ≠ f + 3 → c ≠ f + 4 → c ≠ f + 5 → c ≠ f + 11 → fl_jn M f b k cb ck lb c = M c) ∧
    (ck = 0 → fl_jn M f b k cb ck lb (f + 2) b = M (f + 2) b ∧ fl_jn M f b k cb ck lb (f + 3) b = M (f + 3) b ∧ fl_jn M f b k cb ck lb (f + 4) b = M (f + 4) b ∧ fl_jn M f b k cb ck lb (f + 11) = M (f + 11)) ∧
    (0 < ck → fl_jn M f b k cb ck lb (f + 2) b = nI (cb + ck) ∧ fl_jn M f b k cb ck lb (f + 4) b = M (f + 4) k ∧ (cb = 0 → fl_jn M f b k cb ck lb (f + 3) b = M (f + 3) k ∧ fl_jn M f b k cb ck lb (f + 11) = M (f + 11)) ∧ (¬ cb = 0 → fl_jn M f b k cb ck lb (f + 3) b = M (f + 3) b ∧ fl_jn M f b k cb ck lb (f + 11) lb = M (f + 3) k)) := by
  unfold fl_jn
  by_cases h1 : 0 < ck
  · rw [if_pos h1]
    by_cases h2 : cb = 0
    · rw [if_pos h2]
      refine ⟨fun x hx => ⟨?_, ?_, ?_, ?_⟩, ?_, fun x hx => ?_, fun c c2 c3 c4 c5 c11 => funext fun x => ?_, fun z => absurd z (by omega), fun _ => ⟨?_, ?_, fun _ => ⟨?_, funext fun x => ?_⟩, fun z => absurd h2 z⟩⟩ <;> simp [mc_put_at, *]
    · rw [if_neg h2]
      refine ⟨fun x hx => ⟨?_, ?_, ?_, ?_⟩, ?_, fun x hx => ?_, fun c c2 c3 c4 c5 c11 => funext fun x => ?_, fun z => absurd z (by omega), fun _ => ⟨?_, ?_, fun z => absurd z h2, fun _ => ⟨?_, ?_⟩⟩⟩ <;> simp [mc_put_at, *]
  · rw [if_neg h1]
    refine ⟨fun x hx => ⟨?_, ?_, ?_, ?_⟩, ?_, fun x hx => ?_, fun c c2 c3 c4 c5 c11 => funext fun x => ?_, fun _ => ⟨?_, ?_, ?_, funext fun x => ?_⟩, fun z => absurd z h1⟩ <;> simp [mc_put_at, *]
theorem crs_jn {T : Nat → Nat → Int32} {m : Nat} {S : Int32} {M M' : mc_M} {f nb : Nat} {R : Nat → Blk} {gone : Nat → Bool} {SS : Nat → List Nat} {J : Nat → Nat} (h : crs T m S M f nb R gone SS J) {b k lb : Nat} (hb : b < nb) (hk : k < nb) (gb : gone b = false) (gk : gone k = false) (hbk : b ≠ k) (hlb : ∀ l, (SS b).getLast? = some l → l = lb) (hM : M' = fl_jn M f b k (SS b).length (SS k).length lb) :
    crs T m S M' f nb (sp_jn R b k) (sp_gn gone k) (fun i => if i = b then SS b ++ SS k else SS i) (fun i => if i = b then J k else J i) := by
  obtain ⟨h1, h2⟩ := h
  obtain ⟨a1, a2, a3, a4, a5, a6⟩ := fl_jn_at M f b k (SS b).length (SS k).length lb
  rw [← hM] at a1 a2 a3 a4 a5 a6
  have r1 : M' (f + 1) = M (f + 1) := a4 _ (by omega) (by omega) (by omega) (by omega) (by omega)
  have r6 : M' (f + 6) = M (f + 6) := a4 _ (by omega) (by omega) (by omega) (by omega) (by omega)
  have r7 : M' (f + 7) = M (f + 7) := a4 _ (by omega) (by omega) (by omega) (by omega) (by omega)
  have r8 : M' (f + 8) = M (f + 8) := a4 _ (by omega) (by omega) (by omega) (by omega) (by omega)
  have r9 : M' (f + 9) = M (f + 9) := a4 _ (by omega) (by omega) (by omega) (by omega) (by omega)
  have r10 : M' (f + 10) = M (f + 10) := a4 _ (by omega) (by omega) (by omega) (by omega) (by omega)
  have r12 : M' (f + 12) = M (f + 12) := a4 _ (by omega) (by omega) (by omega) (by omega) (by omega)
  have gnf : ∀ c, sp_gn gone k c = false → c ≠ k ∧ gone c = false := fun c hc => by
    unfold sp_gn at hc
    by_cases hck : c = k
    · rw [if_pos hck] at hc
      cases hc
    · rw [if_neg hck] at hc
      exact ⟨hck, hc⟩
  obtain ⟨⟨kb1, kb2, kb3, kb4, kb5, kb6, kb7⟩, kb8, kb9⟩ := h1 k hk gk
  obtain ⟨⟨bb1, bb2, bb3, bb4, bb5, bb6, bb7⟩, bb8, bb9⟩ := h1 b hb gb
  have dis := (h2 b k hb hk gb gk hbk).1
  have lbm : ∀ c, c < nb → gone c = false → c ≠ b → SS b ≠ [] → lb ∉ SS c := fun c hc gc hcb hne hm => by
    have hl : ∃ l, (SS b).getLast? = some l := by
      cases hq : (SS b).getLast? with
      | none => exact absurd (List.getLast?_eq_none_iff.mp hq) hne
      | some l => exact ⟨l, rfl⟩
    obtain ⟨l, hl⟩ := hl
    have e := hlb l hl
    subst e
    exact (h2 b c hb hc gb gc (Ne.symm hcb)).1 l (List.mem_of_getLast? hl) hm
  refine ⟨fun c hc gc => ?_, fun c c' hc hc' gc gc' hcc => ?_⟩
  · dsimp only
    obtain ⟨hck, gc⟩ := gnf c gc
    by_cases hcb : c = b
    · subst hcb
      have eR : sp_jn R c k c = ((R c).1, (R c).2.1 ++ (R k).2.1, (R k).2.2) := if_pos rfl
      rw [eR, if_pos rfl, if_pos rfl]
      have nd : (SS c ++ SS k).Nodup := List.nodup_append.mpr ⟨bb9, kb9, fun s hs t ht e => dis s hs (e ▸ ht)⟩
      have lt : ∀ s ∈ SS c ++ SS k, s < 1100 := fun s hs => by
        rcases List.mem_append.mp hs with hs | hs
        · exact fl_ch_lt bb4 s hs
        · exact fl_ch_lt kb4 s hs
      refine ⟨⟨by rw [r1]; exact bb1, ?_, nodup_len 1100 _ nd lt, ?_, fun s hs => ?_, ?_, by rw [a2]; exact kb7.1, ?_⟩, fun l hl => ?_, nd⟩
      · rw [List.length_append]
        by_cases h0 : (SS k).length = 0
        · rw [(a5 h0).1, h0]
          exact bb2
        · exact (a6 (by omega)).1
      · by_cases h0 : (SS k).length = 0
        · have e0 : SS k = [] := List.eq_nil_of_length_eq_zero h0
          rw [e0, List.append_nil, (a5 h0).2.1, (a5 h0).2.2.2]
          exact bb4
        · obtain ⟨q1, q2, q3, q4⟩ := a6 (by omega)
          by_cases h3 : (SS c).length = 0
          · have e0 : SS c = [] := List.eq_nil_of_length_eq_zero h3
            rw [e0, List.nil_append, (q3 h3).1, (q3 h3).2]
            exact kb4
          · rw [(q4 h3).1]
            have hne : SS c ≠ [] := fun z => h3 (by rw [z]; rfl)
            have hl : (SS c).getLast? = some lb := by
              cases hq : (SS c).getLast? with
              | none => exact absurd (List.getLast?_eq_none_iff.mp hq) hne
              | some l => rw [hlb l hq]
            exact fl_ch_app (fl_ch_congr (fun s hs => a3 s (fun z => lbm k hk gk (Ne.symm hbk) hne (z ▸ hs))) kb4) (q4 h3).2 a3 hl bb9 bb4
      · unfold fl_sv
        rw [r9, r10]
        rcases List.mem_append.mp hs with hs | hs
        · exact bb5 s hs
        · exact kb5 s hs
      · show (R c).2.1 ++ (R k).2.1 = _
        unfold fl_as
        rw [r9, r10, r12, List.map_append, bb6, kb6]
        rfl
      · rw [r6, r7, r8, r10, r12]
        exact kb7.2
      · by_cases h0 : (SS k).length = 0
        · have e0 : SS k = [] := List.eq_nil_of_length_eq_zero h0
          rw [e0, List.append_nil] at hl
          rw [(a5 h0).2.2.1]
          exact bb8 l hl
        · have hne : SS k ≠ [] := fun z => h0 (by rw [z]; rfl)
          rw [(a6 (by omega)).2.1]
          refine kb8 l ?_
          rw [← hl, List.getLast?_append]
          cases hq : (SS k).getLast? with
          | none => exact absurd (List.getLast?_eq_none_iff.mp hq) hne
          | some l => rfl
    · have eR : sp_jn R b k c = R c := if_neg hcb
      rw [eR, if_neg hcb, if_neg hcb]
      obtain ⟨⟨cb1, cb2, cb3, cb4, cb5, cb6, cb7⟩, cb8, cb9⟩ := h1 c hc gc
      obtain ⟨x2, x3, x4, x5⟩ := a1 c hcb
      refine ⟨⟨by rw [r1]; exact cb1, by rw [x2]; exact cb2, cb3, ?_, fun s hs => ?_, ?_, by rw [x5]; exact cb7.1, ?_⟩, fun l hl => by rw [x4]; exact cb8 l hl, cb9⟩
      · rw [x3]
        refine fl_ch_congr (fun s hs => ?_) cb4
        by_cases hne : SS b = []
        · by_cases h0 : (SS k).length = 0
          · rw [(a5 h0).2.2.2]
          · rw [((a6 (by omega)).2.2.1 (by rw [hne]; rfl)).2]
        · exact a3 s (fun z => lbm c hc gc hcb hne (z ▸ hs))
      · unfold fl_sv
        rw [r9, r10]
        exact cb5 s hs
      · rw [cb6]
        unfold fl_as
        rw [r9, r10, r12]
      · rw [r6, r7, r8, r10, r12]
        exact cb7.2
  · dsimp only
    obtain ⟨hck, gc⟩ := gnf c gc
    obtain ⟨hck', gc'⟩ := gnf c' gc'
    by_cases e1 : c = b
    · subst e1
      rw [if_pos rfl, if_pos rfl, if_neg (Ne.symm hcc), if_neg (Ne.symm hcc)]
      refine ⟨fun s hs => ?_, (h2 k c' hk hc' gk gc' (Ne.symm hck')).2⟩
      rcases List.mem_append.mp hs with hs | hs
      · exact (h2 c c' hc hc' gc gc' hcc).1 s hs
      · exact (h2 k c' hk hc' gk gc' (Ne.symm hck')).1 s hs
    · rw [if_neg e1, if_neg e1]
      by_cases e2 : c' = b
      · subst e2
        rw [if_pos rfl, if_pos rfl]
        refine ⟨fun s hs hs' => ?_, (h2 c k hc hk gc gk hck).2⟩
        rcases List.mem_append.mp hs' with hs' | hs'
        · exact (h2 c c' hc hc' gc gc' hcc).1 s hs hs'
        · exact (h2 c k hc hk gc gk hck).1 s hs hs'
      · rw [if_neg e2, if_neg e2]
        exact h2 c c' hc hc' gc gc' hcc
