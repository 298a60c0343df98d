/-! Compressor -/
def sp_fs (R : Nat → Blk) (gone : Nat → Bool) (b : Nat) (A G : Nat → Int32) : (Nat → Int32) × (Nat → Int32) :=
  if gone b = true ∨ (R b).2.2.1 = 2 then (A, G)
  else if (R b).2.2.1 = 1 then (upd (upd A (R b).2.2.2.2.1.toNatClampNeg (A (R b).2.2.2.2.1.toNatClampNeg + 1)) (R b).2.2.2.2.2.toNatClampNeg (upd A (R b).2.2.2.2.1.toNatClampNeg (A (R b).2.2.2.2.1.toNatClampNeg + 1) (R b).2.2.2.2.2.toNatClampNeg + 1), G)
  else (upd A (R b).2.2.2.2.1.toNatClampNeg (A (R b).2.2.2.2.1.toNatClampNeg + 1), upd G (R b).2.2.2.2.1.toNatClampNeg (nI b))
def sp_fa (R : Nat → Blk) (gone : Nat → Bool) : Nat → Nat → (Nat → Int32) × (Nat → Int32) → (Nat → Int32) × (Nat → Int32)
  | 0, _, AG => AG
  | r + 1, b, AG => sp_fa R gone r (b + 1) (sp_fs R gone b AG.1 AG.2)
def sp_low (gone : Nat → Bool) (A G : Nat → Int32) : Nat → Nat → Option Nat
  | 0, _ => none
  | r + 1, b => if gone b = false ∧ A b = 1 ∧ ¬ G b = -1 ∧ ¬ G b = nI b then some b else sp_low gone A G r (b + 1)
/-- the jumps of the blocks that are left, and which are gone -/
def cjs (M : mc_M) (f nb : Nat) (R : Nat → Blk) (gone : Nat → Bool) : Prop := nb ≤ 100 ∧ M f 0 = nI nb ∧ (∀ b, b < nb → if gone b = true then M 34 b = -1 else ¬ M 34 b = -1) ∧ (∀ b, b < nb → gone b = false → ∃ j, j < 100 ∧ M (f + 5) b = nI j ∧ M (f + 6) j = (R b).2.2.1 ∧ M (f + 7) j = (R b).2.2.2.2.1 ∧ M (f + 8) j = (R b).2.2.2.2.2) ∧ ∀ b, b < nb → gone b = false → (R b).2.2.1 = 2 ∨ ((∃ t, t < nb ∧ (R b).2.2.2.2.1 = nI t) ∧ ((R b).2.2.1 = 0 ∨ ((R b).2.2.1 = 1 ∧ ∃ t, t < nb ∧ (R b).2.2.2.2.2 = nI t)))
def fa (M0 M : mc_M) (A G : Nat → Int32) : Prop := (∀ c, c ≠ 32 → c ≠ 33 → M c = M0 c) ∧ (∀ t, t < 100 → M 32 t = A t) ∧ ∀ t, t < 100 → M 33 t = G t
section CP
variable {g : mc_G} {d n f : Nat} {M : mc_M} {L : mc_L} {Q : Option Value → mc_M → mc_L → Prop}
theorem cC_findArrivals (hf : rs_is f) {nb : Nat} {R : Nat → Blk} {gone : Nat → Bool} (hc : cjs M f nb R gone) (hd : 2 ≤ d) (h : ∀ M', fa M M' (sp_fa R gone nb 0 (fun _ => 0, fun _ => -1)).1 (sp_fa R gone nb 0 (fun _ => 0, fun _ => -1)).2 → Q none M' L) : ctC_findArrivals g d [.ref 31, .ref f] n M L Q := by
  obtain ⟨d, rfl⟩ := Nat.exists_eq_add_of_le' (show 1 ≤ d by omega)
  obtain ⟨hnb, hsz, hgo, hjm, htg⟩ := hc
  have fne : ∀ i, f + i ≠ 32 ∧ f + i ≠ 33 := fun i => by rcases hf with rfl | rfl <;> omega
  have f0 : f ≠ 32 ∧ f ≠ 33 := fne 0
  have lp : ∀ (K : mc_K), mc_closed true tab0 n 0 none (shC_findArrivals g d) Q (fun _ _ _ => False) tbC_findArrivals K → ∀ (r b : Nat) (i : Int32) (M1 : mc_M) (AG : (Nat → Int32) × (Nat → Int32)), r + b = nb → i = nI b → fa M M1 AG.1 AG.2 → (∀ M', fa M M' (sp_fa R gone r b AG).1 (sp_fa R gone r b AG).2 → Q none M' L) → K 18 [some (.ref 31), some (.ref f), some (.int i), none] [] n M1 L := by
    intro K hK r
    induction r with
    | zero =>
      intro b i M1 AG hb hi hA h
      subst hi
      have c1 : M1 f 0 ≤ nI b := by
        rw [hA.1 f f0.1 f0.2, hsz]
        exact nI_le (by omega) (by omega)
      have q := h M1 hA
      rcases hf with rfl | rfl <;>
      exact hK.1 [] 20 18 _ _ _ _ _ ⟨fun _ => ⟨Nat.le_refl _, q⟩, fun z => absurd c1 z⟩
    | succ r ih =>
      intro b i M1 AG hb hi hA h
      subst hi
      have c1 : ¬ M1 f 0 ≤ nI b := by
        rw [hA.1 f f0.1 f0.2, hsz]
        exact nI_ge (by omega) (by omega)
      have vb : vp_in (nI b) 100 := vp_in_nI (by omega) (by decide)
      have eb : (nI b).toNatClampNeg = b := nI_clamp (by omega)
      have g34 : M1 34 (nI b).toNatClampNeg = M 34 b := by rw [eb, hA.1 34 (by decide) (by decide)]
      have go : ∀ M2 y, fa M M2 (sp_fs R gone b AG.1 AG.2).1 (sp_fs R gone b AG.1 AG.2).2 → K 18 [some (.ref 31), some (.ref f), some (.int (nI b + 1)), y] [] n M2 L := fun M2 y h2 => by
        refine hK.2 [true, true, true, false] _ _ _ _ _ _ ?_
        exact ih (b + 1) _ M2 _ (by omega) (nI_1 b) h2 h
      by_cases hg : gone b = true
      · have g1 : M1 34 (nI b).toNatClampNeg = -1 := by
          rw [g34]
          have := hgo b (by omega)
          rw [if_pos hg] at this
          exact this
        have nx := fun y => go M1 y (by unfold sp_fs; rw [if_pos (Or.inl hg)]; exact hA)
        rcases hf with rfl | rfl <;>
        exact hK.1 [18] 40 18 _ _ _ _ _ ⟨fun z => absurd z c1, fun _ => ⟨vb, vb, fun _ => nx _, fun z => absurd g1 z⟩⟩
      · have hg' : gone b = false := by simpa using hg
        have g1 : ¬ M1 34 (nI b).toNatClampNeg = -1 := by
          rw [g34]
          have := hgo b (by omega)
          rw [if_neg hg] at this
          exact this
        obtain ⟨j, hj, j5, j6, j7, j8⟩ := hjm b (by omega) hg'
        have ej : (nI j).toNatClampNeg = j := nI_clamp (by omega)
        have a5 : M1 (f + 5) (nI b).toNatClampNeg = nI j := by rw [eb, hA.1 _ (fne 5).1 (fne 5).2, j5]
        have vj : vp_in (M1 (f + 5) (nI b).toNatClampNeg) 100 := by rw [a5]; exact vp_in_nI hj (by decide)
        have a6 : M1 (f + 6) (M1 (f + 5) (nI b).toNatClampNeg).toNatClampNeg = (R b).2.2.1 := by rw [a5, ej, hA.1 _ (fne 6).1 (fne 6).2, j6]
        have a7 : M1 (f + 7) (M1 (f + 5) (nI b).toNatClampNeg).toNatClampNeg = (R b).2.2.2.2.1 := by rw [a5, ej, hA.1 _ (fne 7).1 (fne 7).2, j7]
        have a8 : M1 (f + 8) (M1 (f + 5) (nI b).toNatClampNeg).toNatClampNeg = (R b).2.2.2.2.2 := by rw [a5, ej, hA.1 _ (fne 8).1 (fne 8).2, j8]
        by_cases k2 : (R b).2.2.1 = 2
        · have nx := fun y => go M1 y (by unfold sp_fs; rw [if_pos (Or.inr k2)]; exact hA)
          have b6 := a6.trans k2
          rcases hf with rfl | rfl <;>
          exact hK.1 [18] 40 18 _ _ _ _ _ ⟨fun z => absurd z c1, fun _ => ⟨vb, vb, fun z => absurd z g1, fun _ => ⟨vj, fun z => absurd b6 z, fun _ => nx _⟩⟩⟩
        · have b6 : ¬ M1 (f + 6) (M1 (f + 5) (nI b).toNatClampNeg).toNatClampNeg = 2 := fun z => k2 (a6.symm.trans z)
          rcases htg b (by omega) hg' with y | ⟨⟨t, ht, hte⟩, hk⟩
          · exact absurd y k2
          have et : (nI t).toNatClampNeg = t := nI_clamp (by omega)
          have t7 : M1 (f + 7) (M1 (f + 5) (nI b).toNatClampNeg).toNatClampNeg = nI t := a7.trans hte
          have vt : vp_in (M1 (f + 7) (M1 (f + 5) (nI b).toNatClampNeg).toNatClampNeg) 100 := by rw [t7]; exact vp_in_nI (by omega) (by decide)
          have A2 : ∀ M2, M2 = mc_put M1 32 (M1 (f + 7) (M1 (f + 5) (nI b).toNatClampNeg).toNatClampNeg).toNatClampNeg (M1 32 (M1 (f + 7) (M1 (f + 5) (nI b).toNatClampNeg).toNatClampNeg).toNatClampNeg + 1) → fa M M2 (upd AG.1 t (AG.1 t + 1)) AG.2 ∧ (∀ c, c ≠ 32 → M2 c = M1 c) := fun M2 z2 => by
            rw [t7, et, hA.2.1 t (by omega)] at z2
            have e2 : ∀ c, c ≠ 32 → M2 c = M1 c := fun c hc => by
              funext x
              rw [z2, mc_put_at, if_neg (fun y => hc y.1)]
            refine ⟨⟨fun c h1 h2 => by rw [e2 c h1, hA.1 c h1 h2], fun u hu => ?_, fun u hu => by rw [e2 33 (by decide), hA.2.2 u hu]⟩, e2⟩
            rw [z2, mc_put_at]
            unfold upd
            by_cases hut : u = t
            · rw [if_pos ⟨rfl, hut⟩, if_pos hut]
            · rw [if_neg (fun y => hut y.2), if_neg hut, hA.2.1 u hu]
          rcases hk with hk | ⟨hk, t', ht', hte'⟩
          · have n1 : ¬ (R b).2.2.1 = 1 := fun z => by rw [hk] at z; exact absurd z (by decide)
            have nx : ∀ M2, M2 = mc_put M1 32 (M1 (f + 7) (M1 (f + 5) (nI b).toNatClampNeg).toNatClampNeg).toNatClampNeg (M1 32 (M1 (f + 7) (M1 (f + 5) (nI b).toNatClampNeg).toNatClampNeg).toNatClampNeg + 1) → ¬ M2 (f + 6) (M1 (f + 5) (nI b).toNatClampNeg).toNatClampNeg = 1 ∧ vp_in (M2 (f + 7) (M1 (f + 5) (nI b).toNatClampNeg).toNatClampNeg) 100 ∧ ∀ y, K 18 [some (.ref 31), some (.ref f), some (.int (nI b + 1)), y] [] n (mc_put M2 33 (M2 (f + 7) (M1 (f + 5) (nI b).toNatClampNeg).toNatClampNeg).toNatClampNeg (nI b)) L := fun M2 z2 => by
              obtain ⟨q1, q2⟩ := A2 M2 z2
              rw [q2 _ (fne 6).1, q2 _ (fne 7).1, a6, t7]
              refine ⟨n1, vp_in_nI (by omega) (by decide), fun y => go _ y ?_⟩
              unfold sp_fs
              rw [if_neg (fun w => w.elim hg k2), if_neg n1, hte, et]
              refine ⟨fun c h1 h2 => ?_, fun u hu => ?_, fun u hu => ?_⟩
              · funext x
                rw [mc_put_at, if_neg (fun w => h2 w.1), q1.1 c h1 h2]
              · rw [mc_put_at, if_neg (by omega), q1.2.1 u hu]
              · rw [mc_put_at]
                show _ = upd AG.2 t (nI b) u
                unfold upd
                by_cases hut : u = t
                · rw [if_pos ⟨rfl, hut⟩, if_pos hut]
                · rw [if_neg (fun w => hut w.2), if_neg hut, q1.2.2 u hu]
            rcases hf with rfl | rfl <;>
            exact hK.1 [18] 60 18 _ _ _ _ _ ⟨fun z => absurd z c1, fun _ => ⟨vb, vb, fun z => absurd z g1, fun _ => ⟨vj, fun _ => ⟨vj, vt, vt, vj, fun _ => ⟨vj, (nx _ rfl).2.1, (nx _ rfl).2.2 _⟩, fun z => absurd z (nx _ rfl).1⟩, fun z => absurd z b6⟩⟩⟩
          · have et' : (nI t').toNatClampNeg = t' := nI_clamp (by omega)
            have nx : ∀ M2, M2 = mc_put M1 32 (M1 (f + 7) (M1 (f + 5) (nI b).toNatClampNeg).toNatClampNeg).toNatClampNeg (M1 32 (M1 (f + 7) (M1 (f + 5) (nI b).toNatClampNeg).toNatClampNeg).toNatClampNeg + 1) → M2 (f + 6) (M1 (f + 5) (nI b).toNatClampNeg).toNatClampNeg = 1 ∧ vp_in (M2 (f + 8) (M1 (f + 5) (nI b).toNatClampNeg).toNatClampNeg) 100 ∧ ∀ y, K 18 [some (.ref 31), some (.ref f), some (.int (nI b + 1)), y] [] n (mc_put M2 32 (M2 (f + 8) (M1 (f + 5) (nI b).toNatClampNeg).toNatClampNeg).toNatClampNeg (M2 32 (M2 (f + 8) (M1 (f + 5) (nI b).toNatClampNeg).toNatClampNeg).toNatClampNeg + 1)) L := fun M2 z2 => by
              obtain ⟨q1, q2⟩ := A2 M2 z2
              rw [q2 _ (fne 6).1, q2 _ (fne 8).1, a6, a8, hte']
              refine ⟨hk, vp_in_nI (by omega) (by decide), fun y => go _ y ?_⟩
              unfold sp_fs
              rw [if_neg (fun w => w.elim hg k2), if_pos hk, hte, hte', et, et']
              refine ⟨fun c h1 h2 => ?_, fun u hu => ?_, fun u hu => ?_⟩
              · funext x
                rw [mc_put_at, if_neg (fun w => h1 w.1), q1.1 c h1 h2]
              · rw [mc_put_at, q1.2.1 t' (by omega)]
                show _ = upd (upd AG.1 t (AG.1 t + 1)) t' (upd AG.1 t (AG.1 t + 1) t' + 1) u
                conv => rhs; unfold upd
                by_cases hut : u = t'
                · rw [if_pos ⟨rfl, hut⟩, if_pos hut]
                  rfl
                · rw [if_neg (fun w => hut w.2), if_neg hut, q1.2.1 u hu]
                  rfl
              · rw [mc_put_at, if_neg (by omega), q1.2.2 u hu]
            rcases hf with rfl | rfl <;>
            exact hK.1 [18] 60 18 _ _ _ _ _ ⟨fun z => absurd z c1, fun _ => ⟨vb, vb, fun z => absurd z g1, fun _ => ⟨vj, fun _ => ⟨vj, vt, vt, vj, fun z => absurd (nx _ rfl).1 z, fun _ => ⟨vj, (nx _ rfl).2.1, (nx _ rfl).2.1, (nx _ rfl).2.2 _⟩⟩, fun z => absurd z b6⟩⟩⟩
  have st0 : ∀ M1, M1 = mc_set M 32 (fun i => if i < 100 then 0 else M 32 i) → ∀ M2, M2 = mc_set M1 33 (fun i => if i < 100 then -1 else M1 33 i) → fa M M2 (fun _ => 0) (fun _ => -1) := fun M1 z1 M2 z2 => ⟨fun c h1 h2 => by rw [z2, mc_set_n h2, z1, mc_set_n h1], fun t ht => by rw [z2, mc_set_n (by decide), z1, mc_set_s, if_pos ht], fun t ht => by rw [z2, mc_set_s, if_pos ht]⟩
  have lp' := fun K hK M1 z1 M2 z2 => lp K hK nb 0 0 M2 (fun _ => 0, fun _ => -1) rfl rfl (st0 M1 z1 M2 z2) h
  rcases hf with rfl | rfl <;>
  exact inC_findArrivals (Nat.le_of_ble_eq_true rfl) (fun K hK => hK.1 [18] 20 0 _ _ _ _ _ (cJ_fill (Or.inr (Or.inl ⟨rfl, rfl⟩)) (by omega) (fun M1 z1 => cJ_fill (Or.inr (Or.inr (Or.inl ⟨rfl, rfl⟩))) (by omega) (fun M2 z2 => lp' K hK M1 z1 M2 z2))))
theorem cC_lowestToMove (hf : rs_is f) {nb : Nat} {gone : Nat → Bool} {A G : Nat → Int32} (hnb : nb ≤ 100) (hsz : M f 0 = nI nb) (hgo : ∀ b, b < nb → if gone b = true then M 34 b = -1 else ¬ M 34 b = -1) (hA : ∀ t, t < 100 → M 32 t = A t) (hG : ∀ t, t < 100 → M 33 t = G t) (hd : 1 ≤ d) (h1 : ∀ b, sp_low gone A G (nb - 1) 1 = some b → 1 ≤ b → b < nb → Q (some (.int (nI b))) M L) (h0 : sp_low gone A G (nb - 1) 1 = none → Q (some (.int (-1))) M L) : ctC_lowestToMove g d [.ref 31, .ref f] n M L Q := by
  obtain ⟨d, rfl⟩ := Nat.exists_eq_add_of_le' hd
  have lp : ∀ (K : mc_K), mc_closed true tab0 n 0 (some .int) (shC_lowestToMove g d) Q (fun _ _ _ => False) tbC_lowestToMove K → ∀ (r b : Nat) (i : Int32), r + b = nb ∨ (r = 0 ∧ nb ≤ b ∧ b ≤ 100) → 1 ≤ b → i = nI b → sp_low gone A G (nb - 1) 1 = sp_low gone A G r b → K 2 [some (.ref 31), some (.ref f), some (.int i), none] [] n M L := by
    intro K hK r
    induction r with
    | zero =>
      intro b i hb hb1 hi hq
      subst hi
      have c1 : M f 0 ≤ nI b := by
        rw [hsz]
        exact nI_le (by omega) (by omega)
      have q := h0 hq
      rcases hf with rfl | rfl <;>
      exact hK.1 [] 20 2 _ _ _ _ _ ⟨fun _ => ⟨Nat.le_refl _, q⟩, fun z => absurd c1 z⟩
    | succ r ih =>
      intro b i hb hb1 hi hq
      subst hi
      have hbn : b < nb := by omega
      have c1 : ¬ M f 0 ≤ nI b := by
        rw [hsz]
        exact nI_ge (by omega) (by omega)
      have vb : vp_in (nI b) 100 := vp_in_nI (by omega) (by decide)
      have eb : (nI b).toNatClampNeg = b := nI_clamp (by omega)
      have gb := hgo b hbn
      have e32 : M 32 (nI b).toNatClampNeg = A b := by rw [eb, hA b (by omega)]
      have e33 : M 33 (nI b).toNatClampNeg = G b := by rw [eb, hG b (by omega)]
      have e34 : M 34 (nI b).toNatClampNeg = M 34 b := by rw [eb]
      have no : ¬ (gone b = false ∧ A b = 1 ∧ ¬ G b = -1 ∧ ¬ G b = nI b) → ∀ y, K 2 [some (.ref 31), some (.ref f), some (.int (nI b + 1)), y] [] n M L := fun z y => by
        refine hK.2 [true, true, true, false] _ _ _ _ _ _ ?_
        refine ih (b + 1) _ (by omega) (by omega) (nI_1 b) (hq.trans ?_)
        conv => lhs; unfold sp_low
        rw [if_neg z]
      have yes : (gone b = false ∧ A b = 1 ∧ ¬ G b = -1 ∧ ¬ G b = nI b) → Q (some (.int (nI b))) M L := fun z => by
        refine h1 b (hq.trans ?_) hb1 hbn
        unfold sp_low
        rw [if_pos z]
      by_cases hg : gone b = true
      · rw [if_pos hg] at gb
        have g1 : M 34 (nI b).toNatClampNeg = -1 := e34.trans gb
        have no' := no (fun w => by rw [hg] at w; cases w.1)
        rcases hf with rfl | rfl <;>
        exact hK.1 [2] 40 2 _ _ _ _ _ ⟨fun z => absurd z c1, fun _ => ⟨vb, fun _ => ⟨fun _ => no' _, fun z => absurd rfl z⟩, fun z => absurd g1 z⟩⟩
      · rw [if_neg hg] at gb
        have hg' : gone b = false := by simpa using hg
        have g1 : ¬ M 34 (nI b).toNatClampNeg = -1 := fun z => gb (e34.symm.trans z)
        have na : ¬ M 32 (nI b).toNatClampNeg = 1 → ¬ (gone b = false ∧ A b = 1 ∧ ¬ G b = -1 ∧ ¬ G b = nI b) := fun z w => z (e32.trans w.2.1)
        have nb1 : M 33 (nI b).toNatClampNeg = -1 → ¬ (gone b = false ∧ A b = 1 ∧ ¬ G b = -1 ∧ ¬ G b = nI b) := fun z w => w.2.2.1 (e33.symm.trans z)
        have nb2 : M 33 (nI b).toNatClampNeg = nI b → ¬ (gone b = false ∧ A b = 1 ∧ ¬ G b = -1 ∧ ¬ G b = nI b) := fun z w => w.2.2.2 (e33.symm.trans z)
        rcases hf with rfl | rfl <;>
        exact hK.1 [2] 60 2 _ _ _ _ _ ⟨fun z => absurd z c1, fun _ => ⟨vb, fun z => absurd z g1, fun _ => ⟨fun z => absurd z (by decide), fun _ => ⟨vb, fun z => no (na z) _, fun z1 => ⟨vb, fun z => no (nb1 z) _, fun z2 => ⟨vb, fun z => no (nb2 z) _, fun z3 => ⟨Nat.le_refl _, yes ⟨hg', e32.symm.trans z1, fun w => z2 (e33.trans w), fun w => z3 (e33.trans w)⟩⟩⟩⟩⟩⟩⟩⟩
  have lp' := fun K hK => lp K hK (nb - 1) 1 1 (by omega) (Nat.le_refl _) rfl rfl
  rcases hf with rfl | rfl <;>
  exact inC_lowestToMove (Nat.le_of_ble_eq_true rfl) (fun K hK => hK.1 [2] 20 0 _ _ _ _ _ (lp' K hK))
theorem cC_numberOf {t : Int32} {nb : Nat} (hnb : nb ≤ 100) (ht : t = -1 ∨ ∃ u, u < nb ∧ t = nI u) (hd : 1 ≤ d) (h : ∀ r, r = (if t = -1 then -1 else M 34 t.toNatClampNeg) → Q (some (.int r)) M L) : ctC_numberOf g d [.ref 31, .int t] n M L Q := by
  obtain ⟨d, rfl⟩ := Nat.exists_eq_add_of_le' hd
  refine inC_numberOf (Nat.le_of_ble_eq_true rfl) (fun K hK => hK.1 [] 20 0 _ _ _ _ _ ⟨fun z => ⟨?_, Nat.le_refl _, h _ (by rw [if_neg z])⟩, fun z => ⟨Nat.le_refl _, h _ (by rw [if_pos z])⟩⟩)
  rcases ht with ht | ⟨u, hu, rfl⟩
  · exact absurd ht z
  · exact vp_in_nI (by omega) (by decide)
end CP
