/-! What the arrivals say -/
def ar_n (R : Nat → Blk) (gone : Nat → Bool) (c t : Nat) : Nat := if gone c = true ∨ (R c).2.2.1 = 2 then 0 else (if (R c).2.2.2.2.1 = nI t then 1 else 0) + (if (R c).2.2.1 = 1 ∧ (R c).2.2.2.2.2 = nI t then 1 else 0)
def ar_s (R : Nat → Blk) (gone : Nat → Bool) (t : Nat) : Nat → Nat → Nat
  | 0, _ => 0
  | r + 1, b => ar_n R gone b t + ar_s R gone t r (b + 1)
theorem ar_n_le (R : Nat → Blk) (gone : Nat → Bool) (c t : Nat) : ar_n R gone c t ≤ 2 := by
  unfold ar_n
  split
  · omega
  · split <;> split <;> omega
theorem ar_s_le (R : Nat → Blk) (gone : Nat → Bool) (t : Nat) : ∀ r b, ar_s R gone t r b ≤ 2 * r
  | 0, _ => by simp [ar_s]
  | r + 1, b => by
    have h1 := ar_n_le R gone b t
    have h2 := ar_s_le R gone t r (b + 1)
    unfold ar_s
    omega
theorem ar_s_one (R : Nat → Blk) (gone : Nat → Bool) (t : Nat) : ∀ r b c, b ≤ c → c < b + r → ar_n R gone c t ≤ ar_s R gone t r b
  | 0, b, c, h1, h2 => by omega
  | r + 1, b, c, h1, h2 => by
    unfold ar_s
    by_cases h : c = b
    · rw [h]
      omega
    · have := ar_s_one R gone t r (b + 1) c (by omega) (by omega)
      omega
theorem ar_s_two (R : Nat → Blk) (gone : Nat → Bool) (t : Nat) : ∀ r b c c', b ≤ c → c < c' → c' < b + r → ar_n R gone c t + ar_n R gone c' t ≤ ar_s R gone t r b
  | 0, b, c, c', h1, h2, h3 => by omega
  | r + 1, b, c, c', h1, h2, h3 => by
    unfold ar_s
    by_cases h : c = b
    · rw [h]
      have := ar_s_one R gone t r (b + 1) c' (by omega) (by omega)
      omega
    · have := ar_s_two R gone t r (b + 1) c c' (by omega) h2 (by omega)
      omega
/-- targets of the blocks that are left -/
def tgl (R : Nat → Blk) (gone : Nat → Bool) (nb : Nat) : Prop := ∀ b, b < nb → gone b = false → (R b).2.2.1 = 2 ∨ ((∃ t, t < nb ∧ (R b).2.2.2.2.1 = nI t) ∧ ((R b).2.2.1 = 0 ∨ ((R b).2.2.1 = 1 ∧ ∃ t, t < nb ∧ (R b).2.2.2.2.2 = nI t)))
theorem sp_fa_A {R : Nat → Blk} {gone : Nat → Bool} {nb t : Nat} (hnb : nb ≤ 100) (htg : tgl R gone nb) (ht : t < nb) : ∀ (r b : Nat) (AG : (Nat → Int32) × (Nat → Int32)), r + b = nb → (sp_fa R gone r b AG).1 t = AG.1 t + nI (ar_s R gone t r b)
  | 0, b, AG, h => by
    show AG.1 t = AG.1 t + nI 0
    rw [nI_0, Int32.add_zero]
  | r + 1, b, AG, h => by
    unfold sp_fa ar_s
    rw [sp_fa_A hnb htg ht r (b + 1) _ (by omega), ← nI_add, ← Int32.add_assoc]
    congr 1
    unfold sp_fs ar_n
    by_cases h1 : gone b = true ∨ (R b).2.2.1 = 2
    · rw [if_pos h1, if_pos h1, nI_0, Int32.add_zero]
    · rw [if_neg h1, if_neg h1]
      have hg : gone b = false := by
        cases hgb : gone b with
        | false => rfl
        | true => exact absurd (Or.inl hgb) h1
      rcases htg b (by omega) hg with y | ⟨⟨u, hu, hue⟩, y⟩
      · exact absurd (Or.inr y) h1
      have eu : (nI u).toNatClampNeg = u := nI_clamp (by omega)
      rcases y with y | ⟨y, u', hu', hue'⟩
      · have n1 : ¬ (R b).2.2.1 = 1 := fun z => by rw [y] at z; exact absurd z (by decide)
        have q2 : ¬ ((R b).2.2.1 = 1 ∧ (R b).2.2.2.2.2 = nI t) := fun z => n1 z.1
        rw [if_neg n1, if_neg q2, hue, eu]
        show upd AG.1 u (AG.1 u + 1) t = _
        unfold upd
        by_cases e : t = u
        · rw [if_pos e, if_pos (by rw [e]), e]
          rfl
        · rw [if_neg e, if_neg (fun z => e ((nI_eq (by omega) (by omega)).mp z).symm), nI_0, Int32.add_zero]
      · have eu' : (nI u').toNatClampNeg = u' := nI_clamp (by omega)
        rw [if_pos y, hue, hue', eu, eu']
        show upd (upd AG.1 u (AG.1 u + 1)) u' (upd AG.1 u (AG.1 u + 1) u' + 1) t = _
        unfold upd
        by_cases e' : t = u'
        · subst e'
          rw [if_pos rfl]
          by_cases e : t = u
          · subst e
            rw [if_pos rfl, if_pos rfl, if_pos ⟨y, rfl⟩, Int32.add_assoc]
            rfl
          · rw [if_neg e, if_neg (fun z => e ((nI_eq (by omega) (by omega)).mp z).symm), if_pos ⟨y, rfl⟩]
            rfl
        · rw [if_neg e']
          have ne' : ¬ ((R b).2.2.1 = 1 ∧ nI u' = nI t) := fun z => e' ((nI_eq (by omega) (by omega)).mp z.2).symm
          by_cases e : t = u
          · subst e
            rw [if_pos rfl, if_pos rfl, if_neg ne']
            rfl
          · rw [if_neg e, if_neg (fun z => e ((nI_eq (by omega) (by omega)).mp z).symm), if_neg ne', nI_0, Int32.add_zero]
def goe_ok (R : Nat → Blk) (gone : Nat → Bool) (nb : Nat) (G : Nat → Int32) : Prop := ∀ t, G t = -1 ∨ ∃ c, c < nb ∧ gone c = false ∧ (R c).2.2.1 = 0 ∧ (R c).2.2.2.2.1.toNatClampNeg = t ∧ G t = nI c
theorem sp_fa_G {R : Nat → Blk} {gone : Nat → Bool} {nb : Nat} (htg : tgl R gone nb) : ∀ (r b : Nat) (AG : (Nat → Int32) × (Nat → Int32)), r + b = nb → goe_ok R gone nb AG.2 → goe_ok R gone nb (sp_fa R gone r b AG).2
  | 0, b, AG, h, hG => hG
  | r + 1, b, AG, h, hG => by
    unfold sp_fa
    refine sp_fa_G htg r (b + 1) _ (by omega) ?_
    unfold sp_fs
    by_cases h1 : gone b = true ∨ (R b).2.2.1 = 2
    · rw [if_pos h1]
      exact hG
    · rw [if_neg h1]
      have hg : gone b = false := by
        cases hgb : gone b with
        | false => rfl
        | true => exact absurd (Or.inl hgb) h1
      by_cases k1 : (R b).2.2.1 = 1
      · rw [if_pos k1]
        exact hG
      · rw [if_neg k1]
        intro t
        show upd AG.2 _ _ t = -1 ∨ ∃ c, _ ∧ _ ∧ _ ∧ _ ∧ upd AG.2 _ _ t = nI c
        unfold upd
        by_cases e : t = (R b).2.2.2.2.1.toNatClampNeg
        · rw [if_pos e]
          refine Or.inr ⟨b, by omega, hg, ?_, e.symm, rfl⟩
          rcases htg b (by omega) hg with y | ⟨-, y⟩
          · exact absurd (Or.inr y) h1
          · rcases y with y | ⟨y, -⟩
            · exact y
            · exact absurd y k1
        · rw [if_neg e]
          exact hG t
theorem sp_low_some {gone : Nat → Bool} {A G : Nat → Int32} : ∀ {r b k : Nat}, sp_low gone A G r b = some k → b ≤ k ∧ k < b + r ∧ gone k = false ∧ A k = 1 ∧ ¬ G k = -1 ∧ ¬ G k = nI k
  | 0, b, k, h => by cases h
  | r + 1, b, k, h => by
    unfold sp_low at h
    by_cases c : gone b = false ∧ A b = 1 ∧ ¬ G b = -1 ∧ ¬ G b = nI b
    · rw [if_pos c] at h
      cases h
      exact ⟨Nat.le_refl _, by omega, c.1, c.2.1, c.2.2.1, c.2.2.2⟩
    · rw [if_neg c] at h
      obtain ⟨h1, h2, h3⟩ := sp_low_some h
      exact ⟨by omega, by omega, h3⟩
def sp_ag (R : Nat → Blk) (gone : Nat → Bool) (nb : Nat) : (Nat → Int32) × (Nat → Int32) := sp_fa R gone nb 0 (fun _ => 0, fun _ => -1)
/-- what the lowest block to move is: the only jump that goes to it is the GO of its goer -/
theorem sp_low_is {R : Nat → Blk} {gone : Nat → Bool} {nb k : Nat} (hnb : nb ≤ 100) (htg : tgl R gone nb) (h : sp_low gone (sp_ag R gone nb).1 (sp_ag R gone nb).2 (nb - 1) 1 = some k) : 1 ≤ k ∧ k < nb ∧ gone k = false ∧ ∃ b, b < nb ∧ b ≠ k ∧ gone b = false ∧ (sp_ag R gone nb).2 k = nI b ∧ (R b).2.2.1 = 0 ∧ (R b).2.2.2.2.1 = nI k ∧ ∀ c, c < nb → c ≠ b → ar_n R gone c k = 0 := by
  obtain ⟨h1, h2, h3, h4, h5, h6⟩ := sp_low_some h
  have hk : k < nb := by omega
  have hA : (sp_ag R gone nb).1 k = nI (ar_s R gone k nb 0) := by
    unfold sp_ag
    rw [sp_fa_A hnb htg hk nb 0 _ rfl]
    show 0 + _ = _
    rw [Int32.zero_add]
  have hle := ar_s_le R gone k nb 0
  have hs : ar_s R gone k nb 0 = 1 := (nI_eq (b := 1) (by omega) (by decide)).mp (hA.symm.trans h4)
  have hG := sp_fa_G htg nb 0 (fun _ => 0, fun _ => -1) rfl (fun t => Or.inl rfl) k
  rcases hG with hG | ⟨b, hb, gb, kb, ob, hG⟩
  · exact absurd hG h5
  have hbk : b ≠ k := fun z => h6 (by rw [← z]; rw [← z] at hG; exact hG)
  have obk : (R b).2.2.2.2.1 = nI k := by
    rcases htg b hb gb with y | ⟨⟨t, ht, hte⟩, -⟩
    · rw [kb] at y
      exact absurd y (by decide)
    · rw [hte, nI_clamp (by omega)] at ob
      rw [hte, ob]
  have hab : ar_n R gone b k = 1 := by
    unfold ar_n
    rw [if_neg (by rw [gb, kb]; simp), if_pos obk, if_neg (by rw [kb]; exact fun z => absurd z.1 (by decide))]
  refine ⟨h1, hk, h3, b, hb, hbk, gb, hG, kb, obk, fun c hc hcb => ?_⟩
  rcases Nat.lt_or_gt_of_ne hcb with hlt | hlt
  · have := ar_s_two R gone k nb 0 c b (by omega) hlt (by omega)
    omega
  · have := ar_s_two R gone k nb 0 b c (by omega) hlt (by omega)
    omega
