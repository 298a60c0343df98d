/-! From what mixing leaves to blocks -/
def stp (b : Nat) : Nat → Nat → List Nat
  | _, 0 => []
  | i, r + 1 => (b * 11 + i) :: stp b (i + 1) r
theorem stp_len (b : Nat) : ∀ i r, (stp b i r).length = r
  | _, 0 => rfl
  | i, r + 1 => by
    unfold stp
    rw [List.length_cons, stp_len b (i + 1) r]
theorem stp_mem (b : Nat) : ∀ i r s, s ∈ stp b i r → ∃ k, i ≤ k ∧ k < i + r ∧ s = b * 11 + k
  | _, 0, s, h => absurd h List.not_mem_nil
  | i, r + 1, s, h => by
    rcases List.mem_cons.mp h with rfl | h
    · exact ⟨i, Nat.le_refl _, by omega, rfl⟩
    · obtain ⟨k, h1, h2, h3⟩ := stp_mem b (i + 1) r s h
      exact ⟨k, by omega, by omega, h3⟩
theorem stp_nodup (b : Nat) : ∀ i r, (stp b i r).Nodup
  | _, 0 => List.nodup_nil
  | i, r + 1 => List.nodup_cons.mpr ⟨fun h => by
      obtain ⟨k, h1, -, h3⟩ := stp_mem b (i + 1) r _ h
      omega, stp_nodup b (i + 1) r⟩
theorem stp_last (b : Nat) : ∀ i r l, (stp b i r).getLast? = some l → l = b * 11 + (i + r - 1)
  | _, 0, l, h => by cases h
  | i, 1, l, h => by
    have : (some (b * 11 + i) : Option Nat) = some l := h
    rw [← Option.some.inj this]
    rfl
  | i, r + 2, l, h => by
    have h' : (stp b (i + 1) (r + 1)).getLast? = some l := by rw [← h]; rfl
    rw [stp_last b (i + 1) (r + 1) l h']
    congr 1
    omega
theorem stp_ch {N : Nat → Int32} {b W : Nat} : ∀ {r i : Nat} {x : Int32}, (0 < r → x = nI (b * 11 + i)) → (∀ k, i ≤ k → k + 1 < i + r → N (b * 11 + k) = nI (b * 11 + (k + 1))) → (∀ k, i ≤ k → k < i + r → b * 11 + k < W) → fl_ch N W x (stp b i r)
  | 0, _, _, _, _, _ => trivial
  | r + 1, i, x, hx, hN, hW => ⟨hx (by omega), hW i (Nat.le_refl _) (by omega), stp_ch (r := r) (i := i + 1) (fun hr => hN i (Nat.le_refl _) (by omega)) (fun k h1 h2 => hN k (by omega) (by omega)) (fun k h1 h2 => hW k (by omega) (by omega))⟩
theorem stp_map {F : Nat → Asg} {b : Nat} : ∀ (l : List Asg) (i : Nat), (∀ k, k < l.length → l[k]? = some (F (b * 11 + (i + k)))) → l = (stp b i l.length).map F
  | [], _, _ => rfl
  | a :: l, i, h => by
    have h0 := h 0 (by simp)
    have h0' : a = F (b * 11 + i) := Option.some.inj h0
    have ih := stp_map l (i + 1) (fun k hk => by
      have := h (k + 1) (by simp; omega)
      rw [List.getElem?_cons_succ] at this
      rw [this]
      congr 3
      omega)
    show a :: l = F (b * 11 + i) :: (stp b (i + 1) l.length).map F
    rw [← ih, h0']
theorem rdone_blk {T : Nat → Nat → Int32} {m : Nat} {S : Int32} {M : mc_M} {f b : Nat} {B : Blk} (h : rdone T m S M f b B) (hb : b < 100) : fl_blk T m S M f 100 b B (stp b 0 B.2.1.length) b ∧ (∀ l, (stp b 0 B.2.1.length).getLast? = some l → M (f + 4) b = nI l) ∧ (stp b 0 B.2.1.length).Nodup := by
  obtain ⟨h1, ⟨r1, r2, r3, r4, r5⟩, j1, j2, j3, j4, j5⟩ := h
  refine ⟨⟨h1, by rw [stp_len]; exact r1, by rw [stp_len]; omega, stp_ch (fun hr => (r3 hr).1) (fun k _ h2 => r4 k (by omega)) (fun k _ h2 => by omega), fun s hs => ?_, stp_map _ 0 (fun k hk => by rw [Nat.zero_add]; exact (r5 k hk).2), j1, hb, j2, j3, j4, j5⟩, fun l hl => ?_, stp_nodup b 0 _⟩
  · obtain ⟨k, -, hk, rfl⟩ := stp_mem b 0 _ s hs
    exact (r5 k (by omega)).1
  · have e := stp_last b 0 _ l hl
    have hp : 0 < B.2.1.length := Nat.pos_of_ne_zero (fun z => by
      rw [z] at hl
      cases hl)
    rw [e, (r3 hp).2, Nat.zero_add]
theorem rdone_crs {T : Nat → Nat → Int32} {m : Nat} {S : Int32} {M : mc_M} {f nb : Nat} {R : Nat → Blk} (hnb : nb ≤ 100) (h : ∀ b, b < nb → rdone T m S M f b (R b)) : crs T m S M f nb R (fun _ => false) (fun b => stp b 0 (R b).2.1.length) (fun b => b) := by
  refine ⟨fun b hb _ => rdone_blk (h b hb) (by omega), fun b c hb hc _ _ hbc => ⟨fun s hs hs' => ?_, hbc⟩⟩
  obtain ⟨k, -, hk, rfl⟩ := stp_mem b 0 _ s hs
  obtain ⟨k', -, hk', e⟩ := stp_mem c 0 _ _ hs'
  have l1 := (h b hb).2.1.2.1
  have l2 := (h c hc).2.1.2.1
  omega
