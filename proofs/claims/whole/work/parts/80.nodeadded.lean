/-! A node more -/
def tT (T : Nat → Nat → Int32) (m : Nat) (q a b : Int32) : Nat → Nat → Int32 := fun i k => if k = m then (if i = 0 then q else if i = 1 then a else if i = 2 then b else if i = 3 then tz T q a b else if i = 4 then tv T q a b else 0) else T i k
theorem tT_o {T : Nat → Nat → Int32} {m k : Nat} {q a b : Int32} (h : k ≠ m) (i : Nat) : tT T m q a b i k = T i k := by
  unfold tT
  rw [if_neg h]
theorem nt_ok_ext {T : Nat → Nat → Int32} {m : Nat} (hT : nt_ok T m) {q a b : Int32} (hc : nd_can m q a b) (hz : ¬ 60 < tz T q a b) (hm : m < 150) : nt_ok (tT T m q a b) (m + 1) := by
  obtain ⟨h150, hr, h0⟩ := hT
  refine ⟨by omega, fun k hk => ?_, fun i k hk => by rw [tT_o (by omega)]; exact h0 i k (by omega)⟩
  by_cases e : k = m
  · subst e
    have r0 : tT T k q a b 0 k = q := by unfold tT; rw [if_pos rfl]; rfl
    have r1 : tT T k q a b 1 k = a := by unfold tT; rw [if_pos rfl]; rfl
    have r2 : tT T k q a b 2 k = b := by unfold tT; rw [if_pos rfl]; rfl
    have r3 : tT T k q a b 3 k = tz T q a b := by unfold tT; rw [if_pos rfl]; rfl
    have r4 : tT T k q a b 4 k = tv T q a b := by unfold tT; rw [if_pos rfl]; rfl
    unfold nd_row nd_vx
    rw [r0, r1, r2, r3, r4]
    rcases hc with hc | ⟨hc, j, hj, ha⟩ | ⟨hc1, hc2, ⟨i, hi, ha⟩, ⟨j, hj, hb⟩⟩
    · refine ⟨⟨1, ?_, by omega, by omega, Or.inl hc⟩, ?_⟩
      · unfold tz
        rw [if_neg (by rw [hc]; decide)]
        rfl
      · unfold tv
        rw [if_pos hc, if_pos hc]
    · refine ⟨⟨1, ?_, by omega, by omega, Or.inr (Or.inl ⟨hc, j, hj, ha⟩)⟩, ?_⟩
      · unfold tz
        rw [if_neg (by rw [hc]; decide)]
        rfl
      · unfold tv
        rw [if_neg (by rw [hc]; decide), if_pos hc, if_neg (by rw [hc]; decide), if_pos hc]
    · have n0 : ¬ q = 0 := fun z => by rw [z] at hc1; exact absurd hc1 (by decide)
      have n1 : ¬ q = 1 := fun z => by rw [z] at hc1; exact absurd hc1 (by decide)
      have g1 : 1 < q := Int32.not_le.mp (fun z => by have := Int32.le_trans hc1 z; exact absurd this (by decide))
      obtain ⟨⟨sa, a1, a2, a3, -⟩, -⟩ := hr i hi
      obtain ⟨⟨sb, b1, b2, b3, -⟩, -⟩ := hr j hj
      have ez : tz T q a b = nI (1 + sa + sb) := by
        unfold tz
        rw [if_pos g1, ha, hb, nI_clamp (by omega), nI_clamp (by omega), a1, b1, show (1 : Int32) = nI 1 from rfl, nI_add, nI_add]
      rw [ez] at hz ⊢
      have hs : 1 + sa + sb ≤ 60 := Nat.le_of_not_lt (fun z => hz (nI_lt (a := 60) z (by omega)))
      refine ⟨⟨1 + sa + sb, rfl, by omega, hs, Or.inr (Or.inr ⟨hc1, hc2, i, j, sa, sb, hi, hj, ha, hb, by rw [tT_o (by omega)]; exact a1, by rw [tT_o (by omega)]; exact b1, rfl⟩)⟩, ?_⟩
      unfold tv
      rw [if_neg n0, if_neg n1, if_neg n0, if_neg n1, ha, hb, nI_clamp (by omega), nI_clamp (by omega), tT_o (by omega), tT_o (by omega)]
  · have hk' : k < m := by omega
    obtain ⟨⟨s, g0, g1, g2, g3⟩, g4⟩ := hr k hk'
    refine ⟨⟨s, by rw [tT_o e]; exact g0, g1, g2, ?_⟩, ?_⟩
    · rw [tT_o e, tT_o e, tT_o e]
      rcases g3 with g3 | g3 | ⟨g3, g5, i, j, sa, sb, hi, hj, hA, hB, hsa, hsb, hs⟩
      · exact Or.inl g3
      · exact Or.inr (Or.inl g3)
      · exact Or.inr (Or.inr ⟨g3, g5, i, j, sa, sb, hi, hj, hA, hB, by rw [tT_o (by omega)]; exact hsa, by rw [tT_o (by omega)]; exact hsb, hs⟩)
    · rw [tT_o e, g4]
      unfold nd_vx
      rw [tT_o e, tT_o e, tT_o e]
      rcases g3 with g3 | ⟨g3, -⟩ | ⟨g3, g5, i, j, sa, sb, hi, hj, hA, hB, -⟩
      · rw [if_pos g3, if_pos g3]
      · rw [if_neg (by rw [g3]; decide), if_pos g3, if_neg (by rw [g3]; decide), if_pos g3]
      · rw [hA, hB, nI_clamp (by omega), nI_clamp (by omega), tT_o (by omega), tT_o (by omega)]
theorem nt_C_ext {T : Nat → Nat → Int32} {m : Nat} {M : mc_M} (h : nt_C M T m) {q a b : Int32} (hm : m < 150) : nt_C (mc_nodeC M T m q a b) (tT T m q a b) (m + 1) := by
  refine ⟨?_, fun i hi k hk => ?_⟩
  · unfold mc_nodeC
    rw [mc_put_at, if_pos ⟨rfl, rfl⟩]
  · have hi' : i = 0 ∨ i = 1 ∨ i = 2 ∨ i = 3 ∨ i = 4 := by omega
    unfold mc_nodeC
    by_cases e : k = m
    · subst e
      unfold tT
      rw [if_pos rfl]
      rcases hi' with rfl | rfl | rfl | rfl | rfl <;> simp [mc_put_at]
    · rw [tT_o e, mc_put_at, if_neg (by omega), mc_put_at, if_neg (by omega), mc_put_at, if_neg (by omega), mc_put_at, if_neg (by omega), mc_put_at, if_neg (by omega), mc_put_at, if_neg (by omega), mc_put_at, if_neg (by omega)]
      exact h.2 i hi k (by omega)
theorem nt_R_ext {T : Nat → Nat → Int32} {m : Nat} {M : mc_M} (h : nt_R M T m) {q a b : Int32} (hm : m < 150) : nt_R (mc_nodeR M T m q a b) (tT T m q a b) (m + 1) := by
  refine ⟨?_, fun i hi k hk => ?_⟩
  · unfold mc_nodeR
    rw [mc_put_at, if_pos ⟨rfl, rfl⟩]
  · have hi' : i = 0 ∨ i = 1 ∨ i = 2 ∨ i = 3 ∨ i = 4 := by omega
    unfold mc_nodeR
    by_cases e : k = m
    · subst e
      unfold tT
      rw [if_pos rfl]
      rcases hi' with rfl | rfl | rfl | rfl | rfl <;> simp [mc_put_at]
    · rw [tT_o e, mc_put_at, if_neg (by omega), mc_put_at, if_neg (by omega), mc_put_at, if_neg (by omega), mc_put_at, if_neg (by omega), mc_put_at, if_neg (by omega), mc_put_at, if_neg (by omega), mc_put_at, if_neg (by omega), mc_put_at, if_neg (by omega)]
      exact h.2 i hi k (by omega)
section TE
variable {T : Nat → Nat → Int32} {m : Nat} {q a b : Int32} {S : Int32}
theorem fl_fr_ext {F : Nat → Int32} {s k : Nat} (h : k ≠ m) : fl_fr (tT T m q a b) S F s k = fl_fr T S F s k := by
  unfold fl_fr
  rw [tT_o h]
theorem nd_val_ext {E : Nat → Int32} (hT : nt_ok T m) (hm : m < 150) {k : Nat} (hk : k < m ∨ k = 150) : nd_val (tT T m q a b 0) (tT T m q a b 1) (tT T m q a b 2) E k = nd_val (T 0) (T 1) (T 2) E k := by
  rcases hk with hk | hk
  · exact nd_val_rows (fun j hj => ⟨tT_o (by omega) 0, tT_o (by omega) 1, tT_o (by omega) 2⟩)
  · subst hk
    have e0 : T 0 150 = 0 := hT.2.2 0 150 (by omega)
    rw [nd_val_0 e0, nd_val_0 (by rw [tT_o (by omega)]; exact e0), tT_o (by omega)]
theorem sp_pt_ext {E : Nat → Int32} (hT : nt_ok T m) (hm : m < 150) : ∀ (f k : Nat), (k < m ∨ k = 150) → sp_pt (tT T m q a b) S E f k = sp_pt T S E f k
  | 0, _, _ => rfl
  | f + 1, k, hk => by
    unfold sp_pt
    have e : k ≠ m := by omega
    rw [nd_val_ext hT hm hk, tT_o e, tT_o e, tT_o e, tT_o e]
    by_cases c1 : (T 4 k &&& (S ^^^ (-1))) = 0
    · rw [if_pos c1, if_pos c1]
    · rw [if_neg c1, if_neg c1]
      by_cases c2 : T 0 k = 1
      · rw [if_pos c2, if_pos c2]
      · rw [if_neg c2, if_neg c2]
        obtain ⟨hkm, i, j, s, sa, sb, hi, hj, hA, hB, -⟩ := nt_in hT (fun z => c1 (and_0_of z)) c2
        rw [hA, hB, nI_clamp (by omega), nI_clamp (by omega), sp_pt_ext hT hm f i (Or.inl (by omega)), sp_pt_ext hT hm f j (Or.inl (by omega))]
def bkn (B : Blk) (m : Nat) : Prop := (∀ x ∈ B.2.1, x.2.1 < m ∨ x.2.1 = 150) ∧ (B.2.2.2.1.1 < m ∨ B.2.2.2.1.1 = 150)
theorem sp_tl_ext (hT : nt_ok T m) (hm : m < 150) : ∀ l : List Asg, (∀ x ∈ l, x.2.1 < m ∨ x.2.1 = 150) → sp_tl (tT T m q a b) S l = sp_tl T S l
  | [], _ => rfl
  | x :: r, h => by
    unfold sp_tl sp_tas
    rw [sp_pt_ext hT hm _ _ (h x List.mem_cons_self), sp_tl_ext hT hm r (fun y hy => h y (List.mem_cons_of_mem _ hy))]
theorem sp_tr_ext {R : Nat → Blk} {nb : Nat} (hT : nt_ok T m) (hm : m < 150) (h : ∀ b, b < nb → bkn (R b) m) : ∀ r c, r + c ≤ nb → sp_tr (tT T m q a b) S R r c = sp_tr T S R r c
  | 0, _, _ => rfl
  | r + 1, c, hr => by
    obtain ⟨h1, h2⟩ := h c (by omega)
    unfold sp_tr sp_tb sp_tj
    rw [sp_tr_ext hT hm h r (c + 1) (by omega), sp_tl_ext hT hm _ h1, sp_pt_ext hT hm _ _ h2]
theorem sp_tx_ext {R : Nat → Blk} {nb : Nat} (hT : nt_ok T m) (hm : m < 150) (h : ∀ b, b < nb → bkn (R b) m) : sp_tx (tT T m q a b) S nb R = sp_tx T S nb R := sp_tr_ext hT hm h nb 0 (by omega)
theorem fl_blk_bkn {M : mc_M} {f w c : Nat} {B : Blk} {ss : List Nat} {j : Nat} (hm : m ≤ 150) (h : fl_blk T m S M f w c B ss j) : bkn B m := by
  obtain ⟨-, -, -, -, a5, a6, -, -, -, ⟨k, b1, -, b3⟩, -⟩ := h
  refine ⟨fun x hx => ?_, by rw [b3]; exact b1⟩
  rw [a6] at hx
  obtain ⟨s, hs, rfl⟩ := List.mem_map.mp hx
  obtain ⟨-, k', c1, c2⟩ := a5 s hs
  show (M (f + 10) s).toNatClampNeg < m ∨ (M (f + 10) s).toNatClampNeg = 150
  rw [c2, nI_clamp (by omega)]
  exact c1
theorem crs_ext {M : mc_M} {f nb : Nat} {R : Nat → Blk} {SS : Nat → List Nat} {J : Nat → Nat} (hm : m < 150) (h : crs T m S M f nb R (fun _ => false) SS J) : crs (tT T m q a b) (m + 1) S M f nb R (fun _ => false) SS J := by
  refine ⟨fun c hc gc => ?_, h.2⟩
  obtain ⟨⟨a1, a2, a3, a4, a5, a6, a7, a8, a9, ⟨k, b1, b2, b3⟩, a11, a12⟩, q1, q2⟩ := h.1 c hc gc
  refine ⟨⟨a1, a2, a3, a4, fun s hs => ?_, ?_, a7, a8, a9, ⟨k, by omega, b2, by rw [b3, fl_fr_ext (by omega)]⟩, a11, a12⟩, q1, q2⟩
  · obtain ⟨c1, k', c2, c3⟩ := a5 s hs
    exact ⟨c1, k', by omega, c3⟩
  · rw [a6]
    refine List.map_congr_left (fun s hs => ?_)
    obtain ⟨-, k', c2, c3⟩ := a5 s hs
    unfold fl_as
    rw [c3, nI_clamp (by omega), fl_fr_ext (by omega)]
theorem mrs_ext {M : mc_M} {pb nb : Nat} {R : Nat → Blk} {PS : Nat → List Nat} (hm : m < 150) (h : mrs T m S M pb nb R PS) : mrs (tT T m q a b) (m + 1) S M pb nb R PS := by
  refine ⟨fun c hc => ?_, h.2⟩
  obtain ⟨a1, a2, a3, a4, a5, a6, a7, ⟨j, nd, b1, b2, b3, b4, b5⟩, a9, a10⟩ := h.1 c hc
  refine ⟨a1, a2, a3, a4, fun s hs => ?_, ?_, a7, ⟨j, nd, b1, b2, b3, ?_, ?_⟩, a9, a10⟩
  · obtain ⟨c1, v, k, c2, c3, c4⟩ := a5 s hs
    exact ⟨c1, v, k, c2, by omega, c4⟩
  · rw [a6]
    refine List.map_congr_left (fun s hs => ?_)
    obtain ⟨-, v, k, c2, c3, c4, c5⟩ := a5 s hs
    unfold mp_as
    rw [c5, nI_clamp (by omega), fl_fr_ext (by omega)]
  · rcases b4 with b4 | b4
    · exact Or.inl b4
    · exact Or.inr ⟨by omega, b4.2⟩
  · rw [b5, fl_fr_ext (by rcases b4 with b4 | b4 <;> omega)]
theorem pgR_ext {M : mc_M} {P : Nat → Blk} (h : pgR M m P) : pgR M (m + 1) P := fun c hc => by
  obtain ⟨h1, h2, h3⟩ := h c hc
  refine ⟨h1, h2, fun i hi => ?_⟩
  obtain ⟨v, k, q1, q2, q3⟩ := h3 i hi
  exact ⟨v, k, q1, by omega, q3⟩
theorem pjR_ext {M : mc_M} {P : Nat → Blk} (h : pjR M m P) : pjR M (m + 1) P := fun c hc => by
  obtain ⟨h1, h2, h3, h4⟩ := h c hc
  refine ⟨h1, ?_, h3, ?_⟩
  · rcases h2 with h2 | h2
    · exact Or.inl h2
    · exact Or.inr ⟨by omega, h2.2⟩
  · rcases h4 with h4 | ⟨k1, k2, k3⟩ | h4
    · exact Or.inl h4
    · exact Or.inr (Or.inl ⟨k1, by omega, k3⟩)
    · exact Or.inr (Or.inr h4)
end TE
