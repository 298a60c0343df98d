/-! What holds at the law's entry -/
theorem k_arr {ty : FieldType} {args : Array Value} {s : State} (h : (Cond.arrayClass ty).before args s = true) (ht : ty = .int ∨ ty = .long ∨ ty = .char ∨ ty = .boolean) : ∃ cA : ClassId, ArrOfT s cA ty ∧ va_RA s cA ty := by
  obtain ⟨c, k, comp, h1, h2, h3⟩ := Cond.arrayClass_spec h
  refine ⟨c, fun n z => ⟨fun k h => (by cases h), k, h2, comp, h3⟩, ?_⟩
  rcases ht with rfl | rfl | rfl | rfl <;> exact h1
theorem k_known {args : Array Value} {s : State} (hts : ∀ w ∈ WL0, w.before args s = true) : ∃ (D : va_G) (cA : Nat → ClassId), va_K D cl0 (mc_ty cA) s := by
  have hc : ∀ (ci : Nat), ∃ q : ClassId × (Nat → Nat), ∀ r : vw_C, cl0[ci]? = some r → u_Kn s r.1 r.2.1 r.2.2 q.1 q.2 := by
    intro ci
    cases hr : cl0[ci]? with
    | none => exact ⟨(0, fun _ => 0), fun r h => by cases h⟩
    | some r =>
      obtain ⟨C, T, N⟩ := r
      have hi : ∃ n, (Cond.instantiable C n).before args s = true := by
        match ci, hr with
        | 0, hr => cases hr; exact ⟨_, hts _ (wl_t (tb_1 24 rfl) rfl)⟩
        | 1, hr => cases hr; exact ⟨_, hts _ (wl_t (tb_1 32 rfl) rfl)⟩
        | 2, hr => cases hr; exact ⟨_, hts _ (wl_t (tb_1 69 rfl) rfl)⟩
        | 3, hr => cases hr; exact ⟨_, hts _ (wl_t (tb_1 187 rfl) rfl)⟩
        | 4, hr => cases hr; exact ⟨_, hts _ (wl_t (tb_1 198 rfl) rfl)⟩
        | 5, hr => cases hr; exact ⟨_, hts _ (wl_t (tb_1 220 rfl) rfl)⟩
        | 6, hr => cases hr; exact ⟨_, hts _ (wl_t (tb_2 8 rfl) rfl)⟩
        | 7, hr => cases hr; exact ⟨_, hts _ (wl_t (tb_2 24 rfl) rfl)⟩
        | 8, hr => cases hr; exact ⟨_, hts _ (wl_t (tb_4 58 rfl) rfl)⟩
        | k + 9, hr => cases hr
      obtain ⟨n, hi⟩ := hi
      obtain ⟨cC, iS, h⟩ := u_known hts (hcl0 ci C T N hr).1 hi
      exact ⟨(cC, iS), fun r h2 => by cases h2; exact h⟩
  obtain ⟨f, hf⟩ := Classical.axiomOfChoice hc
  obtain ⟨c0, h0⟩ := k_arr (hts _ (wl_t (tb_1 67 rfl) rfl)) (Or.inl rfl)
  obtain ⟨c1, h1⟩ := k_arr (hts _ (wl_t (tb_5 117 rfl) rfl)) (Or.inr (Or.inl rfl))
  obtain ⟨c2, h2⟩ := k_arr (hts _ (wl_t (tb_2 45 rfl) rfl)) (Or.inr (Or.inr (Or.inl rfl)))
  obtain ⟨c3, h3⟩ := k_arr (hts _ (wl_t (tb_4 203 rfl) rfl)) (Or.inr (Or.inr (Or.inr rfl)))
  refine ⟨(fun c => (f c).1, fun c => (f c).2), fun k => match k with
    | 0 => c0
    | 1 => c1
    | 2 => c2
    | _ => c3, fun c q hq => hf c q hq, fun k q hq => ?_⟩
  match k, hq with
  | 0, hq => cases hq; exact h0
  | 1, hq => cases hq; exact h1
  | 2, hq => cases hq; exact h2
  | 3, hq => cases hq; exact h3
  | k + 4, hq => cases hq
theorem k_as {args : Array Value} {s : State} {X Y : String} {n1 n2 : Nat} (hx : (Cond.instantiable X n1).before args s = true) (hy : (Cond.instantiable Y n2).before args s = true) (h : (Cond.not (.castable X Y)).before args s = true) : mx_as s X Y false := by
  obtain ⟨cx, kx, hcx, hkx, -⟩ := Cond.instantiable_spec hx
  obtain ⟨cy, ky, hcy, hky, -⟩ := Cond.instantiable_spec hy
  refine ⟨cx, cy, hcx, hcy, ?_, kx, hkx⟩
  simpa [Cond.before, Cond.holds, Cond.value, hcx, hcy] using h
theorem k_as1 {args : Array Value} {s : State} {X : String} {n1 : Nat} (hx : (Cond.instantiable X n1).before args s = true) (h : (Cond.castable X X).before args s = true) : mx_as s X X true := by
  obtain ⟨cx, kx, hcx, hkx, -⟩ := Cond.instantiable_spec hx
  obtain ⟨c, t, h1, h2, h3⟩ := Cond.castable_spec h
  exact ⟨c, t, h1, h2, h3, kx, by rw [hcx] at h1; cases h1; exact hkx⟩
def k_tm : Term := .string "FlowMixer$Text" 104
theorem k_S2 {l : Launch} {D : va_G} {cA : Nat → ClassId} {b : Nat} {s : State} (hfl : l.flags = flags0) (hts : ∀ w ∈ lw_tbl, w.before #[Value.ref b] s = true) (hgv : (Jvm.Cond.and given_1 narrow_1).before #[Value.ref b] s = true) : mc_S2 (l, D, s.heap.size, cA, s) := by
  have hs := flat_of_before _ hgv
  have ht : ∀ w ∈ tables_1, w.before #[Value.ref b] s = true := fun w hw => hts w (List.mem_append_right _ hw)
  have hA : ∀ a : Nat, a < s.heap.size → ¬ (fun q => s.heap.size ≤ q) a := fun a ha hq => absurd ha (Nat.not_lt.mpr hq)
  have h0 : mc_S0 (l, D, s.heap.size, cA, s) := ⟨hfl, Nat.le_refl _, #[Value.ref b], ht, hs _ (by decide +kernel), hs _ (by decide +kernel)⟩
  obtain ⟨adK, adV, hS, hE⟩ := vk_Sof (args := #[Value.ref b]) (s := s) (N := 1) (tm := fun _ => k_tm) (len := [5]) (byt := [[43, 45, 42, 61, 60]]) (A := fun q => s.heap.size ≤ q) (fun i hi => by
      have : i = 0 := by omega
      subst this
      decide) (fun i _ => hs (.exactly k_tm "java/lang/String") (by decide +kernel)) (fun i _ => hs (.eq (.field k_tm "java/lang/String" "coder" "B") (.int 0)) (by decide +kernel)) (fun i _ => hs (.arrayOf (.field k_tm "java/lang/String" "value" "[B") .byte) (by decide +kernel))
      (fun i hi => by
        have : i = 0 := by omega
        subst this
        exact hs (.eq (.length (.field k_tm "java/lang/String" "value" "[B")) (.int 5)) (by decide +kernel))
      (fun i hi j hj => by
        have : i = 0 := by omega
        subst this
        have hj5 : j < 5 := hj
        have hc : j = 0 ∨ j = 1 ∨ j = 2 ∨ j = 3 ∨ j = 4 := by omega
        rcases hc with rfl | rfl | rfl | rfl | rfl
        · exact hs (.eq (.elem (.field k_tm "java/lang/String" "value" "[B") (.int 0)) (.int 43)) (by decide +kernel)
        · exact hs (.eq (.elem (.field k_tm "java/lang/String" "value" "[B") (.int 1)) (.int 45)) (by decide +kernel)
        · exact hs (.eq (.elem (.field k_tm "java/lang/String" "value" "[B") (.int 2)) (.int 42)) (by decide +kernel)
        · exact hs (.eq (.elem (.field k_tm "java/lang/String" "value" "[B") (.int 3)) (.int 61)) (by decide +kernel)
        · exact hs (.eq (.elem (.field k_tm "java/lang/String" "value" "[B") (.int 4)) (.int 60)) (by decide +kernel))
      (fun i j hi hj hij => absurd (show i = j by omega) hij) hA
  obtain ⟨q1, q2, q3, q4⟩ := hS.1 0 (by decide)
  have i0 := ht _ (tb_2 98 rfl)
  have i1 := ht _ (tb_2 170 rfl)
  have i2 := ht _ (tb_3 18 rfl)
  refine ⟨⟨h0, adK 0, adV 0, vk_R.of (ht _ (tb_4 2 rfl)) (hE 0 (by decide)), q1, q2, q3, q4, ?_, ?_⟩, ?_⟩
  · exact va_Zof (ht _ (tb_4 12 rfl)) (ht _ (tb_1 19 rfl)) (va_eqt (hs (.eq (.static "java/lang/String" "COMPACT_STRINGS" "Z") (.int 1)) (by decide +kernel))) hA
  · exact va_Zqof (ht _ (tb_4 20 rfl)) (ht _ (tb_1 21 rfl)) (hs _ (by decide +kernel)) hA
  · intro k j hk hj
    have hk3 : k = 0 ∨ k = 1 ∨ k = 2 := by omega
    have hj3 : j = 0 ∨ j = 1 ∨ j = 2 := by omega
    rcases hk3 with rfl | rfl | rfl <;> rcases hj3 with rfl | rfl | rfl
    · exact k_as1 i0 (ht _ (tb_2 99 rfl))
    · exact k_as i0 i1 (hs (.not (.castable "java/util/NoSuchElementException" "java/lang/IllegalStateException")) (by decide +kernel))
    · exact k_as i0 i2 (hs (.not (.castable "java/util/NoSuchElementException" "java/lang/IllegalArgumentException")) (by decide +kernel))
    · exact k_as i1 i0 (hs (.not (.castable "java/lang/IllegalStateException" "java/util/NoSuchElementException")) (by decide +kernel))
    · exact k_as1 i1 (ht _ (tb_2 171 rfl))
    · exact k_as i1 i2 (hs (.not (.castable "java/lang/IllegalStateException" "java/lang/IllegalArgumentException")) (by decide +kernel))
    · exact k_as i2 i0 (hs (.not (.castable "java/lang/IllegalArgumentException" "java/util/NoSuchElementException")) (by decide +kernel))
    · exact k_as i2 i1 (hs (.not (.castable "java/lang/IllegalArgumentException" "java/lang/IllegalStateException")) (by decide +kernel))
    · exact k_as1 i2 (ht _ (tb_3 19 rfl))
