/-! Text.putPart -/
theorem sgn_of {q : Int32} (h2 : 2 ≤ q) (h6 : q ≤ 6) : ∃ i, i < 5 ∧ q - 2 = nI i ∧ sgn i = sp_op q ∧ vp_nar .char (sp_op q) = sp_op q := by
  obtain ⟨j, hj, rfl⟩ := nI_of2 (M := 6) (n := 6) rfl (fun z => by
    have := Int32.lt_of_lt_of_le z (Int32.le_trans (show (0 : Int32) ≤ 2 by decide) h2)
    exact Int32.lt_irrefl this) h6
  have h2' : 2 ≤ j := (nI_leI (a := 2) (by decide) (by omega)).mp h2
  have hc : j = 2 ∨ j = 3 ∨ j = 4 ∨ j = 5 ∨ j = 6 := by omega
  rcases hc with rfl | rfl | rfl | rfl | rfl
  · exact ⟨0, by decide +kernel⟩
  · exact ⟨1, by decide +kernel⟩
  · exact ⟨2, by decide +kernel⟩
  · exact ⟨3, by decide +kernel⟩
  · exact ⟨4, by decide +kernel⟩
section PPR
variable {g : mc_G} {n : Nat} {L : mc_L} {T : Nat → Nat → Int32} {m : Nat} {S : Int32}
theorem txf_N {M M' : mc_M} (hN : nt_C M T m) (h : txf M M') : nt_C M' T m := nt_C_to hN (fun c _ _ => h.1 c (by omega) (by omega))
theorem pp_rec (hg : mc_S1 g) (hT : nt_ok T m) (k : Nat) : ∀ (f e s d : Nat) (M : mc_M) (tx : List Int32) (Q : Option Value → mc_M → mc_L → Prop) (x y : Int32), k < f → (k < m ∨ k = 150) → T 3 k = nI s → e + s / 2 ≤ 40 → s / 2 + 40 ≤ d → x = nI k → y = nI e → nt_C M T m → txt M tx → (tx ++ sp_pt T S (M 37) f k).length + 12 < 2 ^ 31 →
    (∀ M', txt M' (tx ++ sp_pt T S (M 37) f k) → txf M M' → Q none M' L) → ctT_putPart g d [.ref 35, .ref 1, .int x, .int S, .int y] n M L Q := by
  induction k using Nat.strongRecOn with
  | _ k ih =>
    intro f e s d M tx Q x y hf hk hs he hd hx hy hN ht hl h
    subst hx
    subst hy
    obtain ⟨f, rfl⟩ := Nat.exists_eq_add_of_le' (show 1 ≤ f by omega)
    obtain ⟨d, rfl⟩ := Nat.exists_eq_add_of_le' (show 5 ≤ d by omega)
    have hm := hT.1
    have hk151 : k < 151 := by omega
    have vk : vp_in (nI k) 151 := vp_in_nI hk151 (by decide)
    have ck : (nI k).toNatClampNeg = k := nI_clamp (by omega)
    have r4 : M 6 k = T 4 k := hN.2 4 (by decide) k hk
    have r0 : ∀ M' : mc_M, nt_C M' T m → M' 2 k = T 0 k := fun M' hn => hn.2 0 (by decide) k hk
    have r1 : ∀ M' : mc_M, nt_C M' T m → M' 3 k = T 1 k := fun M' hn => hn.2 1 (by decide) k hk
    have r2 : ∀ M' : mc_M, nt_C M' T m → M' 4 k = T 2 k := fun M' hn => hn.2 2 (by decide) k hk
    obtain ⟨hg0, aK, aV, hR, hst⟩ := id hg
    refine mz_intro rfl (Nat.le_of_ble_eq_true rfl) (fun p e2 s2 m2 args below meth c hb => ?_)
    have hK := mz_closed (e := e2) (below := below) (n0 := n) (dn := 0) (d := d + 4 + 1) (Qr := Q) hb (tb := tbT_putPart) (fg := fgT) (fp := fpT) (cal := (106, 0, 2, 0, _) :: calT g (d + 4)) (kl := klT) (by decide +kernel) (by decide +kernel) (by decide +kernel) fgT_ok (fpT_ok _) klT_ok
      (List.forall_mem_cons.mpr ⟨co_VS (y := ySC) (d' := d + 4) hg.1.2.1 (wl_t (tb_4 6 rfl) rfl) (wl_t (tb_4 3 rfl) rfl) (wl_t (tb_1 19 rfl) rfl) (wl_t (tb_4 4 rfl) rfl) (wl_t (tb_4 5 rfl) rfl) (by decide +kernel) (by omega) rfl, calT_ok g (d + 4)⟩)
    obtain ⟨hx, hbb, hml, hown, hts, hKK, hZ, hO, hr, hlk, hnm⟩ := hb
    have number : (T 4 k &&& (S ^^^ (-1))) = 0 → ∀ (Q' : Option Value → mc_M → mc_L → Prop), (∀ M', txt M' (tx ++ sp_pt T S (M 37) (f + 1) k) → txf M M' → Q' none M' L) → ∀ r, r = nd_val (T 0) (T 1) (T 2) (M 37) k → ctT_putNumber g (d + 4) [.ref 35, .int r] n M L Q' := fun z Q' hq r hr => by
      unfold sp_pt at hl hq
      rw [if_pos z] at hl hq
      subst hr
      refine cT_putNumber ht ?_ (by omega) hq
      rw [List.length_append] at hl
      omega
    have letter : ¬ (T 4 k &&& (S ^^^ (-1))) = 0 → M 2 k = 1 → ∀ (Q' : Option Value → mc_M → mc_L → Prop), (∀ M', txt M' (tx ++ sp_pt T S (M 37) (f + 1) k) → txf M M' → Q' none M' L) → ctT_putLetter g (d + 4) [.ref 35, .int (M 3 k)] n M L Q' := fun z z1 Q' hq => by
      unfold sp_pt at hl hq
      rw [r0 M hN] at z1
      rw [if_neg z, if_pos z1] at hl hq
      have hkm : k < m := by
        rcases hk with hk | hk
        · exact hk
        · exfalso
          have := hT.2.2 0 k (by omega)
          rw [this] at z1
          exact absurd z1 (by decide)
      obtain ⟨⟨s1, -, -, -, g3⟩, -⟩ := hT.2.1 k hkm
      have ⟨v, hv, ev⟩ : ∃ a, a < 8 ∧ T 1 k = nI a := by
        rcases g3 with g3 | ⟨-, g3⟩ | ⟨g3, -⟩
        · rw [z1] at g3
          exact absurd g3 (by decide)
        · exact g3
        · rw [z1] at g3
          exact absurd g3 (by decide)
      rw [show (97 : Int32) = nI 97 from rfl, ev, nI_add] at hl hq
      exact cT_putLetter (by rw [r1 M hN, ev]) hv ht (by simp at hl; omega) (by omega) hq
    have go85 : ¬ (T 4 k &&& (S ^^^ (-1))) = 0 → ¬ M 2 k = 1 → ∀ (M2 : mc_M), txt M2 (tx ++ 40 :: sp_pt T S (M 37) f (T 1 k).toNatClampNeg) → txf M M2 → mz_V g p e2 s2 m2 args below meth c 5 n 0 (d + 4 + 1) Q 85 [some (.ref 35), some (.ref 1), some (.int (nI k)), some (.int S), some (.int (nI e))] [.retAddr aK, .ref 35] n M2 L := fun z z1 M2 t2 f2 => by
      unfold sp_pt at hl h
      rw [r0 M hN] at z1
      rw [if_neg z, if_neg z1] at hl h
      obtain ⟨hkm, a, b, s1, sa, sb, ha, hb, eA, eB, eS, eSa, eSb, es, h60, h1a, h1b, -, q2, q6⟩ := nt_in hT (fun w => z (and_0_of w)) z1
      have : s = s1 := (nI_eq (by omega) (by omega)).mp (hs.symm.trans eS)
      subst this
      obtain ⟨i, hi, ei, eo, en⟩ := sgn_of q2 q6
      have N2 := txf_N hN f2
      rw [eA, eB, nI_clamp (by omega), nI_clamp (by omega)] at hl h
      rw [eA, nI_clamp (by omega)] at t2
      simp only [List.length_append, List.length_cons, List.length_nil] at hl
      have l2 : (tx ++ 40 :: sp_pt T S (M 37) f a).length = tx.length + (sp_pt T S (M 37) f a).length + 1 := by simp; omega
      refine hK.1 [] 60 85 _ _ _ _ _ ⟨vk, ?_⟩
      rw [ck, r0 M2 N2]
      have cs : ∀ (x : Int32) (Q' : Option Value → mc_M → mc_L → Prop), x = nI i → Q' (some (.int (sgn i))) M2 L → ctSC g (d + 4) [.retAddr aK, .int x] n M2 L Q' := fun x Q' hx h => by
        subst hx
        exact cSC hg hi hst.1 aV (fun s hO => mz_st_to hg0.2.1 hst hO) h
      refine ⟨hst.1, cs _ _ ei ?_⟩
      rw [eo]
      refine cT_put t2 en (by rw [l2]; omega) (by omega) (fun M3 t3 f3 => ⟨vk, ?_⟩)
      rw [ck, r2 M3 (txf_N N2 f3), eB]
      have e37 : M3 37 = M 37 := by rw [f3.1 37 (by decide) (by decide), f2.1 37 (by decide) (by decide)]
      refine ih b hb f (e + 1) sb (d + 4) M3 _ _ _ _ (by omega) (Or.inl (by omega)) eSb (by omega) (by omega) rfl (nI_1 e) (txf_N N2 f3) t3 (by rw [e37]; simp; omega) (fun M4 t4 f4 => ?_)
      rw [e37] at t4
      refine cT_put t4 (by decide +kernel) (by simp; omega) (by omega) (fun M5 t5 f5 => ⟨Nat.le_refl _, h M5 ?_ (txf_tr (txf_tr (txf_tr f2 f3) f4) f5)⟩)
      simpa using t5
    have go60 : ¬ (T 4 k &&& (S ^^^ (-1))) = 0 → ¬ M 2 k = 1 → mz_V g p e2 s2 m2 args below meth c 5 n 0 (d + 4 + 1) Q 60 [some (.ref 35), some (.ref 1), some (.int (nI k)), some (.int S), some (.int (nI e))] [] n M L := fun z z1 => by
      have g85 := go85 z z1
      rw [r0 M hN] at z1
      unfold sp_pt at hl
      rw [if_neg z, if_neg z1] at hl
      obtain ⟨hkm, a, b, s1, sa, sb, ha, hb, eA, eB, eS, eSa, eSb, es, h60, h1a, h1b, -, q2, q6⟩ := nt_in hT (fun w => z (and_0_of w)) z1
      have : s = s1 := (nI_eq (by omega) (by omega)).mp (hs.symm.trans eS)
      subst this
      rw [eA, eB, nI_clamp (by omega), nI_clamp (by omega)] at hl
      rw [eA, nI_clamp (by omega)] at g85
      simp only [List.length_append, List.length_cons, List.length_nil] at hl
      refine hK.1 [83] 60 60 _ _ _ _ _ (cT_put ht (by decide +kernel) (by omega) (by omega) (fun M1 t1 f1 => ⟨vk, ?_⟩))
      have N1 := txf_N hN f1
      rw [ck, r1 M1 N1, eA]
      have e37 : M1 37 = M 37 := f1.1 37 (by decide) (by decide)
      refine ih a ha f (e + 1) sa (d + 4) M1 _ _ _ _ (by omega) (Or.inl (by omega)) eSa (by omega) (by omega) rfl (nI_1 e) N1 t1 (by rw [e37]; simp; omega) (fun M2 t2 f2 => ?_)
      rw [e37] at t2
      have g := g85 M2 (by simpa using t2) (txf_tr f1 f2)
      intro h0 hf2 H locs lsC hP hz hS hl2
      exact va_ldcS hx hbb hown (vk_R.warm hO.1 hR) (by decide +kernel) (g h0 hf2 H locs lsC hP hz hS hl2)
    have go37 : ¬ (T 4 k &&& (S ^^^ (-1))) = 0 → mz_V g p e2 s2 m2 args below meth c 5 n 0 (d + 4 + 1) Q 37 [some (.ref 35), some (.ref 1), some (.int (nI k)), some (.int S), some (.int (nI e))] [] n M L := fun z => by
      refine hK.1 [60] 60 37 _ _ _ _ _ ⟨vk, ?_⟩
      rw [ck]
      refine ⟨fun z1 => go60 z z1, fun z1 => ⟨vk, ?_⟩⟩
      rw [ck]
      exact letter z z1 _ (fun M' h1 h2 => ⟨Nat.le_refl _, h M' h1 h2⟩)
    refine hK.1 [37] 60 0 _ _ _ _ _ ⟨vk, ?_⟩
    rw [ck, r4]
    refine ⟨fun z => cN_value hT hN (Or.inr (Or.inr rfl)) rfl hk (by omega) (fun r hr => number z _ (fun M' h1 h2 => ⟨Nat.le_refl _, h M' h1 h2⟩) r hr), fun z => ⟨fun _ => go37 z, fun z2 => absurd (nI_le (a := e) (b := 40) (by omega) (by decide)) z2⟩⟩
end PPR
theorem pp_ok {g : mc_G} (hg : mc_S1 g) : PP g := by
  intro d n M L Q T m S x k tx hT hN hx hk ht hl hd h
  have ⟨s, hs, h60⟩ : ∃ s, T 3 k = nI s ∧ s ≤ 60 := by
    rcases hk with hk | hk
    · obtain ⟨⟨s, g0, g1, g2, -⟩, -⟩ := hT.2.1 k hk
      exact ⟨s, g0, g2⟩
    · exact ⟨0, hT.2.2 3 k (by have := hT.1; omega), by decide⟩
  exact pp_rec hg hT k (k + 1) 0 s d M tx Q x 0 (by omega) hk hs (by omega) (by omega) hx rfl hN ht hl h
