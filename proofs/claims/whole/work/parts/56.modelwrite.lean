/-! The text of a residual program -/
def sp_tas (T : Nat → Nat → Int32) (S : Int32) (a : Asg) : List Int32 := nI (97 + a.1) :: 61 :: (sp_pt T S a.2.2 (a.2.1 + 1) a.2.1 ++ [59])
def sp_tl (T : Nat → Nat → Int32) (S : Int32) : List Asg → List Int32
  | [] => []
  | a :: r => sp_tas T S a ++ sp_tl T S r
def sp_tj (T : Nat → Nat → Int32) (S : Int32) (J : Jmp) : List Int32 := if J.1 = 0 then 94 :: sp_num J.2.2.1 else if J.1 = 1 then 63 :: (sp_pt T S J.2.1.2 (J.2.1.1 + 1) J.2.1.1 ++ (44 :: (sp_num J.2.2.1 ++ (44 :: sp_num J.2.2.2)))) else 33 :: sp_pt T S J.2.1.2 (J.2.1.1 + 1) J.2.1.1
def sp_tb (T : Nat → Nat → Int32) (S : Int32) (b : Nat) (B : Blk) : List Int32 := sp_num (nI b) ++ (58 :: (sp_tl T S B.2.1 ++ (sp_tj T S B.2.2 ++ [59])))
def sp_tr (T : Nat → Nat → Int32) (S : Int32) (R : Nat → Blk) : Nat → Nat → List Int32
  | 0, _ => []
  | r + 1, b => sp_tb T S b (R b) ++ sp_tr T S R r (b + 1)
def sp_tx (T : Nat → Nat → Int32) (S : Int32) (nb : Nat) (R : Nat → Blk) : List Int32 := sp_tr T S R nb 0
theorem sp_pt_le {T : Nat → Nat → Int32} {m : Nat} (hT : nt_ok T m) {S : Int32} {E : Nat → Int32} (f k : Nat) : (sp_pt T S E f k).length ≤ 720 := by
  rcases sp_pt_len hT (S := S) (E := E) f k with q | ⟨s, -, q1, q2⟩ <;> omega
theorem sp_tl_len {T : Nat → Nat → Int32} {m : Nat} (hT : nt_ok T m) {S : Int32} : ∀ l : List Asg, (sp_tl T S l).length ≤ 723 * l.length
  | [] => Nat.le_refl _
  | a :: r => by
    have ih := sp_tl_len hT (S := S) r
    have := sp_pt_le hT (S := S) (E := a.2.2) (a.2.1 + 1) a.2.1
    unfold sp_tl sp_tas
    simp
    omega
theorem sp_tb_len {T : Nat → Nat → Int32} {m : Nat} (hT : nt_ok T m) {S : Int32} {b : Nat} {B : Blk} (h : B.2.1.length ≤ 1100) : (sp_tb T S b B).length ≤ 800000 := by
  have h1 := sp_num_len (nI b)
  have h2 := sp_tl_len hT (S := S) B.2.1
  have h3 : (sp_tj T S B.2.2).length ≤ 760 := by
    have q1 := sp_num_len B.2.2.2.2.1
    have q2 := sp_num_len B.2.2.2.2.2
    have q3 := sp_pt_le hT (S := S) (E := B.2.2.2.1.2) (B.2.2.2.1.1 + 1) B.2.2.2.1.1
    unfold sp_tj
    split
    · simp
      omega
    · split
      · simp
        omega
      · simp
        omega
  unfold sp_tb
  simp
  omega
theorem sp_tr_len {T : Nat → Nat → Int32} {m : Nat} (hT : nt_ok T m) {S : Int32} {R : Nat → Blk} {nb : Nat} (h : ∀ b, b < nb → (R b).2.1.length ≤ 1100) : ∀ r b, r + b ≤ nb → (sp_tr T S R r b).length ≤ 800000 * r
  | 0, _, _ => Nat.le_refl _
  | r + 1, b, hr => by
    have ih := sp_tr_len hT (S := S) h r (b + 1) (by omega)
    have := sp_tb_len hT (S := S) (b := b) (h b (by omega))
    unfold sp_tr
    rw [List.length_append]
    omega
theorem sp_tx_len {T : Nat → Nat → Int32} {m : Nat} (hT : nt_ok T m) {S : Int32} {R : Nat → Blk} {nb : Nat} (hnb : nb ≤ 100) (h : ∀ b, b < nb → (R b).2.1.length ≤ 1100) : (sp_tx T S nb R).length + 12 < 2 ^ 31 := by
  have := sp_tr_len hT (S := S) h nb 0 (by omega)
  unfold sp_tx
  omega
section WR
variable {g : mc_G} {d n : Nat} {M : mc_M} {L : mc_L} {Q : Option Value → mc_M → mc_L → Prop} {T : Nat → Nat → Int32} {m : Nat} {tx : List Int32}
theorem cR_spell (hT : nt_ok T m) (hN : nt_R M T m) {D : Int32} (h24 : M 64 24 = D) {x : Int32} {p nd : Nat} (hx : x = nI p) (hp : p < 1100) (hj : jnR m (M 93 p) nd) (ht : txR M tx) (hd : 3 ≤ d) (hF : (tx ++ sp_pt T (255 &&& (D ^^^ (-1))) (fl_fr T (255 &&& (D ^^^ (-1))) (M 94) p nd) (nd + 1) nd).length + 12 < 2 ^ 31)
    (h : ∀ M', spf M M' → txR M' (tx ++ sp_pt T (255 &&& (D ^^^ (-1))) (fl_fr T (255 &&& (D ^^^ (-1))) (M 94) p nd) (nd + 1) nd) → Q none M' L) : ctR_spell g d [.ref 64, .int x] n M L Q := by
  obtain ⟨d, rfl⟩ := Nat.exists_eq_add_of_le' (show 1 ≤ d by omega)
  subst hx
  have hm := hT.1
  have vp : vp_in (nI p) 1100 := vp_in_nI hp (by decide)
  have ep : (nI p).toNatClampNeg = p := nI_clamp (by omega)
  have ev : sp_pt T (255 &&& (D ^^^ (-1))) (wvE M D p) (nd + 1) nd = sp_pt T (255 &&& (D ^^^ (-1))) (fl_fr T (255 &&& (D ^^^ (-1))) (M 94) p nd) (nd + 1) nd := by
    refine sp_pt_env hT _ _ (fun v hv hs hb => ?_)
    unfold wvE fl_fr
    have hD : fl_bit D v = false := by
      rw [st_bit D hv] at hs
      simpa using hs
    rw [if_pos ⟨hv, hD⟩, if_pos ⟨hv, hs, hb⟩]
  have tl : tx.length ≤ (tx ++ sp_pt T (255 &&& (D ^^^ (-1))) (fl_fr T (255 &&& (D ^^^ (-1))) (M 94) p nd) (nd + 1) nd).length := by rw [List.length_append]; omega
  have v0 : vp_in 0 200 := vp_in_nI (n := 0) (by decide) (by decide)
  refine inR_spell (Nat.le_of_ble_eq_true rfl) (fun K hK => hK.1 [37] 60 0 _ _ _ _ _ (cR_worthOf hT hN h24 rfl hp hj (by omega) (fun r M1 e1 e2 hr e3 => ⟨vp, v0, vp, fun z => ?_, fun z => ?_⟩)))
  · have z' : ¬ M1 93 (nI p).toNatClampNeg = -1 := z
    rw [ep, e1 93 (by decide) (by decide)] at z'
    have hjn : nd < m ∧ M 93 p = nI nd := by
      rcases hj with hj | hj
      · exact absurd hj.1 z'
      · exact hj
    obtain ⟨s, hs, hs1, hs60⟩ := nt_sz hT hjn.1
    have sf : spf M (mc_put M1 97 (0 : Int32).toNatClampNeg (M1 93 (nI p).toNatClampNeg)) := ⟨fun c h1 h2 h3 h4 h5 => by
      funext l
      rw [mc_put_at, if_neg (fun w => h5 w.1), e1 c h2 h3], fun i hi => by rw [mc_put_at, if_neg (fun z => absurd z.1 (by decide)), e1 64 (by decide) (by decide)]⟩
    refine spl_lp hT hjn.1 (M := M) (E := wvE M D p) hN h24 (by omega) hF h K hK 180 [.inr nd] 1 tx _ ?_ (Nat.le_refl _) (fun y hy => ?_) rfl (fun j y hy => ?_) sf (fun j hj => ?_) ⟨?_, fun i hi c hc => ?_⟩ ?_
    · show 3 * (T 3 nd).toNatClampNeg + 0 ≤ 180
      rw [hs, nI_clamp (by omega)]
      omega
    · rw [List.mem_singleton.mp hy]
      exact Nat.le_refl _
    · match j, hy with
      | 0, hy =>
        have : y = .inr nd := (Option.some.inj hy).symm
        subst this
        rw [mc_put_at, if_pos ⟨rfl, rfl⟩, ep, e1 93 (by decide) (by decide), hjn.2]
        rfl
      | j + 1, hy => cases hy
    · rw [mc_put_at, if_neg (fun z => absurd z.1 (by decide))]
      exact e3 j hj hjn.1
    · rw [mc_put_at, if_neg (fun z => absurd z.1 (by decide)), e1 64 (by decide) (by decide)]
      exact ht.1
    · rw [mc_put_at, if_neg (fun z => absurd z.1 (by decide)), e1 96 (by decide) (by decide)]
      exact ht.2 i hi c hc
    · show tx ++ (sp_pt T (255 &&& (D ^^^ (-1))) (wvE M D p) (nd + 1) nd ++ []) = _
      rw [List.append_nil, ev]
  · have z' : M1 93 (nI p).toNatClampNeg = -1 := z
    rw [ep, e1 93 (by decide) (by decide)] at z'
    have hnd : nd = 150 := by
      rcases hj with hj | hj
      · exact hj.2
      · rw [hj.2] at z'
        exact absurd z' (nI_ne_m1 (by omega))
    have tx1 : txR (mc_put M1 97 (0 : Int32).toNatClampNeg (M1 93 (nI p).toNatClampNeg)) tx := ⟨by
      rw [mc_put_at, if_neg (fun z => absurd z.1 (by decide)), e1 64 (by decide) (by decide)]
      exact ht.1, fun i hi c hc => by
      rw [mc_put_at, if_neg (fun z => absurd z.1 (by decide)), e1 96 (by decide) (by decide)]
      exact ht.2 i hi c hc⟩
    have et : sp_pt T (255 &&& (D ^^^ (-1))) (fl_fr T (255 &&& (D ^^^ (-1))) (M 94) p nd) (nd + 1) nd = [48] := by
      unfold sp_pt
      rw [hnd, hT.2.2 4 150 (by omega), if_pos (and_0_of rfl), nd_val_0 (hT.2.2 0 150 (by omega)), hT.2.2 1 150 (by omega)]
      exact sp_num_0
    rw [et] at h tl hF
    refine cR_put tx1 (by omega) (by omega) (fun M2 a1 a2 => ⟨Nat.le_refl _, h M2 ⟨fun c h1 h2 h3 h4 h5 => ?_, fun i hi => ?_⟩ a1⟩)
    · rw [a2.1 c h1 h4]
      funext l
      rw [mc_put_at, if_neg (fun w => h5 w.1), e1 c h2 h3]
    · rw [a2.2 i hi, mc_put_at, if_neg (fun z => absurd z.1 (by decide)), e1 64 (by decide) (by decide)]
end WR
