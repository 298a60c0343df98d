/-! The claim, from an invariant that all pairs of calls keep -/
theorem mtA_to {M M' : mc_M} (h : mtA M) (hM : ∀ c, c < 64 → M' c = M c) : mtA M' := by
  obtain ⟨h0, h8, h9, h1, h2, h3, h5, hf1, hf2⟩ := h
  have e := hM 0 (by decide)
  exact ⟨fun k hk => by rw [e]; exact h0 k hk, by rw [e]; exact h8, by rw [e]; exact h9, mtA1_to h1 (fun c _ q => hM c (by omega)), mtA2_to h2 (fun c _ q => hM c (by omega)), mtA3_to h3 (fun c _ q => hM c (by omega)), mtA5_to h5 (fun c _ q => hM c (by omega)), mtAF_to hf1 (fun c _ q => hM c (by omega)), mtAF_to hf2 (fun c _ q => hM c (by omega))⟩
section LST
variable {p : Program} {e : Env} {s : State} {m : MethodId} {below : List Frame} {meth : Method} {c : Code} {l : Launch} {sb L : Nat} {xs : Nat → Int32}
variable {D : va_G} {cA : Nat → ClassId}
abbrev lV (p : Program) (l : Launch) (e : Env) (s : State) (m : MethodId) (sb : Nat) (below : List Frame) (meth : Method) (c : Code) (D : va_G) (cA : Nat → ClassId) (md : Bool) : mc_K :=
  mc_V p l e (mc_rmd tab0 2048 611 0) s m #[Value.ref sb] below meth c (lw_Z below #[Value.ref sb] s) D cl0 s.heap.size cA md tab0 7 0 611
theorem lw_ri (C0 : lw_At p s m meth c sb L xs) (md : Bool) : ∀ pc ls x n M L, decode code pc = .ok (.ireturn, 1) → mc_ri (some .boolean) x (mc_en md n 0 611 ((fun rv (_ : mc_M) (_ : mc_L) => rv = some (Value.int 1)) (some (.int x)) M L)) → lV p l e s m sb below meth c D cA md pc ls [.int x] n M L := by
  obtain ⟨hx, hb, hr, hml, hown, hts, hX, hbl, hlk, hgv⟩ := C0
  intro pc ls x n M L hdg h
  have hx1 : x = 1 ∧ n ≤ 611 := by
    obtain ⟨-, h⟩ : (x = 0 ∨ x = 1) ∧ mc_en md n 0 611 (some (Value.int x) = some (Value.int 1)) := h
    cases md with
    | true =>
      obtain ⟨h1, h2⟩ : n ≤ 0 + 611 ∧ some (Value.int x) = some (Value.int 1) := h
      exact ⟨Value.int.inj (Option.some.inj h2), by omega⟩
    | false =>
      obtain ⟨h1, h2⟩ : n = 0 + 611 ∧ some (Value.int x) = some (Value.int 1) := h
      exact ⟨Value.int.inj (Option.some.inj h2), by omega⟩
  obtain ⟨rfl, hn⟩ := hx1
  intro h0 hf H locs lsC hP hz hS hl
  refine va_forget (fun q hq => (hS.2.2 q hq).1) ?_
  have hsl : mc_sl tab0 n ≤ mc_sl tab0 611 := mc_sl_le hn
  have hs : mc_sl tab0 611 ≤ 7293033 := by decide +kernel
  exact W.widen (by omega) (by omega) (lw_ret hx hb hr hlk hdg)
theorem lw_mode {pc : Nat} {ls : List (Option Value)} {st : List Value} {M : mc_M} {L : mc_L} (hM : mc_full M) (k : lV p l e s m sb below meth c D cA true pc ls st 99 M L) : lV p l e s m sb below meth c D cA false pc ls st 99 M L := by
  intro h0 hf H locs lsC hP hz hS hl
  refine va_forget (fun q hq => (hS.2.2 q hq).1) ?_
  exact k h0 (fun _ => Nat.le_refl _) H [] lsC (by rw [mc_wd_md hM]; exact hP) (fun z => by cases z) ⟨hS.1, fun q g1 g2 => hS.2.1 q g1 (fun z => absurd z.1 (Nat.not_le.mpr g1)), fun q hq => by cases hq⟩ hl
set_option maxRecDepth 20000 in
theorem law_start {INV : mc_M → Prop} (hfl : l.flags = flags0) (hL : L ≤ 3072) (C0 : lw_At p s m meth c sb L xs) (hinit : ∀ M, mtA M → mtR M → (∀ k ∈ inR, M 64 k = 0) → INV M) (hps : ∀ g, mc_S2 g → LPS g 2047 INV) : W p l e room_1 s m #[Value.ref sb] below meth c s.heap [] 0 0 (lw_Z below #[Value.ref sb] s) (entryFrame m ([Value.ref sb] : List Value).toArray 7) := by
  have C1 := C0
  obtain ⟨hx, hb, hr, hml, hown, hts, hX, hbl, hlk, hgv⟩ := C0
  have htw : ∀ w ∈ Cond.initialized "FlowMixerLaw" :: WL0, w.before #[Value.ref sb] s = true := by
    intro w hw
    rcases List.mem_cons.mp hw with rfl | hw
    · exact hts _ (List.mem_append_right _ (tb_1 0 rfl))
    · exact hts _ (List.mem_filter.mp hw).1
  obtain ⟨D, cA, hK⟩ := k_known (fun w hw => htw w (List.mem_cons_of_mem _ hw))
  have hS2 : mc_S2 (l, D, s.heap.size, cA, s) := k_S2 hfl hts hgv
  have hp := hps _ hS2
  have hZ : mc_NW NW0 s := fun w hw => by
    obtain ⟨h1, h2⟩ := List.mem_filter.mp hw
    have h3 := hts w h1
    cases w <;> first | exact va_Nw.of rfl h3 | (simp [mc_isN] at h2)
  have hO : mc_O s s.heap.size s := ⟨State.WarmedH.refl s, Nat.le_refl _, fun _ _ => rfl⟩
  have htb : mc_tbok code 7 tbL_law = true := tl_ok
  have hsw : mc_swok tbL_law swL_law = true := by decide +kernel
  have hswL : mc_swokL tbL_law swL_law = true := by decide +kernel
  have K2 := mc_close (md := true) (s0 := s) (l := l) (D := D) (cl := cl0) (b := s.heap.size) (cA := cA) (tab := tab0) (WL := WL0) (NW := NW0) (d := 2048) (dn := 611) (n0 := 0) (nL := 7) (own := RL) (mname := meth.name) (cc := code) (ret := some .boolean) (tb := tbL_law) (sh := shL (l, D, s.heap.size, cA, s) 2047 sb L xs) (Qr := fun rv _ _ => rv = some (.int 1)) (p := p) (e := e) (R := mc_rmd tab0 2048 611 0) (s := s) (m := m) (args := #[Value.ref sb]) (below := below) (meth := meth) (c := c) (Q := lw_Z below #[Value.ref sb] s) (c0 := Cond.initialized "FlowMixerLaw")
    tok0 hcl0 htb hsw hswL (fun _ h => absurd h List.not_mem_nil) (fun _ h => absurd h List.not_mem_nil) (fun _ h => absurd h List.not_mem_nil) (fun _ h => absurd h List.not_mem_nil) (calL_ok (l, D, s.heap.size, cA, s) 2047) rfl (fun z => by cases z) hx hb hml hown rfl htw hK hZ hO rfl (fun sa len xs2 h => by
      cases h
      exact ⟨hX, hbl, fun z => absurd z.1 (Nat.not_le.mpr hbl)⟩) (lw_ri C1 true) (fun _ _ _ _ _ _ z => by cases z)
  have K1 := mc_close (md := false) (s0 := s) (l := l) (D := D) (cl := cl0) (b := s.heap.size) (cA := cA) (tab := tab0) (WL := WL0) (NW := NW0) (d := 2048) (dn := 611) (n0 := 0) (nL := 7) (own := RL) (mname := meth.name) (cc := code) (ret := some .boolean) (tb := tbL_law) (sh := shB (l, D, s.heap.size, cA, s) 2047) (Qr := fun rv _ _ => rv = some (.int 1)) (p := p) (e := e) (R := mc_rmd tab0 2048 611 0) (s := s) (m := m) (args := #[Value.ref sb]) (below := below) (meth := meth) (c := c) (Q := lw_Z below #[Value.ref sb] s) (c0 := Cond.initialized "FlowMixerLaw")
    tok0 hcl0 htb hsw hswL (fun _ h => absurd h List.not_mem_nil) (fun _ h => absurd h List.not_mem_nil) (fun _ h => absurd h List.not_mem_nil) (fun _ h => absurd h List.not_mem_nil) (calB_ok (l, D, s.heap.size, cA, s) 2047) rfl (fun _ => ⟨nwB_ok, small0, arr_ok⟩) hx hb hml hown rfl htw hK hZ hO rfl (fun sa len xs2 h => by cases h) (lw_ri C1 false) (fun _ _ _ _ _ _ z => by cases z)
  have main : lV p l e s m sb below meth c D cA false 0 (mc_args [.retAddr sb] 7) [] 0 (fun _ _ => 0) (fun _ _ => 0) := by
    refine K1.1 [20] 20 0 _ _ _ _ _ ⟨by decide, by decide, ?_⟩
    refine cB_A (by decide) (fun M1 L1 hA => ?_)
    refine ⟨by decide, by decide, ?_⟩
    refine cB_R (by decide) (fun M2 L2 h64 hR hin => ?_)
    refine ⟨rfl, by decide, ?_⟩
    have o : ∀ c, c ≠ 98 → mc_set M2 98 (fun _ => 0) c = M2 c := fun c h => mc_set_n h
    have hA2 : mtA (mc_set M2 98 (fun _ => 0)) := mtA_to hA (fun c hc => by
      rw [o c (by omega), h64 c hc]
      exact mc_set_n (by omega))
    have hR2 : mtR (mc_set M2 98 (fun _ => 0)) := ⟨fun c q1 q2 q3 q4 => by rw [o c (by omega)]; exact hR.1 c q1 q2 q3 q4, fun b hb => by rw [o 73 (by decide), o 74 (by decide)]; exact hR.2.1 b hb, fun k hk => by rw [o 64 (by decide)]; exact hR.2.2 k hk⟩
    refine lw_mode (full_of hA2 hR2) ?_
    refine K2.1 [23] 20 20 _ _ _ _ _ ?_
    exact lw_loop K2 (by decide) hL hp (fun _ _ => rfl) 512 0 99 _ _ rfl (by decide) (hinit _ hA2 hR2 (fun k hk => by
      rw [o 64 (by decide), hin k hk]
      show mc_set M1 64 (fun _ => 0) 64 k = 0
      rw [mc_set_s]))
  have hl := lv_entry ([Value.ref sb]) (n := 7) (Nat.le_of_ble_eq_true rfl)
  rw [lg_entry_eq]
  refine w_room (R' := mc_rmd tab0 2048 611 0) (by decide) (by decide) (by decide) (by decide +kernel) ?_
  exact main ⟨Nat.le_refl _, by decide⟩ (fun z => by cases z) s.heap [] _ (fun k q h => by
    have : (mc_wd s.heap.size cA false tab0 0 (fun _ _ => 0) (fun _ _ => 0))[k]? = none := by
      rw [mc_wd_at]
      rfl
    rw [this] at h
    cases h) (fun _ => rfl) va_S.rf (mc_lv_entry (av := [.retAddr sb]) hl)
end LST
