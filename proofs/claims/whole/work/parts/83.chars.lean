/-! String.charAt over the operators' signs -/
theorem hdSP : ySP.cls ≠ "java/lang/invoke/MethodHandle" ∧ ySP.cls ≠ "java/lang/invoke/VarHandle" ∧ (parseMethodDescriptor ySP.desc).map (fun d => d.parameters.length) = some 3 := by decide +kernel
theorem hdSK : ySK.cls ≠ "java/lang/invoke/MethodHandle" ∧ ySK.cls ≠ "java/lang/invoke/VarHandle" ∧ (parseMethodDescriptor ySK.desc).map (fun d => d.parameters.length) = some 2 := by decide +kernel
theorem hdSL : ySL.cls ≠ "java/lang/invoke/MethodHandle" ∧ ySL.cls ≠ "java/lang/invoke/VarHandle" ∧ (parseMethodDescriptor ySL.desc).map (fun d => d.parameters.length) = some 2 := by decide +kernel
/-- a method of a String that lies below the world -/
theorem co_VS {g : mc_G} {d d' dn' a idx : Nat} {own : String} {y : MethodName} {bytes : ByteArray} {maxL : Nat} {ret : Option FieldType} (h0 : g.2.2.2.2.heap.size ≤ g.2.2.1) (hc : Cond.code y bytes maxL ret ∈ WL0) (hl : Cond.methodLink own idx y ∈ WL0) (hini : Cond.initialized y.cls ∈ WL0) (hinst : Cond.instanceMethod y ∈ WL0) (hsel : Cond.selects y.cls y y ∈ WL0)
    (hd : y.cls ≠ "java/lang/invoke/MethodHandle" ∧ y.cls ≠ "java/lang/invoke/VarHandle" ∧ (parseMethodDescriptor y.desc).map (fun d => d.parameters.length) = some a) (hlev : d' + 1 ≤ d ∧ maxL ≤ 21) (hcls : y.cls = "java/lang/String") :
    mc_CO g.2.2.2.2 g.1 g.2.1 cl0 g.2.2.1 g.2.2.2.1 true tab0 WL0 NW0 d own idx 0 (a + 1) dn' (fun av n M L Q => match av with
      | .retAddr q :: as => va_O "java/lang/String" q (mz_A0 g) g.2.2.2.2 g.2.2.2.2.heap ∧ mc_CT g.2.2.2.2 g.1 g.2.1 cl0 g.2.2.1 g.2.2.2.1 true tab0 WL0 NW0 y bytes maxL ret d' dn' (.retAddr q :: as) n M L Q
      | _ => False) := by
  refine ⟨fun av n M L Q Q' hQ h => ?_, ?_⟩
  · match av, h with
    | .retAddr q :: as, h => exact ⟨h.1, mc_CT_mono hQ h.2⟩
  · intro p e R s m args below meth c Q nL n0 dn cc c0 hx hb hml hown hts hK hZ hO hR x hxk pc ls av r n M L hdg hw8 hlen hroom h
    have hxe : x = .invokevirtual idx := by
      rcases hxk with ⟨_, h⟩ | ⟨h, _⟩ | ⟨h, _⟩
      · exact h
      · cases h
      · cases h
    subst hxe
    have hRe : R = mc_rmd tab0 d dn n0 := hR
    match av, hlen, h with
    | .retAddr q :: as, hlen, h =>
      intro h1 hf
      obtain ⟨hq, g4⟩ := h
      have hG := mc_good wl_ok hc c0
      have hM := g4 hf
      refine mv_call (dn' := dn') (Qr := fun rv M' L' => mc_V p g.1 e R s m args below meth c Q g.2.1 cl0 g.2.2.1 g.2.2.2.1 true tab0 nL n0 dn (pc + 3) ls (rv.toList ++ r) (n + dn') M' L') (a := (((Value.retAddr q :: as).map (mc_ga g.2.2.1))).toArray) hroom (fun H locs lsC hP hz hS hls => ?_) (fun rv M' L' hq => hq) h1 hf
      have hk : ∀ a : Nat, a < g.2.2.2.2.heap.size → ¬ mz_A0 g a → s.heap[a]? = g.2.2.2.2.heap[a]? := fun a ha hb => hO.2.2 a (Nat.lt_of_not_le hb)
      have hrecv : ∃ cell : Cell, H[q]? = some cell ∧ cell.vm.isStatics = false ∧ s.vm.findClass y.cls = some cell.cls := by
        obtain ⟨cell, z1, z2, z3, -⟩ := ((((hq.moved hO.1.alike).kept hk).narrow (B := mc_A true g.2.2.1 tab0.length) (fun q hq => hq.1)).kept hS.2.1)
        exact ⟨cell, z1, z2, by rw [hcls]; exact z3⟩
      refine va_runV (As := as.map (mc_ga g.2.2.1)) (C := y.cls) (b := q) (rest := r.map (mc_ga g.2.2.1)) ⟨hx, hb, hml, hown, hts⟩ hM ⟨callB_of a hts hG rfl rfl rfl (hts _ (List.mem_cons_of_mem _ hini)) (hts _ (List.mem_cons_of_mem _ hl)) hd ⟨?_, ?_⟩, hts _ (List.mem_cons_of_mem _ hinst), hts _ (List.mem_cons_of_mem _ hsel)⟩ ⟨mc_blind nw_ok, hrecv, fun U hU hWm => ⟨rfl, by rw [hU]; exact hP, fun z => by rw [hU]; exact hz z, va_K.moved hWm.alike hK, mc_NW_warm nw_ok hWm hZ, mc_O_to hO hS hU hWm⟩⟩ rfl ?_ hls ?_ ?_ hdg (by rw [hRe]; exact mc_roomle h1.1 hroom)
      · rw [hRe]
        show d' + 1 ≤ d
        exact hlev.1
      · rw [hRe]
        show 8 + (maxL + 11) + 40 * d' ≤ 40 * d
        omega
      · rw [List.length_map]
        simpa using hlen
      · show ((Value.retAddr q :: as).reverse ++ r).map (mc_ga g.2.2.1) = _
        simp [mc_ga]
      · show 2 * 0 + _ ≤ 8
        rw [mc_w_eq g.2.2.1 r]
        omega
section MZT
variable {g : mc_G} {d n : Nat} {M : mc_M} {L : mc_L} {Q : Option Value → mc_M → mc_L → Prop}
theorem cSK {i k : Nat} (hg : mc_S1 g) (hi : i < k) (hk : k < 2 ^ 31) (h : Q none M L) : ctSK g (d + 2) [.int (nI i), .int (nI k)] n M L Q := by
  obtain ⟨hg0, aK, aV, -, hst⟩ := hg
  refine mz_intro rfl (Nat.le_of_ble_eq_true rfl) (fun p e s m args below meth c hb => ?_)
  have hK := mz_closed (e := e) (below := below) (n0 := n) (dn := 0) (d := d + 2) (Qr := Q) hb (tb := tbSK) (fg := []) (fp := []) (cal := [(1059, 1, 3, 0, ctSP g (d + 1))]) (kl := []) (by decide +kernel) (by decide +kernel) (by decide +kernel) (fun _ h => absurd h List.not_mem_nil) (fun _ h => absurd h List.not_mem_nil) (fun _ h => absurd h List.not_mem_nil)
    (List.forall_mem_cons.mpr ⟨co_S nw_ok wl_ok (wl_t (tb_4 23 rfl) rfl) (wl_t (tb_4 21 rfl) rfl) (wl_t (tb_1 21 rfl) rfl) (wl_t (tb_4 22 rfl) rfl) hdSP (by omega), fun _ h => absurd h List.not_mem_nil⟩)
  obtain ⟨hx, hbb, hml, hown, hts, hKK, hZ, hO, hr, hlk, hnm⟩ := hb
  obtain ⟨-, -, -, -, -, hzq⟩ := mz_st_to hg0.2.1 hst hO
  refine hK.1 [2] 20 0 _ _ _ _ _ ?_
  have go : ∀ v : Value, (v = .null ∨ ∃ t, v = .retAddr t) → mz_V g p e s m args below meth c 2 n 0 (d + 2) Q 5 [some (.int (nI i)), some (.int (nI k))] (v :: [.int (nI k), .int (nI i)]) n M L := fun v hv => hK.1 [] 20 5 _ _ _ _ _ (cSP hv hi hk ⟨Nat.le_refl _, h⟩)
  intro h0 hf H locs lsC hP hz hS hl
  have hlink : (Cond.fieldLink "java/lang/String" 1053 "jdk/internal/util/Preconditions" "SIOOBE_FORMATTER" "Ljava/util/function/BiFunction;").before args s = true := hts _ (List.mem_cons_of_mem _ (wl_t (tb_4 19 rfl) rfl))
  rcases hzq with hzq | ⟨t, hzq⟩
  · exact va_gets hx hbb hzq hS hown hlink (fun _ h => h) (by decide +kernel) (go .null (Or.inl rfl) h0 hf H locs lsC hP hz hS hl)
  · exact va_gets hx hbb hzq hS hown hlink (fun _ h => h) (by decide +kernel) (go (.retAddr t) (Or.inr ⟨t, rfl⟩) h0 hf H locs lsC hP hz hS hl)
theorem cSI (hg : mc_S1 g) {q : Nat} (hq : ∀ s, mc_O g.2.2.2.2 g.2.2.1 s → ∃ aV, mz_st g (mc_A true g.2.2.1 tab0.length) q aV s s.heap) (h : Q (some (.int 1)) M L) : ctSI g (d + 1) [.retAddr q] n M L Q := by
  refine mz_intro rfl (Nat.le_of_ble_eq_true rfl) (fun p e s m args below meth c hb => ?_)
  have hK := mz_closed (e := e) (below := below) (n0 := n) (dn := 0) (d := d + 1) (Qr := Q) hb (tb := tbSI) (fg := []) (fp := []) (cal := []) (kl := []) (by decide +kernel) (by decide +kernel) (by decide +kernel) (fun _ h => absurd h List.not_mem_nil) (fun _ h => absurd h List.not_mem_nil) (fun _ h => absurd h List.not_mem_nil) (fun _ h => absurd h List.not_mem_nil)
  obtain ⟨hx, hbb, hml, hown, hts, hKK, hZ, hO, hr, hlk, hnm⟩ := hb
  obtain ⟨aV, h1, h2, h3, h4, h5, h6⟩ := hq s hO
  have go2 : mz_V g p e s m args below meth c 1 n 0 (d + 1) Q 10 [some (.retAddr q)] [.int 0] n M L := hK.1 [] 20 10 _ _ _ _ _ ⟨fun z => absurd rfl z, fun _ => ⟨Or.inr rfl, Nat.le_refl _, h⟩⟩
  have go1 : mz_V g p e s m args below meth c 1 n 0 (d + 1) Q 7 [some (.retAddr q)] [.retAddr q] n M L := by
    intro h0 hf H locs lsC hP hz hS hl
    exact vk_getf hx hbb h2 hS hown (hts _ (List.mem_cons_of_mem _ (wl_t (tb_5 119 rfl) rfl))) (fun _ h => h) (by decide +kernel) (go2 h0 hf H locs lsC hP hz hS hl)
  have go0 : mz_V g p e s m args below meth c 1 n 0 (d + 1) Q 3 [some (.retAddr q)] [.int 1] n M L := hK.1 [7] 20 3 _ _ _ _ _ ⟨fun z => absurd z (by decide), fun _ => go1⟩
  intro h0 hf H locs lsC hP hz hS hl
  exact va_gets hx hbb h5 hS hown (hts _ (List.mem_cons_of_mem _ (wl_t (tb_4 11 rfl) rfl))) (fun _ h => h) (by decide +kernel) (go0 h0 hf H locs lsC hP hz hS hl)
theorem sgn_bits : ∀ j, j < 5 → ((sgn j &&& 255).toUInt32 % 65536).toInt32 = sgn j ∧ narrow .char (.int (sgn j)) = .int (sgn j) := by decide +kernel
theorem cSL (hg : mc_S1 g) {v i : Nat} (hi : i < 5) (hq : ∀ s, mc_O g.2.2.2.2 g.2.2.1 s → va_T .byte v 5 (fun j => .int (sgn j)) (mc_A true g.2.2.1 tab0.length) s s.heap) (h : Q (some (.int (sgn i))) M L) : ctSL g (d + 3) [.retAddr v, .int (nI i)] n M L Q := by
  refine mz_intro rfl (Nat.le_of_ble_eq_true rfl) (fun p e s m args below meth c hb => ?_)
  have hK := mz_closed (e := e) (below := below) (n0 := n) (dn := 0) (d := d + 3) (Qr := Q) hb (tb := tbSL) (fg := []) (fp := []) (cal := [(9, 1, 2, 0, ctSK g (d + 2))]) (kl := []) (by decide +kernel) (by decide +kernel) (by decide +kernel) (fun _ h => absurd h List.not_mem_nil) (fun _ h => absurd h List.not_mem_nil) (fun _ h => absurd h List.not_mem_nil)
    (List.forall_mem_cons.mpr ⟨co_S nw_ok wl_ok (wl_t (tb_4 18 rfl) rfl) (wl_t (tb_4 16 rfl) rfl) (wl_t (tb_1 19 rfl) rfl) (wl_t (tb_4 17 rfl) rfl) hdSK (by omega), fun _ h => absurd h List.not_mem_nil⟩)
  obtain ⟨hx, hbb, hml, hown, hts, hKK, hZ, hO, hr, hlk, hnm⟩ := hb
  have hT := hq s hO
  obtain ⟨e1, e2⟩ := sgn_bits i hi
  have go4 : mz_V g p e s m args below meth c 2 n 0 (d + 3) Q 14 [some (.retAddr v), some (.int (nI i))] [.int (sgn i)] n M L := mz_cret hx hbb hr hlk e2 (by decide +kernel) ⟨Nat.le_refl _, h⟩
  have go3 : mz_V g p e s m args below meth c 2 n 0 (d + 3) Q 9 [some (.retAddr v), some (.int (nI i))] [.int (sgn i)] n M L := hK.1 [14] 20 9 _ _ _ _ _ (by
    show mz_V g p e s m args below meth c 2 n 0 (d + 3) Q 14 [some (.retAddr v), some (.int (nI i))] [.int ((sgn i &&& 255).toUInt32 % 65536).toInt32] n M L
    rw [e1]
    exact go4)
  have go2 : mz_V g p e s m args below meth c 2 n 0 (d + 3) Q 8 [some (.retAddr v), some (.int (nI i))] [.int (nI i), .retAddr v] n M L := by
    intro h0 hf H locs lsC hP hz hS hl
    exact va_tb hx hbb hT hS (vp_in_nI hi (by omega)) (v := .int (sgn i)) (by show Value.int (sgn (nI i).toNatClampNeg) = _; rw [nI_clamp (by omega)]) (by decide +kernel) (go3 h0 hf H locs lsC hP hz hS hl)
  have go1 : mz_V g p e s m args below meth c 2 n 0 (d + 3) Q 3 [some (.retAddr v), some (.int (nI i))] [.int (nI 5), .int (nI i)] n M L := hK.1 [8] 20 3 _ _ _ _ _ (cSK hg hi (by omega) go2)
  refine hK.1 [2] 20 0 _ _ _ _ _ ?_
  intro h0 hf H locs lsC hP hz hS hl
  exact va_tlen hx hbb hT hS (v := nI 5) rfl (by decide +kernel) (go1 h0 hf H locs lsC hP hz hS hl)
theorem cSC (hg : mc_S1 g) {q i : Nat} (hi : i < 5) (ho : va_O "java/lang/String" q (mz_A0 g) g.2.2.2.2 g.2.2.2.2.heap) (aV : Nat) (hq : ∀ s, mc_O g.2.2.2.2 g.2.2.1 s → mz_st g (mc_A true g.2.2.1 tab0.length) q aV s s.heap) (h : Q (some (.int (sgn i))) M L) : ctSC g (d + 4) [.retAddr q, .int (nI i)] n M L Q := by
  refine mz_intro rfl (Nat.le_of_ble_eq_true rfl) (fun p e s m args below meth c hb => ?_)
  have hK := mz_closed (e := e) (below := below) (n0 := n) (dn := 0) (d := d + 4) (Qr := Q) hb (tb := tbSC) (fg := []) (fp := []) (cal := [(492, 0, 1, 0, _), (495, 1, 2, 0, ctSL g (d + 3))]) (kl := []) (by decide +kernel) (by decide +kernel) (by decide +kernel) (fun _ h => absurd h List.not_mem_nil) (fun _ h => absurd h List.not_mem_nil) (fun _ h => absurd h List.not_mem_nil)
    (List.forall_mem_cons.mpr ⟨co_VS (y := ySI) (d' := d + 1) hg.1.2.1 (wl_t (tb_4 10 rfl) rfl) (wl_t (tb_4 7 rfl) rfl) (wl_t (tb_1 19 rfl) rfl) (wl_t (tb_4 8 rfl) rfl) (wl_t (tb_4 9 rfl) rfl) (by decide +kernel) (by omega) rfl, List.forall_mem_cons.mpr ⟨co_S nw_ok wl_ok (wl_t (tb_4 15 rfl) rfl) (wl_t (tb_4 13 rfl) rfl) (wl_t (tb_1 20 rfl) rfl) (wl_t (tb_4 14 rfl) rfl) hdSL (by omega), fun _ h => absurd h List.not_mem_nil⟩⟩)
  obtain ⟨hx, hbb, hml, hown, hts, hKK, hZ, hO, hr, hlk, hnm⟩ := hb
  obtain ⟨h1, h2, h3, h4, h5, h6⟩ := hq s hO
  obtain ⟨e1, e2⟩ := sgn_bits i hi
  have go4 : mz_V g p e s m args below meth c 2 n 0 (d + 4) Q 15 [some (.retAddr q), some (.int (nI i))] [.int (sgn i)] n M L := mz_cret hx hbb hr hlk e2 (by decide +kernel) ⟨Nat.le_refl _, h⟩
  have go3 : mz_V g p e s m args below meth c 2 n 0 (d + 4) Q 11 [some (.retAddr q), some (.int (nI i))] [.retAddr aV] n M L := hK.1 [15] 20 11 _ _ _ _ _ (cSL hg hi (fun s hO => (hq s hO).2.2.2.1) go4)
  have go2 : mz_V g p e s m args below meth c 2 n 0 (d + 4) Q 8 [some (.retAddr q), some (.int (nI i))] [.retAddr q] n M L := by
    intro h0 hf H locs lsC hP hz hS hl
    exact vk_getf hx hbb h3 hS hown (hts _ (List.mem_cons_of_mem _ (wl_t (tb_5 120 rfl) rfl))) (fun _ h => h) (by decide +kernel) (go3 h0 hf H locs lsC hP hz hS hl)
  exact hK.1 [8] 20 0 _ _ _ _ _ ⟨ho, cSI hg (fun s hO => ⟨aV, hq s hO⟩) ⟨fun z => absurd z (by decide), fun _ => go2⟩⟩
end MZT
