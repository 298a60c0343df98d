/-! Calls of constructors -/
section MCI
variable {s0 : State} {l : Launch} {D : va_G} {cl : List vw_C} {b : Nat} {cA : Nat → ClassId} {md : Bool} {tab : List mc_D} {WL NW : List Cond} {d : Nat} {own : String} {idx a dn' : Nat} {y : MethodName} {bytes : ByteArray} {maxL : Nat} {d' : Nat}
def mc_ic (F : mc_PT) : mc_PT := fun av n M L Q => match av with
  | .ref q :: as => F (.ref q :: as) n M L Q
  | _ => False
theorem co_IN (hN : NW.all mc_isN = true) (hW : WL.all goodWord = true) (hc : Cond.code y bytes maxL none ∈ WL) {host : String} (hl : Cond.methodLinkNest own idx y host ∈ NW) (hini : Cond.initialized y.cls ∈ WL) (hinst : Cond.instanceMethod y ∈ WL) (hnm : y.name = "<init>")
    (hd : y.cls ≠ "java/lang/invoke/MethodHandle" ∧ y.cls ≠ "java/lang/invoke/VarHandle" ∧ (parseMethodDescriptor y.desc).map (fun d => d.parameters.length) = some a) (hlev : d' + 1 ≤ d ∧ maxL ≤ 21) :
    mc_CO s0 l D cl b cA md tab WL NW d own idx 2 (a + 1) dn' (mc_ic (mc_CT s0 l D cl b cA md tab WL NW y bytes maxL none d' dn')) := by
  refine ⟨fun av n M L Q Q' hQ h => ?_, ?_⟩
  · match av, h with
    | .ref q :: as, h => exact mc_CT_mono hQ h
  · intro p e R s m args below meth c Q nL n0 dn cc c0 hx hb hml hown hts hK hZ hO hR x hxk pc ls av r n M L hdg hw8 hlen hroom h
    have hxe : x = .invokespecial idx := by
      rcases hxk with ⟨h, _⟩ | ⟨h, _⟩ | ⟨_, h⟩
      · cases h
      · cases h
      · exact h
    subst hxe
    have hRe : R = mc_rmd tab d dn n0 := hR
    match av, hlen, h with
    | .ref q :: as, hlen, h =>
      intro h0 hf
      have hG := mc_good hW hc c0
      have hM : Met l y (.code y bytes maxL none :: WL) (mc_rmd tab d' dn' n) _ _ _ _ _ := h hf
      refine mv_call (dn' := dn') (Qr := fun rv M' L' => mc_V p l e R s m args below meth c Q D cl b cA md tab nL n0 dn (pc + 3) ls (rv.toList ++ r) (n + dn') M' L') (a := (((Value.ref q :: as).map (mc_ga b))).toArray) hroom (fun H locs lsC hP hz hS hls => ?_) (fun rv M' L' hq => hq) h0 hf
      refine va_runIN (As := as.map (mc_ga b)) (b := b + q) (rest := r.map (mc_ga b)) ⟨hx, hb, hml, hown, hts⟩ hM ⟨va_cnB a hts hG rfl rfl rfl (hZ _ hl) (hts _ (List.mem_cons_of_mem _ hini)) hd ⟨?_, ?_⟩, hnm, hts _ (List.mem_cons_of_mem _ hinst)⟩ ⟨mc_blind hN, fun U hU hWm => ⟨rfl, by rw [hU]; exact hP, fun z => by rw [hU]; exact hz z, va_K.moved hWm.alike hK, mc_NW_warm hN hWm hZ, mc_O_to hO hS hU hWm⟩⟩ rfl ?_ hls ?_ ?_ hdg (by rw [hRe]; exact mc_roomle h0.1 hroom)
      · rw [hRe]
        show d' + 1 ≤ d
        exact hlev.1
      · rw [hRe]
        show 8 + (maxL + 11) + 40 * d' ≤ 40 * d
        omega
      · rw [List.length_map]
        simpa using hlen
      · show ((Value.ref q :: as).reverse ++ r).map (mc_ga b) = _
        simp [mc_ga]
      · show 2 * 0 + _ ≤ 8
        rw [mc_w_eq b r]
        omega
theorem co_I (hN : NW.all mc_isN = true) (hW : WL.all goodWord = true) (hc : Cond.code y bytes maxL none ∈ WL) (hl : Cond.methodLink own idx y ∈ WL) (hini : Cond.initialized y.cls ∈ WL) (hinst : Cond.instanceMethod y ∈ WL) (hnm : y.name = "<init>")
    (hd : y.cls ≠ "java/lang/invoke/MethodHandle" ∧ y.cls ≠ "java/lang/invoke/VarHandle" ∧ (parseMethodDescriptor y.desc).map (fun d => d.parameters.length) = some a) (hlev : d' + 1 ≤ d ∧ maxL ≤ 21) :
    mc_CO s0 l D cl b cA md tab WL NW d own idx 2 (a + 1) dn' (mc_ic (mc_CT s0 l D cl b cA md tab WL NW y bytes maxL none d' dn')) := by
  refine ⟨fun av n M L Q Q' hQ h => ?_, ?_⟩
  · match av, h with
    | .ref q :: as, h => exact mc_CT_mono hQ h
  · intro p e R s m args below meth c Q nL n0 dn cc c0 hx hb hml hown hts hK hZ hO hR x hxk pc ls av r n M L hdg hw8 hlen hroom h
    have hxe : x = .invokespecial idx := by
      rcases hxk with ⟨h, _⟩ | ⟨h, _⟩ | ⟨_, h⟩
      · cases h
      · cases h
      · exact h
    subst hxe
    have hRe : R = mc_rmd tab d dn n0 := hR
    match av, hlen, h with
    | .ref q :: as, hlen, h =>
      intro h0 hf
      have hG := mc_good hW hc c0
      have hM : Met l y (.code y bytes maxL none :: WL) (mc_rmd tab d' dn' n) _ _ _ _ _ := h hf
      refine mv_call (dn' := dn') (Qr := fun rv M' L' => mc_V p l e R s m args below meth c Q D cl b cA md tab nL n0 dn (pc + 3) ls (rv.toList ++ r) (n + dn') M' L') (a := (((Value.ref q :: as).map (mc_ga b))).toArray) hroom (fun H locs lsC hP hz hS hls => ?_) (fun rv M' L' hq => hq) h0 hf
      refine va_runI (As := as.map (mc_ga b)) (b := b + q) (rest := r.map (mc_ga b)) ⟨hx, hb, hml, hown, hts⟩ hM ⟨callB_of a hts hG rfl rfl rfl (hts _ (List.mem_cons_of_mem _ hini)) (hts _ (List.mem_cons_of_mem _ hl)) hd ⟨?_, ?_⟩, hnm, hts _ (List.mem_cons_of_mem _ hinst)⟩ ⟨mc_blind hN, fun U hU hWm => ⟨rfl, by rw [hU]; exact hP, fun z => by rw [hU]; exact hz z, va_K.moved hWm.alike hK, mc_NW_warm hN hWm hZ, mc_O_to hO hS hU hWm⟩⟩ rfl ?_ hls ?_ ?_ hdg (by rw [hRe]; exact mc_roomle h0.1 hroom)
      · rw [hRe]
        show d' + 1 ≤ d
        exact hlev.1
      · rw [hRe]
        show 8 + (maxL + 11) + 40 * d' ≤ 40 * d
        omega
      · rw [List.length_map]
        simpa using hlen
      · show ((Value.ref q :: as).reverse ++ r).map (mc_ga b) = _
        simp [mc_ga]
      · show 2 * 0 + _ ≤ 8
        rw [mc_w_eq b r]
        omega
end MCI
