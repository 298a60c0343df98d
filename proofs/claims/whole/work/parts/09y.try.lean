/-- whether an object of the class t can be taken for one of the class c -/
def mx_as (s : State) (t c : String) (r : Bool) : Prop := ∃ (ct cc : ClassId), s.vm.findClass t = some ct ∧ s.vm.findClass c = some cc ∧ s.vm.assignable ct cc = r ∧ ∃ k, s.vm.classes[ct]? = some k
theorem mx_as.moved {s U : State} {t c : String} {r : Bool} (h : s.vm.Alike U.vm) (k : mx_as s t c r) : mx_as U t c r := by
  obtain ⟨ct, cc, h1, h2, h3, kk, h4⟩ := k
  obtain ⟨k', hk', -⟩ := h.2.2 _ _ h4
  exact ⟨ct, cc, by rw [h.findClass]; exact h1, by rw [h.findClass]; exact h2, by rw [h.assignable]; exact h3, k', hk'⟩
/-- a handler: it stores the object and returns a constant -/
def mx_hd (cc : ByteArray) (nL hpc : Nat) (val : Int32) : Prop :=
  (∃ (j : Nat) (z : Int), decode cc hpc = .ok (.astore j, 2) ∧ j < nL ∧ decode cc (hpc + 2) = .ok (.iconst z, 1) ∧ Int32.ofInt z = val ∧ decode cc (hpc + 2 + 1) = .ok (.ireturn, 1)) ∨
  (∃ (j : Fin 4) (z : Int), decode cc hpc = .ok (.astore_n j, 1) ∧ j.val < nL ∧ decode cc (hpc + 1) = .ok (.iconst z, 1) ∧ Int32.ofInt z = val ∧ decode cc (hpc + 1 + 1) = .ok (.ireturn, 1))
/-- which row catches an object of the kind k: the rows ahead of it don't take it -/
def mx_row (s : State) (own : String) (exn : Nat → String) (WL : List Cond) (hs : List ExceptionTableEntry) (pc k : Nat) (x : ExceptionTableEntry) : Prop :=
  ∃ pre rest, hs = pre ++ x :: rest ∧ x ∉ pre ∧ ∀ y ∈ pre ++ [x], covers y pc = true ∧ y.catchType ≠ 0 ∧ ∃ nm, Cond.classLink own y.catchType nm ∈ WL ∧ mx_as s (exn k) nm (decide (y = x))
section MTR
variable {p : Program} {l : Launch} {e : Env} {R : Room} {s : State} {m : MethodId} {args : Array Value} {below : List Frame} {meth : Method} {c : Code}
variable {D : va_G} {cl : List vw_C} {b : Nat} {cA : Nat → ClassId} {tab : List mc_D} {nL n0 dn : Nat}
variable {cc : ByteArray} {pc : Nat} {ls : List (Option Value)} {r as : List Value} {n : Nat} {M : mc_M} {L : mc_L} {exn : Nat → String} {Qr : Option Value → mc_M → mc_L → Prop} {Qt : Nat → mc_M → mc_L → Prop} {WL NW : List Cond} {s0 : State} {d d' : Nat}
theorem mv_try {own : String} {idx q a ci maxL : Nat} {y : MethodName} {bytes : ByteArray} {ret : Option FieldType} {T : u_T} {N : Nat} {fds : List Nat} {c0 : Cond} {hs : List ExceptionTableEntry}
    (hx : p.tables.exec = Jvm.exec) (hb : c.code = cc) (hml : c.maxLocals = nL) (hret : meth.sig.returnType = some .int) (hlk : meth.locks = false) (hown : s.vm.findClass own = some m.cls) (hts : ∀ w ∈ c0 :: WL, w.before args s = true) (hK : va_K D cl (mc_ty cA) s) (hZ : mc_NW NW s) (hO : mc_O s0 b s) (hR : R = mc_rmd tab d dn n0)
    (hhs : c.exceptionTable.toList = hs) (hN : NW.all mc_isN = true) (hW : WL.all goodWord = true) (hc : Cond.code y bytes maxL ret ∈ WL) (hl : Cond.methodLink own idx y ∈ WL) (hini : Cond.initialized y.cls ∈ WL) (hinst : Cond.instanceMethod y ∈ WL) (hsel : Cond.selects y.cls y y ∈ WL)
    (hd : y.cls ≠ "java/lang/invoke/MethodHandle" ∧ y.cls ≠ "java/lang/invoke/VarHandle" ∧ (parseMethodDescriptor y.desc).map (fun d => d.parameters.length) = some a) (hlev : d' + 1 ≤ d ∧ maxL ≤ 21) (hcl : cl[ci]? = some (y.cls, T, N)) (hq : tab[q]? = some (.inr (ci, fds))) (hal : as.length = a) (hdg : decode cc pc = .ok (.invokevirtual idx, 3)) (hw8 : mc_w r ≤ 8) (hroom : n + 1 ≤ n0 + dn)
    (h : mc_CX s0 l D cl b cA tab WL NW exn y bytes maxL ret d' 1 (.ref q :: as) n M L (fun rv M' L' => mc_V p l e R s m args below meth c (mc_Q below s D cl b cA true tab n0 dn exn Qr Qt) D cl b cA true tab nL n0 dn (pc + 3) ls (rv.toList ++ r) (n + 1) M' L')
      (fun k M' L' => ∃ x val, mx_row s own exn WL hs pc k x ∧ mx_hd cc nL x.handlerPc val ∧ Qr (some (.int val)) M' L')) : mc_V p l e R s m args below meth c (mc_Q below s D cl b cA true tab n0 dn exn Qr Qt) D cl b cA true tab nL n0 dn pc ls ((.ref q :: as).reverse ++ r) n M L := by
  intro h0 hf H locs lsC hP hz hS hl0 T0 hT X
  have hle : tab.length ≤ n := hf rfl
  have hqn : q < n := Nat.lt_of_lt_of_le (List.getElem?_eq_some_iff.mp hq).1 hle
  have hG := mc_good hW hc c0
  have he : (mc_wd b cA true tab n M L)[q]? = some (b + q, .inr (ci, (fds.mapIdx (fun k fd => mc_fv true M q k fd)).map (mc_ga b))) := mc_wd_in hqn hq
  obtain ⟨cellB, r1, r2, r3⟩ := va_recv hK hP hcl he
  obtain ⟨g1, g2⟩ := mc_roomle (tab := tab) (d := d) (dn' := 1) h0.1 hroom
  obtain ⟨o, st₀, t, T', Lc, e0, w0, hq1, hfr, X', e1, e2, hout⟩ := mx_callX X hx (free := mc_A true b tab.length) (own := own) (C := y.cls) (index := idx) (h hle) (mc_blind hN) (by rw [hR]; exact hlev.1) (by rw [hR]; show 8 + (maxL + 11) + 40 * d' ≤ 40 * d; omega) (by rw [hR]; exact g1) (by rw [hR]; exact g2) (pay_in hts hG) List.mem_cons_self
    (fun a st o t hh => ⟨hh.1, by obtain ⟨Lc, z1, z2⟩ := hh.2.2.1; exact ⟨Lc, z1, z2⟩⟩)
    hown (hts _ (List.mem_cons_of_mem _ hl)) (hts _ (List.mem_cons_of_mem _ hinst)) (hts _ (List.mem_cons_of_mem _ hsel)) (hts _ (List.mem_cons_of_mem _ hc)) (hts _ (List.mem_cons_of_mem _ hini)) ⟨hd.1, hd.2.1⟩ (b := b + q) (cellB := cellB) (by rw [hT]; exact r1) r2 r3
    (g := F0 m pc lsC (((Value.ref q :: as).reverse ++ r).map (mc_ga b))) rfl (by rw [hml]; exact hl0.1) (argsL := as.map (mc_ga b)) (rest := r.map (mc_ga b)) (fun sig hsg => by
      have h2 := hd.2.2
      rw [hsg] at h2
      rw [List.length_map, hal]
      exact (Option.some.inj h2).symm) (by show ((Value.ref q :: as).reverse ++ r).map (mc_ga b) = _; simp [mc_ga]) (by show 2 * 0 + _ ≤ 8; rw [mc_w_eq b r]; omega) (by rw [hb]; exact hdg)
    (fun U hU hWm => ⟨rfl, by rw [hU, hT]; exact hP, fun z => (by cases z), va_K.moved hWm.alike hK, mc_NW_warm hN hWm hZ, mc_O_to hO hS (by rw [hU, hT]) hWm⟩)
  obtain ⟨q1, ⟨q2, q3⟩, -, M', L', q4, q5, q6⟩ := hq1
  rw [e0, hT] at q2 q3
  have hS' : va_S (mc_A true b tab.length) s.heap t.heap (locs ++ Lc) := ⟨Nat.le_trans hS.1 q2, fun z z1 z2 => by rw [q3 z (Nat.lt_of_lt_of_le z1 hS.1) z2]; exact hS.2.1 z z1 z2, fun z hz' => by
    rcases List.mem_append.mp hz' with h | h
    · exact hS.2.2 z h
    · exact hfr z h⟩
  have c1 : n - n0 + 1 = n + 1 - n0 := by omega
  have c2 : mc_sl tab n - mc_sl tab n0 + (mc_sl tab (n + 1) - mc_sl tab n) = mc_sl tab (n + 1) - mc_sl tab n0 := by
    have h2 := mc_sl_le (tab := tab) h0.1
    have h3 := mc_sl_mono n tab 1
    omega
  rw [c1, c2] at X'
  rcases hout with ⟨v, ho, go⟩ | ⟨x, ho, go⟩
  · subst ho
    rcases q6 with ⟨rv, z1, z2⟩ | ⟨a', k, z1, z2, z3⟩
    · have hv' : v = rv.map (mc_ga b) := Outcome.returned.inj z1
      subst hv'
      obtain ⟨t2, a1, b1⟩ := z2 ⟨by omega, hroom⟩ (fun _ => Nat.le_trans hle (Nat.le_add_right _ _)) t.heap (locs ++ Lc) lsC q4 q5 hS' hl0 T' e1 X'
      refine ⟨t2, go t2 ?_, b1⟩
      have e4 : ((rv.toList ++ r).map (mc_ga b)) = (rv.map (mc_ga b)).toList ++ r.map (mc_ga b) := by cases rv <;> simp
      rw [e4] at a1
      exact a1
    · cases z1
  · subst ho
    rcases q6 with ⟨rv, z1, z2⟩ | ⟨a', k, z1, z2, z3⟩
    · cases z1
    · cases z1
      obtain ⟨xe, val, ⟨pre, rest, hsp, hnp, hrows⟩, hhd, hqr⟩ := z2
      obtain ⟨ce, y1, y2, y3⟩ := z3
      have hst : s.vm.findClass (exn k) = some ce.cls := by rw [← w0.alike.findClass]; exact y2
      have hpl : e.platform.magicAccessors = ({} : Platform).magicAccessors := by rw [X.admits.platform]
      have hk0 : ∃ kk, s.vm.classes[ce.cls]? = some kk := by
        obtain ⟨-, -, nm, -, ct, cc', u1, u2, u3, kk, u4⟩ := hrows xe (by simp)
        rw [hst] at u1
        cases u1
        exact ⟨kk, u4⟩
      obtain ⟨vm', hW', hsearch⟩ := mx_search (e := e) (s0 := s) (f := F0 m pc lsC (r.map (mc_ga b))) (a := x) (cell := ce) (fun kk hh => by rw [hh] at y3; cases y3) hk0 xe rest pre ((T'.setTop (F0 m pc lsC (r.map (mc_ga b)))).pushFrame (.throwing x)) (by rw [Stand.throwing_vm]; exact X'.warmed) (by rw [Stand.throwing_heap, e1]; exact y1)
        (fun y' hy' => by
          obtain ⟨u1, u2, nm, u3, ct, cc', u4, u5, u6, -⟩ := hrows y' hy'
          rw [hst] at u4
          cases u4
          obtain ⟨c', v1, v2⟩ := Cond.classLink_spec hown (hts _ (List.mem_cons_of_mem _ u3)) e.platform hpl
          rw [u5] at v1
          cases v1
          exact ⟨u1, u2, _, v2, u6⟩) hnp
      have hFT : mx_FT e ((T'.setTop (F0 m pc lsC (r.map (mc_ga b)))).pushFrame (.throwing x)) (F0 m pc lsC (r.map (mc_ga b))) x (.found xe.handlerPc) vm' := by
        intro Q' E' dd acts
        rw [W.findHandler_eq (meth := meth) (code := c) (by rw [Stand.throwing_vm]; exact X'.method') X'.code, hhs, hsp]
        exact hsearch Q' E' dd acts
      have hWh : W p l e R s m args below meth c t.heap (locs ++ Lc) (n + 1 - n0) (mc_sl tab (n + 1) - mc_sl tab n0) (mc_Q below s D cl b cA true tab n0 dn exn Qr Qt) (F0 m xe.handlerPc lsC [.ref x]) := by
        have fin : ∀ (pc3 : Nat) (ls' : Array Slot), lv_has ls' nL [] → decode cc pc3 = .ok (.ireturn, 1) → W p l e R s m args below meth c t.heap (locs ++ Lc) (n + 1 - n0) (mc_sl tab (n + 1) - mc_sl tab n0) (mc_Q below s D cl b cA true tab n0 dn exn Qr Qt) (F0 m pc3 ls' [.int val]) := by
          intro pc3 ls' hls' hd3
          have hV := mv_iret (l := l) (e := e) (R := R) (s := s) (m := m) (args := args) (below := below) (D := D) (cl := cl) (b := b) (cA := cA) (md := true) (tab := tab) (nL := nL) (n0 := n0) (dn := dn) (ls := []) (n := n + 1) (M := M') (L := L') (exn := exn) (Qr := Qr) (Qt := Qt) (ret := some .int) hx hb hret hlk hd3 (x := val) ⟨hroom, hqr⟩
          exact hV ⟨by omega, hroom⟩ (fun _ => Nat.le_trans hle (Nat.le_add_right _ _)) t.heap (locs ++ Lc) ls' q4 q5 hS' ⟨hls'.1, hls'.2.1, fun z hz' => by
            obtain ⟨w, w1, -⟩ := mc_lst_mem.mp hz'
            simp at w1⟩
        have hl1 : lv_has lsC nL [] := ⟨hl0.1, hl0.2.1, fun z hz' => by cases hz'⟩
        rcases hhd with ⟨j, z, d1, d2, d3, d4, d5⟩ | ⟨j, z, d1, d2, d3, d4, d5⟩
        · exact lv_astore hx hb d1 hl1 d2 rfl (fun ls' hls' => lv_iconst hx hb d3 d4 (fin _ ls' ⟨hls'.1, hls'.2.1, fun z hz' => by cases hz'⟩ d5))
        · exact lv_astore_n hx hb d1 rfl hl1 d2 rfl (fun ls' hls' => lv_iconst hx hb d3 d4 (fin _ ls' ⟨hls'.1, hls'.2.1, fun z hz' => by cases hz'⟩ d5))
      obtain ⟨t2, a1, b1⟩ := hWh (T'.setVm vm') e1 (X'.noted hW')
      exact ⟨t2, go t2 (mx_caught (g := F0 m pc lsC (r.map (mc_ga b))) X'.here hFT a1), b1⟩
end MTR
