/-! Methods with an exception table: their walk, and a static call of one -/
def mw_tab (hh : List (Nat × Nat × Nat × Nat)) : List ExceptionTableEntry := hh.map (fun q => ⟨q.1, q.2.1, q.2.2.1, q.2.2.2⟩)
def mc_CW (g : mc_G) (y : MethodName) (cc : ByteArray) (maxL : Nat) (ret : Option FieldType) (hh : List (Nat × Nat × Nat × Nat)) (d dn : Nat) : mc_PT := fun av n M L Qr =>
  tab0.length ≤ n → Met g.1 y (.codeWith y cc maxL ret hh :: WL0) (mc_rmd tab0 d dn n) (va_Pc (av.map (mc_ga g.2.2.1)) (mc_B g.2.2.2.2 g.2.1 cl0 g.2.2.1 g.2.2.2.1 true tab0 NW0 n M L)) (mc_Qc g.2.1 cl0 g.2.2.1 g.2.2.2.1 true tab0 (n + dn) Qr) dn (mc_sl tab0 (n + dn) - mc_sl tab0 n) (mc_A true g.2.2.1 tab0.length)
theorem mc_CW_mono {g : mc_G} {y : MethodName} {cc : ByteArray} {maxL : Nat} {ret : Option FieldType} {hh : List (Nat × Nat × Nat × Nat)} {d dn : Nat} {av : List Value} {n : Nat} {M : mc_M} {L : mc_L} {Q Q' : Option Value → mc_M → mc_L → Prop} (h : ∀ r M L, Q r M L → Q' r M L) (k : mc_CW g y cc maxL ret hh d dn av n M L Q) : mc_CW g y cc maxL ret hh d dn av n M L Q' :=
  fun hf => mc_met_mono (fun a st o t hq => by
    obtain ⟨⟨rv, M', L', h1, h2, h3, h4⟩, h5⟩ := hq
    exact ⟨⟨rv, M', L', h1, h _ _ _ h2, h3, h4⟩, h5⟩) (k hf)
theorem mw_list : ∀ {l : List ExceptionTableEntry} {hh : List (Nat × Nat × Nat × Nat)}, l.map (fun h => (h.startPc, h.endPc, h.handlerPc, h.catchType)) = hh → l = mw_tab hh
  | [], hh, h => by subst h; rfl
  | x :: r, hh, h => by
    subst h
    show x :: r = ⟨x.startPc, x.endPc, x.handlerPc, x.catchType⟩ :: mw_tab (r.map _)
    rw [← mw_list (l := r) rfl]
theorem mw_intro {g : mc_G} {y : MethodName} {cc : ByteArray} {maxL : Nat} {ret : Option FieldType} {hh : List (Nat × Nat × Nat × Nat)} {d dn n : Nat} {av : List Value} {M : mc_M} {L : mc_L} {Qr : Option Value → mc_M → mc_L → Prop} (hy : plainName y.cls = true) (hlen : (lg_sl (av.map (mc_ga g.2.2.1))).length ≤ maxL)
    (body : ∀ p e s m args below meth c, mz_bs g p s m args meth c cc maxL ret y.cls y.name (.codeWith y cc maxL ret hh) → c.exceptionTable.toList = mw_tab hh → mz_V g p e s m args below meth c maxL n dn d Qr 0 (mc_args av maxL) [] n M L) : mc_CW g y cc maxL ret hh d dn av n M L Qr := by
  intro hf
  refine va_MetW (cc := cc) (maxL := maxL) (ret := ret) (hh := hh) hy rfl ?_
  intro p e s m args below meth c s₁ B hml hv
  obtain ⟨rfl, hP, hz, hK, hZ, hO⟩ := hv
  have hts := atoms_spec (ws := .codeWith y cc maxL ret hh :: WL0) B.pre
  have hown : s.vm.findClass y.cls = some m.cls := findClass_of_methodNamed B.named
  have hnm : meth.name = y.name := (name_of_methodNamed B.named B.method).1
  have htab : c.exceptionTable.toList = mw_tab hh := by
    obtain ⟨m9, meth9, c9, hn9, h1, h2, -, -, h5, -⟩ := Cond.codeWith_spec (hts _ List.mem_cons_self)
    cases B.named.symm.trans hn9
    cases B.method.symm.trans h1
    cases (Stand.of_body B).code.symm.trans h2
    exact mw_list h5
  have hV := body p e s m _ below meth c ⟨B.exec, B.bytes, hml, hown, hts, hK, hZ, hO, B.returns, B.notSynchronized, hnm⟩ htab
  have hl := lv_entry (av.map (mc_ga g.2.2.1)) (n := maxL) hlen
  rw [lg_entry_eq]
  have hW := hV ⟨Nat.le_refl _, Nat.le_add_right _ _⟩ (fun _ => hf) s.heap [] _ hP hz va_S.rf (mc_lv_entry hl)
  rw [Nat.sub_self, Nat.sub_self] at hW
  refine mw_mono ?_ hW
  rintro t ⟨o, t1, t2, t3, t4, ⟨Lc, t5, t6⟩, M', L', t7, t8, t9⟩
  rcases t9 with ⟨rv, t10, t11⟩ | ⟨a, k, t10, t11, t12⟩
  · exact ⟨o, t1, t2, ⟨⟨rv, M', L', t10, t11, t7, t8⟩, t4⟩, Lc, ⟨⟨_, t10⟩, t3, t5⟩, t6⟩
  · exact t11.elim
section MWC
variable {p : Program} {l : Launch} {e : Env} {R : Room} {s : State} {m : MethodId} {args : Array Value} {below : List Frame} {meth : Method} {c : Code} {T : State} {H : Heap} {locs : List Loc} {cells slots : Nat}
theorem mw_callS (X : Stand p l e R s m args below meth c T locs cells slots) (hexec : p.tables.exec = Jvm.exec) {own : String} {index : Nat} {y : MethodName} {bytes : ByteArray} {maxL : Nat} {ret : Option FieldType} {hh : List (Nat × Nat × Nat × Nat)}
    (hown : s.vm.findClass own = some m.cls) (hlink : (Cond.methodLink own index y).before args s = true) (hstat : (Cond.static y).before args s = true) (hinit : (Cond.initialized y.cls).before args s = true)
    (hcode : (Cond.codeWith y bytes maxL ret hh).before args s = true) (hy : y.cls ≠ "java/lang/invoke/MethodHandle" ∧ y.cls ≠ "java/lang/invoke/VarHandle")
    {W : Nat} {Pre : Pt → Array Value → Prop} {Post : Pt → Array Value → Option Value → Pt → Prop} (hK : Back l R p e below s args y 3 W Pre Post)
    {g : JFrame} (hg : g.method = m) (hsize : g.locals.size = c.maxLocals) {argsL rest : List Value} (hlen : ∀ sig, parseMethodDescriptor y.desc = some sig → argsL.length = sig.parameters.length)
    (hstack : g.stack = argsL.reverse ++ rest) (hW : 2 * g.monitorRoom + (rest.map fun v => v.category).sum ≤ W) (hdg : decode c.code g.pc = .ok (.invokestatic index, 3))
    (hpre : ∀ vm₁, s.WarmedH vm₁ → Pre ⟨T.setVm vm₁, locs, cells, slots⟩ argsL.toArray) :
    ∃ (v : Option Value) (vm₁ : Vm) (B : Pt), s.WarmedH vm₁ ∧ Stand p l e R s m args below meth c B.U B.locs B.cells B.slots ∧ Post ⟨T.setVm vm₁, locs, cells, slots⟩ argsL.toArray v B ∧
      ∀ target, Steps p.tables e below (B.U.setTop { g with pc := g.pc + 3, stack := v.toList ++ rest }) target → Steps p.tables e below (T.setTop g) target := by
  obtain ⟨mk, methM, cM, hnamed, hmethM, -, -, -, -, -, -, hsigM⟩ := Cond.codeWith_spec hcode
  have hstatic : methM.isStatic = true := Cond.static_spec hnamed hmethM hstat
  obtain ⟨kP, hkP, -⟩ := className_of_methodNamed hnamed
  have hinitP : kP.init = .initialized := Cond.initialized_spec (findClass_of_methodNamed hnamed) hkP hinit
  obtain ⟨vm₁, X₁, hstep₁⟩ := X.invokestatic hexec hown hlink hnamed hmethM hstatic hkP hinitP hy (g := g) hg (argsL := argsL) (rest := rest) (hlen _ hsigM) hstack hdg
  obtain ⟨v, B, X', hpost, hsteps⟩ := hK m meth c ⟨T.setVm vm₁, locs, cells, slots⟩ { g with stack := rest } (.invokestatic index) mk argsL.toArray X₁ hg hsize hdg hW (X₁.named hnamed) (hpre vm₁ X₁.warmed)
  exact ⟨v, vm₁, B, X₁.warmed, X', hpost, fun target h => hstep₁ _ fun acts => by rw [doInvoke_state]; exact hsteps.trans h⟩
end MWC
theorem co_W {g : mc_G} {d d' dn' a idx : Nat} {own : String} {y : MethodName} {bytes : ByteArray} {maxL : Nat} {ret : Option FieldType} {hh : List (Nat × Nat × Nat × Nat)} (hc : Cond.codeWith y bytes maxL ret hh ∈ WL0) (hl : Cond.methodLink own idx y ∈ WL0) (hini : Cond.initialized y.cls ∈ WL0) (hst : Cond.static y ∈ WL0)
    (hd : y.cls ≠ "java/lang/invoke/MethodHandle" ∧ y.cls ≠ "java/lang/invoke/VarHandle" ∧ (parseMethodDescriptor y.desc).map (fun d => d.parameters.length) = some a) (hlev : d' + 1 ≤ d ∧ maxL ≤ 21) :
    mc_CO g.2.2.2.2 g.1 g.2.1 cl0 g.2.2.1 g.2.2.2.1 true tab0 WL0 NW0 d own idx 1 a dn' (mc_CW g y bytes maxL ret hh d' dn') := by
  refine ⟨fun av n M L Q Q' hQ h => mc_CW_mono hQ h, ?_⟩
  intro p e R s m args below meth c Q nL n0 dn cc c0 hx hb hml hown hts hK hZ hO hR x hxk pc ls av r n M L hdg hw8 hlen hroom h
  have hxe : x = .invokestatic idx := by
    rcases hxk with ⟨h, _⟩ | ⟨_, h⟩ | ⟨h, _⟩
    · cases h
    · exact h
    · cases h
  subst hxe
  have hRe : R = mc_rmd tab0 d dn n0 := hR
  intro h0 hf
  have hM := h (hf rfl)
  have hws : ∀ w ∈ (Cond.codeWith y bytes maxL ret hh :: WL0), ∀ (a' : Array Value) (U : State), s.WarmedH U.vm → w.before a' U = true := by
    refine pay_in hts (fun w hw => ?_)
    rcases List.mem_cons.mp hw with rfl | hw
    · exact ⟨List.mem_cons_of_mem _ hc, good_of_word (List.all_eq_true.mp wl_ok _ hc)⟩
    · exact ⟨List.mem_cons_of_mem _ hw, good_of_word (List.all_eq_true.mp wl_ok w hw)⟩
  have hini' := hts _ (List.mem_cons_of_mem _ hini)
  refine mv_call (dn' := dn') (Qr := fun rv M' L' => mc_V p g.1 e R s m args below meth c Q g.2.1 cl0 g.2.2.1 g.2.2.2.1 true tab0 nL n0 dn (pc + 3) ls (rv.toList ++ r) (n + dn') M' L') (a := (av.map (mc_ga g.2.2.1)).toArray) hroom (fun H locs lsC hP hz hS hls => ?_) (fun rv M' L' hq => hq) h0 hf
  have hBk : Back g.1 R p e below s args y 3 8 (PreOf R dn' (mc_sl tab0 (n + dn') - mc_sl tab0 n) _) (PostOf _ dn' (mc_sl tab0 (n + dn') - mc_sl tab0 n) _) := va_backW (hh := hh) (bytes := bytes) (maxL := maxL) (ret := ret) hM (mc_blind nw_ok) rfl rfl (by rw [hRe]; exact hlev.1) (by rw [hRe]; show 8 + (maxL + 11) + 40 * d' ≤ 40 * d; omega) hws List.mem_cons_self (fun a' U hW => word_at hW (Or.inl (by first | rfl | simp [Cond.onTables, Cond.keeps, Cond.steady])) hini')
  obtain ⟨f1, f2⟩ := mc_roomle (tab := tab0) (d := d) h0.1 hroom
  rw [← hRe] at f1 f2
  intro T hT X
  obtain ⟨v, vm₁, ⟨U', l2, c2, s2⟩, hW₁, X', ⟨g', mk, t, Lx, e1, e2, hq, h1, hL, h2, h3⟩, st⟩ := mw_callS X hx (hh := hh) (bytes := bytes) (maxL := maxL) (ret := ret) hown (hts _ (List.mem_cons_of_mem _ hl)) (hts _ (List.mem_cons_of_mem _ hst)) hini' (hts _ (List.mem_cons_of_mem _ hc)) ⟨hd.1, hd.2.1⟩ hBk (g := F0 m pc lsC ((av.reverse ++ r).map (mc_ga g.2.2.1))) rfl (hls.trans hml.symm) (argsL := av.map (mc_ga g.2.2.1)) (rest := r.map (mc_ga g.2.2.1))
    (fun sig h => by
      have h2 := hd.2.2
      rw [h] at h2
      rw [List.length_map, hlen]
      exact (Option.some.inj h2).symm) (by show (av.reverse ++ r).map (mc_ga g.2.2.1) = _; simp) (by show 2 * 0 + _ ≤ 8; rw [mc_w_eq g.2.2.1 r]; omega) (by rw [hb]; exact hdg)
    (fun vm₁ hW₁ => ⟨f1, f2, ⟨rfl, by show va_P _ _ _ (T.setVm vm₁).heap; rw [show (T.setVm vm₁).heap = H from hT]; exact hP, fun z => (by cases z), va_K.moved hW₁.alike hK, mc_NW_warm nw_ok hW₁ hZ, mc_O_to hO hS (show (T.setVm vm₁).heap = H from hT) hW₁⟩⟩)
  dsimp only [Pt.U, Pt.locs, Pt.cells, Pt.slots] at X' e1 e2 h1 h2 h3 st
  subst h1; subst h2; subst h3
  exact ⟨v, (T.setVm vm₁).calling g' mk (av.map (mc_ga g.2.2.1)).toArray, t, U', Lx, hT, X', hL, e1, e2, hq, st⟩
