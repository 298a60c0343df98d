/-! throwing: new X; dup; ldc text; X.<init>(String); athrow, with no stack traces -/
def mx_RE : String := "java/lang/RuntimeException"
def mx_atoms (own : String) (ic : Nat) (X : String) (ix : Nat) (bts : ByteArray) : List Cond :=
  Bundle.throwableAtoms ++ Bundle.throwableSAtoms ++ Bundle.passSAtoms X mx_RE ix bts ++ Bundle.chainSAtoms mx_RE ["java/lang/Exception"] ++
  [.methodLink own ic (Bundle.initS X), .instantiable X 6, .selects X Bundle.tFill0 Bundle.tFill0, .selects X Bundle.tFill Bundle.tFill,
   .lays X Bundle.tN "cause" "Ljava/lang/Throwable;", .lays X Bundle.tN "stackTrace" Bundle.steD, .lays X Bundle.tN "suppressedExceptions" Bundle.listD, .lays X Bundle.tN "detailMessage" "Ljava/lang/String;",
   .fieldLink Bundle.tN 198 Bundle.tN "backtrace" "Ljava/lang/Object;", .lays Bundle.tN Bundle.tN "backtrace" "Ljava/lang/Object;", .lays X Bundle.tN "backtrace" "Ljava/lang/Object;"]
section MXT
variable {p : Program} {l : Launch} {e : Env} {R : Room} {s : State} {m : MethodId} {args : Array Value} {below : List Frame} {meth : Method} {c : Code} {W : State} {locs : List Loc} {cells slots : Nat}
set_option maxHeartbeats 4000000 in
theorem mx_throwS (X : Stand p l e R s m args below meth c W locs cells slots) (hexec : p.tables.exec = Jvm.exec) (htr : e.platform.stackTraces = false) {own cls : String} {ic ix : Nat} {bts : ByteArray}
    (hown : s.vm.findClass own = some m.cls) (hcls : Bundle.fit cls = true) (hb0 : decode bts 0 = .ok (.aload_n 0, 1)) (hb1 : decode bts 1 = .ok (.aload_n 1, 1)) (hb2 : decode bts 2 = .ok (.invokespecial ix, 3)) (hb5 : decode bts 5 = .ok (.return_, 1))
    (h : ∀ a ∈ mx_atoms own ic cls ix bts, a.before args s = true)
    (hsU : (Cond.isRef (.static Bundle.tN "UNASSIGNED_STACK" Bundle.steD)).before args s = true) (hsS : (Cond.isRef (.static Bundle.tN "SUPPRESSED_SENTINEL" Bundle.listD)).before args s = true)
    (hlocs : ∀ x ∈ locs, ∀ cell, s.heap[x.base]? = some cell → cell.vm.isStatics = false)
    {a : Addr} {cX : ClassId} {kX : Class} (hfoundX : s.vm.findClass cls = some cX) (hkX : s.vm.classes[cX]? = some kX) (hcell : W.heap[a]? = some (freshCell cX kX)) (hnew : s.heap.size ≤ a)
    {msg : Value} (hmsg : msg.isRef = true)
    {g : JFrame} (hg : g.method = m) (hsize : g.locals.size = c.maxLocals) (hlocked : g.locked = none) (hentered : g.entered = []) {rest : List Value} (hstack : g.stack = msg :: .ref a :: .ref a :: rest)
    (hd6 : decode c.code g.pc = .ok (.invokespecial ic, 3)) (hd9 : decode c.code (g.pc + 3) = .ok (.athrow, 1)) (hout : ∀ x ∈ c.exceptionTable.toList, covers x (g.pc + 3) = false)
    (hRframes : 5 < R.frames) (hRlocals : 2 * g.monitorRoom + ((Value.ref a :: rest).map fun v => v.category).sum + 81 ≤ R.locals) (hlocks : meth.locks = false) :
    ∃ (U : State) (ce : Cell), Steps p.tables e below (W.setTop g) U ∧ U.status = .running ∧ Ended U below (.threw a) ∧ s.WarmedH U.vm ∧ s.sameButNew ({ U with vm := s.vm } : State) locs cells slots ∧
      U.heap = W.heap.setIfInBounds a ce ∧ ce.cls = cX ∧ ce.vm = .none := by
  have howns : e.platform.frameOwnsMonitors = true := by rw [X.admits.platform]
  have hfin : e.platform.finalization = false := by rw [X.admits.platform]
  have hpl : e.platform.magicAccessors = ({} : Platform).magicAccessors := by rw [X.admits.platform]
  have a' : ∀ x, x ∈ mx_atoms own ic cls ix bts → x.holds args s none s [] = true := fun x hx => h x hx
  obtain ⟨T, Z0, L, -, Y⟩ := ThrowableC.of_atoms (args := args) howns hfin hpl (fun x hx => h x (by simp [mx_atoms, hx]))
  obtain ⟨Z, M, LZ, LM, hnZ⟩ := Init0T.ofS_atoms (args := args) hpl L Y (fun x hx => h x (by simp [mx_atoms, hx]))
  obtain ⟨P2, Ps2, hlen2, L2, hL2, hP2m, hlink2, hpass2⟩ := Bundle.chainS (args := args) hpl hnZ ["java/lang/Exception"] mx_RE (by decide) (by decide) (fun x hx => h x (by simp [mx_atoms, hx]))
  obtain ⟨P1, L1, hP1m, hs1⟩ := PassC.ofS_atoms (args := args) (s := s) hpl (X := cls) (Y := mx_RE) (Bundle.fit_spec hcls).1 (by decide) hb0 hb1 hb2 hb5 (fun x hx => h x (by simp [mx_atoms, hx]))
  have hfound : s.vm.findClass cls = some P1.m.cls := findClass_of_methodNamed hP1m
  cases Option.some.inj (hfoundX.symm.trans hfound)
  obtain ⟨c1, kX', hc1, hk, hord, -, -, hn6⟩ := Cond.instantiable_spec (a' (.instantiable cls 6) (by simp [mx_atoms]))
  cases Option.some.inj (hc1.symm.trans hfound)
  cases Option.some.inj (hkX.symm.trans hk)
  have hlink1 : P1.sup = firstOf (Z.m T.toThrowableT) ((P2 :: Ps2).map (·.toPassT)) := by
    have e1 := Option.some.inj (hs1.symm.trans hP2m)
    rw [e1]
    rfl
  have hsel0 : selectMethod e.platform s.vm P1.m.cls T.fill0 = .method T.fill0 := by
    obtain ⟨c2, r2, m2, q1, q2, q3, q4, -⟩ := Cond.selects_spec (a' (.selects cls Bundle.tFill0 Bundle.tFill0) (by simp [mx_atoms]))
    cases Option.some.inj (q1.symm.trans hfound)
    cases Option.some.inj (q2.symm.trans (State.methodFound?_of_named Y.fill0 (by decide)))
    cases Option.some.inj (q3.symm.trans Y.fill0)
    rw [Launch.admits_selectMethod X.admits]; exact q4
  have hselF : selectMethod e.platform s.vm P1.m.cls T.fill = .method T.fill := by
    obtain ⟨c2, r2, m2, q1, q2, q3, q4, -⟩ := Cond.selects_spec (a' (.selects cls Bundle.tFill Bundle.tFill) (by simp [mx_atoms]))
    cases Option.some.inj (q1.symm.trans hfound)
    cases Option.some.inj (q2.symm.trans (State.methodFound?_of_named Y.fill (by decide)))
    cases Option.some.inj (q3.symm.trans Y.fill)
    rw [Launch.admits_selectMethod X.admits]; exact q4
  obtain ⟨cellS0, hcS0, hiss⟩ := Y.statics
  obtain ⟨u0, hu0⟩ := Cond.staticRefV Y.unassigned L.unassignedStatic L.statics hcS0 hiss hsU
  obtain ⟨sen, hsen⟩ := Cond.staticRefV Y.sentinel L.sentinelStatic L.statics hcS0 hiss hsS
  obtain ⟨ci198, i198, fB, hk198, hg198, ha198, hsB, -, hnB, htB, hffB⟩ := Cond.ownField (t := .object "java/lang/Object") Y.found L.cls (by decide +kernel) (a' (.fieldLink Bundle.tN 198 Bundle.tN "backtrace" "Ljava/lang/Object;") (by simp [mx_atoms])) (a' (.lays Bundle.tN Bundle.tN "backtrace" "Ljava/lang/Object;") (by simp [mx_atoms])) e.platform hpl
  obtain ⟨cellS, hcS', heS, -, hkeep⟩ := X.same.2.2.2.2.2 T.aS cellS0 hcS0
  have hcellS : W.heap[T.aS]? = some cellS := hcS'
  have hout' : ∀ i, (⟨T.aS, i⟩ : Loc) ∉ locs := fun i hmem => by
    have := hlocs _ hmem cellS0 hcS0
    rw [hiss] at this; cases this
  have hknownS : cellS.vm ≠ .unknown := by
    rw [heS]; intro hu
    rw [show cellS0.vm = .unknown from hu] at hiss
    cases hiss
  have hneS : T.aS ≠ a := Nat.ne_of_lt (Nat.lt_of_lt_of_le (Array.getElem?_eq_some_iff.mp hcS0).1 hnew)
  obtain ⟨iM, hffM⟩ := Y.msg
  obtain ⟨tyC, dC, hdC, hdnC⟩ := Cond.laysAt hfound hk Y.cause (a' (.lays cls Bundle.tN "cause" "Ljava/lang/Throwable;") (by simp [mx_atoms]))
  obtain ⟨tyS, dS, hdS, hdnS⟩ := Cond.laysAt hfound hk Y.stack (a' (.lays cls Bundle.tN "stackTrace" Bundle.steD) (by simp [mx_atoms]))
  obtain ⟨tyP, dP, hdP, hdnP⟩ := Cond.laysAt hfound hk Y.supp (a' (.lays cls Bundle.tN "suppressedExceptions" Bundle.listD) (by simp [mx_atoms]))
  obtain ⟨tyM, dM, hdM, hdnM⟩ := Cond.laysAt hfound hk hffM (a' (.lays cls Bundle.tN "detailMessage" "Ljava/lang/String;") (by simp [mx_atoms]))
  obtain ⟨tyB, dB, hdB, hdnB⟩ := Cond.laysAt hfound hk hffB (a' (.lays cls Bundle.tN "backtrace" "Ljava/lang/Object;") (by simp [mx_atoms]))
  have bC := Cond.laysApart hdB hdC hdnB hdnC (by rw [hnB, Y.causeName]; decide)
  have bS := Cond.laysApart hdB hdS hdnB hdnS (by rw [hnB, Y.stackName]; decide)
  have bP := Cond.laysApart hdB hdP hdnB hdnP (by rw [hnB, Y.suppName]; decide)
  have hskip : SkipFacts T e.platform s (fun u => u) u0 ((preparedCellV T.toThrowableT (freshCell P1.m.cls kX) a u0 sen).withEntry W.cur) :=
    ⟨{ ci198 := ci198, i198 := i198, fBack := fB }, ⟨hk198, hg198, ha198, hsB⟩, by
      have := fresh_default (c := P1.m.cls) tyB
      rw [htB] at this
      simpa [preparedCellV, Cell.setSlot, Cell.withEntry, Array.getElem?_setIfInBounds, bC, bS, bP, bC.symm, bS.symm, bP.symm, defaultValue] using this, fun _ _ => rfl⟩
  obtain ⟨tm, methC, cdC, kC, vm₁, hnC, -, -, -, -, -, -, -, hW₁, st1⟩ := Steps.initColdS (tb := p.tables) (e := e) (below := below) (s := s) (U := W) X.here hexec X.warmed hpl hown (t := Bundle.initS cls) rfl rfl (Bundle.fit_spec hcls).2
    (a' (.methodLink own ic (Bundle.initS cls)) (by simp [mx_atoms])) (h (.instanceMethod (Bundle.initS cls)) (by simp [mx_atoms, Bundle.passSAtoms])) (bytes := bts) (maxL := 2) (h (.code (Bundle.initS cls) bts 2 none) (by simp [mx_atoms, Bundle.passSAtoms]))
    (f := g) hg (a := a) (msg := msg) (rest := .ref a :: rest) hstack hd6
  cases Option.some.inj (hnC.symm.trans hP1m)
  have X₁ := X.noted hW₁
  have hlen3 : (P1 :: P2 :: Ps2).length = 3 := by simp [hlen2]
  obtain ⟨vm₂, X₂, st2⟩ := X₁.ctorMessageOffV hexec (g := { g with stack := .ref a :: rest }) hg hsize T L Z LZ M LM (P1 :: P2 :: Ps2)
    (fun P hP => by
      rcases List.mem_cons.mp hP with rfl | hP
      · exact L1
      · rcases List.mem_cons.mp hP with rfl | hP
        · exact L2
        · exact hL2 P hP) ⟨hlink1, hlink2, hpass2⟩ (u0 := u0) (sen := sen) (self := a) hmsg (cell := freshCell P1.m.cls kX) (cellS := cellS)
    hcell (fun _ => by simp) (by simp) rfl rfl hsel0 hselF hcellS hneS hknownS (by rw [hkeep _ (hout' _)]; exact hu0) (by rw [hkeep _ (hout' _)]; exact hsen)
    (Takes.of_laid hk hord tyC (by rw [Y.causeType]; rfl)) (Takes.of_laid hk hord tyS (by rw [Y.stackType]; exact fits_refV_array _ u0)) (Takes.of_laid hk hord tyP (by rw [Y.suppType]; exact fits_refV_object _ sen))
    (Takes.of_laid hk hord tyM (by rw [Y.msgType]; exact fits_refV_object _ ⟨msg, hmsg⟩)) Y.objLocals hskip htr [] hd6
    (by rw [hlen3]; omega) (by rw [hlen3]; exact hRlocals)
  obtain ⟨hwalk, hrun, hended, hWU, hsame⟩ := X₂.athrowLeaves hexec (g := { g with stack := .ref a :: rest, pc := g.pc + 3 }) hg hlocked hentered hout (a := a) (rest := rest) rfl hd9 (hlocks := hlocks)
  refine ⟨_, _, st1 _ (fun acts => ?_), hrun, hended, hWU, hsame.weaken (fun y hy hlt' => ?_) (Nat.le_refl _) (Nat.le_refl _), rfl, rfl, rfl⟩
  · rw [doInvoke_state]
    exact st2 _ hwalk
  · rcases List.mem_append.mp hy with h1 | h1
    · exact h1
    · exfalso
      have hb : y.base = a := by
        simp only [List.mem_cons, List.not_mem_nil, or_false] at h1
        rcases h1 with rfl | rfl | rfl | rfl | rfl <;> rfl
      rw [hb] at hlt'
      exact Nat.not_lt.mpr hnew hlt'
end MXT
theorem mc_sl_out : ∀ (n : Nat) (tab : List mc_D), tab.length ≤ n → mc_sl tab (n + 1) = mc_sl tab n + 6
  | 0, [], _ => rfl
  | n + 1, [], h => by
    show 6 + mc_sl [] (n + 1) = 6 + mc_sl [] n + 6
    rw [mc_sl_out n [] (Nat.zero_le _)]
    omega
  | 0, d :: t, h => by simp at h
  | n + 1, d :: t, h => by
    show mc_sz d + mc_sl t (n + 1) = mc_sz d + mc_sl t n + 6
    rw [mc_sl_out n t (by simpa using h)]
    omega
theorem mc_at_none {D : va_G} {cl : List vw_C} {b : Nat} {cA : Nat → ClassId} {md : Bool} {M : mc_M} {L : mc_L} {i a : Nat} {d : mc_D} {H : Heap} (h : va_at D cl (a, mc_gE b cA (mc_cell md M L i d)) H) : ∃ cell : Cell, H[a]? = some cell ∧ cell.vm = .none := by
  cases d with
  | inl q =>
    obtain ⟨t, n⟩ := q
    by_cases ht : t = 1
    · subst ht
      exact ⟨_, h, rfl⟩
    · have h2 : H[a]? = some (vp_cell (cA t) (n, .inl (M i))) := by simpa [mc_cell, ht, mc_gE, va_at] using h
      exact ⟨_, h2, rfl⟩
  | inr q =>
    obtain ⟨r, z1, cell', z2, z3, z4, z5⟩ := h
    exact ⟨cell', z2, z4⟩
/-- a throw, as the machine's walk sees it -/
theorem mv_throw {p : Program} {l : Launch} {e : Env} {R : Room} {s : State} {m : MethodId} {args : Array Value} {below : List Frame} {meth : Method} {c : Code} {D : va_G} {cl : List vw_C} {b : Nat} {cA : Nat → ClassId} {tab : List mc_D} {nL n0 dn d : Nat} {cc : ByteArray} {pc : Nat} {ls : List (Option Value)} {n : Nat} {M : mc_M} {L : mc_L} {exn : Nat → String} {Qr : Option Value → mc_M → mc_L → Prop} {Qt : Nat → mc_M → mc_L → Prop}
    (hx : p.tables.exec = Jvm.exec) (hb : c.code = cc) (hml : c.maxLocals = nL) (hlocks : meth.locks = false) (htab : c.exceptionTable.isEmpty = true) (hfl : l.flags = flags0) {own tx : String} {i ks ic ix k q : Nat} {bts : ByteArray}
    (hown : s.vm.findClass own = some m.cls) (hcls : Bundle.fit (exn k) = true) (hb0 : decode bts 0 = .ok (.aload_n 0, 1)) (hb1 : decode bts 1 = .ok (.aload_n 1, 1)) (hb2 : decode bts 2 = .ok (.invokespecial ix, 3)) (hb5 : decode bts 5 = .ok (.return_, 1))
    (hat : ∀ a ∈ mx_atoms own ic (exn k) ix bts, a.before args s = true) (hcl : (Cond.classLink own i (exn k)).before args s = true) (hini : (Cond.initialized (exn k)).before args s = true) (hstr : vk_R own ks tx q s)
    (hsU : (Cond.isRef (.static Bundle.tN "UNASSIGNED_STACK" Bundle.steD)).before args s = true) (hsS : (Cond.isRef (.static Bundle.tN "SUPPRESSED_SENTINEL" Bundle.listD)).before args s = true)
    (hR : R = mc_rmd tab d dn n0) (hd : 6 ≤ d) (hw0 : ∃ M0 L0, va_P D cl (mc_wd b cA true tab n0 M0 L0) s.heap)
    (hd0 : decode cc pc = .ok (.new i, 3)) (hd3 : decode cc (pc + 3) = .ok (.dup, 1)) (hd4 : decode cc (pc + 4) = .ok (.ldc ks, 2)) (hd6 : decode cc (pc + 6) = .ok (.invokespecial ic, 3)) (hd9 : decode cc (pc + 9) = .ok (.athrow, 1))
    (hn : n < n0 + dn) (hf0 : tab.length ≤ n0) (hq : Qt k M L) : mc_V p l e R s m args below meth c (mc_Q below s D cl b cA true tab n0 dn exn Qr Qt) D cl b cA true tab nL n0 dn pc ls [] n M L := by
  intro h0 hf H locs lsC hP hz hS hl
  have hle1 : mc_sl tab (n + 1) = mc_sl tab n + 6 := mc_sl_out n tab (hf rfl)
  have hle2 : mc_sl tab (n + 1) ≤ mc_sl tab (n0 + dn) := mc_sl_le hn
  have hle0 : mc_sl tab n0 ≤ mc_sl tab n := mc_sl_le h0.1
  have hRc : R.cells = dn := by rw [hR]; rfl
  have hRs : R.slots = mc_sl tab (n0 + dn) - mc_sl tab n0 := by rw [hR]; rfl
  have hins : (Cond.instantiable (exn k) 6).before args s = true := hat _ (by simp [mx_atoms])
  refine W.newc hx hb hown hcl hins hini rfl hd0 (by rw [hRc]; omega) (by rw [hRs]; omega) fun cC kC g1 g2 g3 g4 => ?_
  refine W.eq (g2 := F0 m (pc + 3) lsC [.ref H.size]) rfl ?_
  refine lv_dup hx hb hd3 rfl ?_
  refine va_ldcS hx hb hown hstr hd4 ?_
  intro T hT X
  have hcellT : T.heap[H.size]? = some (freshCell cC kC) := by rw [hT]; simp
  obtain ⟨M0, L0, hP0⟩ := hw0
  have hlocs : ∀ x ∈ locs, ∀ cell, s.heap[x.base]? = some cell → cell.vm.isStatics = false := by
    intro x hx' cell hc
    have hA := hS.2.2 x hx'
    have key : ∀ z : Nat, b ≤ z → z < b + tab.length → z - b < tab.length ∧ b + (z - b) = z := by
      intro z z1 z2
      omega
    obtain ⟨hi, hbx⟩ := key x.base hA.1 (hA.2 rfl)
    have he := mc_wd_in (b := b) (cA := cA) (md := true) (n := n0) (M := M0) (L := L0) (Nat.lt_of_lt_of_le hi hf0) (List.getElem?_eq_getElem hi)
    have hw := hP0 _ _ he
    obtain ⟨cell', z1, z2⟩ := mc_at_none hw
    rw [hbx, hc] at z1
    cases z1
    rw [z2]
    rfl
  have htr : e.platform.stackTraces = false := Jvm.D.Launch.traces_off hfl X.admits
  obtain ⟨U, ce, u1, u2, u3, u4, u5, u6, u7, u8⟩ := mx_throwS X hx htr hown hcls hb0 hb1 hb2 hb5 hat hsU hsS hlocs (a := H.size) g1 g2 hcellT hS.1 (msg := .ref q) rfl (g := F0 m (pc + 4 + 2) lsC (.ref q :: .ref H.size :: .ref H.size :: [])) rfl (by rw [hml]; exact hl.1) rfl rfl (rest := []) rfl (by rw [hb]; exact hd6) (by rw [hb]; exact hd9)
    (fun x hx' => by
      have : c.exceptionTable = #[] := by simpa using htab
      rw [this] at hx'
      simp at hx') (by rw [hR]; show 5 < d; omega) (by rw [hR]; show 2 * 0 + _ + 81 ≤ 40 * d; simp [Value.category]; omega) hlocks
  have hUh : ∀ q : Nat, q < H.size → U.heap[q]? = H[q]? := by
    intro q hq'
    rw [u6, hT]
    rw [Array.getElem?_setIfInBounds_ne (by omega), Array.getElem?_push, if_neg (by omega)]
  refine ⟨U, u1, .threw H.size, u2, u3, u4, ⟨?_, fun q g5 g6 => ?_⟩, ⟨locs, u5.mono (by omega) (by omega), hS.2.2⟩, M, L, ?_, (fun z => by cases z), Or.inr ⟨H.size, k, rfl, hq, ce, ?_, ?_, ?_⟩⟩
  · rw [u6, hT]
    simp
    have := hS.1
    omega
  · rw [hUh q (Nat.lt_of_lt_of_le g5 hS.1)]
    exact hS.2.1 q g5 g6
  · rw [mc_wd_full (n' := n) (Nat.le_trans hf0 (Nat.le_add_right _ _)) (hf rfl)]
    exact hP.kept (fun k' q' hk' => hUh _ (hP k' q' hk').lt)
  · rw [u6, hT]
    simp
  · rw [u7]
    exact g1
  · rw [u8]
    rfl
