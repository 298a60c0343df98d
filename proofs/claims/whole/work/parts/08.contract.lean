/-! contracts -/
def mc_isN (w : Cond) : Bool := match w with
  | .fieldLinkNest .. => true
  | .methodLinkNest .. => true
  | _ => false
def mc_NW (NW : List Cond) (U : State) : Prop := ∀ w ∈ NW, va_Nw w U
theorem mc_NW_same {NW : List Cond} (hN : NW.all mc_isN = true) {u U : State} (h : u.vm = U.vm) (hZ : mc_NW NW u) : mc_NW NW U := by
  intro w hw
  have h1 := List.all_eq_true.mp hN w hw
  have h2 := hZ w hw
  cases w <;> first | exact va_Nw.same rfl h h2 | (simp [mc_isN] at h1)
theorem mc_NW_warm {NW : List Cond} (hN : NW.all mc_isN = true) {s U : State} (hW : s.WarmedH U.vm) (hZ : mc_NW NW s) : mc_NW NW U := by
  intro w hw
  have h1 := List.all_eq_true.mp hN w hw
  have h2 := hZ w hw
  cases w <;> first | exact va_Nw.warmF hW h2 | exact va_Nw.warmM hW h2 | (simp [mc_isN] at h1)
/-- since the start s0 the tables have only been warmed, and nothing below b has changed -/
def mc_O (s0 : State) (b : Nat) (U : State) : Prop := s0.WarmedH U.vm ∧ b ≤ U.heap.size ∧ ∀ q : Nat, q < b → U.heap[q]? = s0.heap[q]?
theorem mc_O_to {s0 s U : State} {b N : Nat} {md : Bool} {H : Heap} {locs : List Loc} (h : mc_O s0 b s) (hS : va_S (mc_A md b N) s.heap H locs) (hU : U.heap = H) (hW : s.WarmedH U.vm) : mc_O s0 b U :=
  ⟨State.WarmedH.trans h.1 hW, by rw [hU]; exact Nat.le_trans h.2.1 hS.1, fun q hq => by
    rw [hU, hS.2.1 q (Nat.lt_of_lt_of_le hq h.2.1) (fun z => absurd z.1 (Nat.not_le.mpr hq))]
    exact h.2.2 q hq⟩
def mc_B (s0 : State) (D : va_G) (cl : List vw_C) (b : Nat) (cA : Nat → ClassId) (md : Bool) (tab : List mc_D) (NW : List Cond) (n : Nat) (M : mc_M) (L : mc_L) : State → Prop := fun U =>
  va_P D cl (mc_wd b cA md tab n M L) U.heap ∧ (md = false → U.heap.size = b + n) ∧ va_K D cl (mc_ty cA) U ∧ mc_NW NW U ∧ mc_O s0 b U
def mc_rmd (tab : List mc_D) (d dn n : Nat) : Room := { frames := d, cells := dn, slots := mc_sl tab (n + dn) - mc_sl tab n, locals := 40 * d }
/-- the contract of a method that doesn't throw -/
def mc_CT (s0 : State) (l : Launch) (D : va_G) (cl : List vw_C) (b : Nat) (cA : Nat → ClassId) (md : Bool) (tab : List mc_D) (WL NW : List Cond) (y : MethodName) (cc : ByteArray) (maxL : Nat) (ret : Option FieldType) (d dn : Nat) : mc_PT := fun av n M L Qr =>
  (md = true → tab.length ≤ n) → Met l y (.code y cc maxL ret :: WL) (mc_rmd tab d dn n) (va_Pc (av.map (mc_ga b)) (mc_B s0 D cl b cA md tab NW n M L)) (mc_Qc D cl b cA md tab (n + dn) Qr) dn (mc_sl tab (n + dn) - mc_sl tab n) (mc_A md b tab.length)
theorem mc_met_mono {l : Launch} {y : MethodName} {ws : List Cond} {rm : Room} {Pc : Array Value → State → Prop} {Qc Qc' : Array Value → State → Outcome → State → Prop} {mc ms : Nat} {free : Addr → Prop} (h : ∀ a st o t, Qc a st o t → Qc' a st o t) (hM : Met l y ws rm Pc Qc mc ms free) : Met l y ws rm Pc Qc' mc ms free := by
  intro p e ha hc hk s m args below hf happ hP hK
  obtain ⟨n, o, h1, h2, h3, h4, h5⟩ := hM p e ha hc hk s m args below hf happ hP hK
  exact ⟨n, o, h1, h2, h3, h _ _ _ _ h4, h5⟩
theorem mc_CT_mono {s0 : State} {l : Launch} {D : va_G} {cl : List vw_C} {b : Nat} {cA : Nat → ClassId} {md : Bool} {tab : List mc_D} {WL NW : List Cond} {y : MethodName} {cc : ByteArray} {maxL : Nat} {ret : Option FieldType} {d dn : Nat} {av : List Value} {n : Nat} {M : mc_M} {L : mc_L} {Q Q' : Option Value → mc_M → mc_L → Prop} (h : ∀ r M L, Q r M L → Q' r M L) (k : mc_CT s0 l D cl b cA md tab WL NW y cc maxL ret d dn av n M L Q) : mc_CT s0 l D cl b cA md tab WL NW y cc maxL ret d dn av n M L Q' :=
  fun hf => mc_met_mono (fun a st o t hq => by
    obtain ⟨⟨rv, M', L', h1, h2, h3, h4⟩, h5⟩ := hq
    exact ⟨⟨rv, M', L', h1, h _ _ _ h2, h3, h4⟩, h5⟩) (k hf)
theorem mc_blind {s0 : State} {D : va_G} {cl : List vw_C} {b : Nat} {cA : Nat → ClassId} {md : Bool} {tab : List mc_D} {NW : List Cond} (hN : NW.all mc_isN = true) {n : Nat} {M : mc_M} {L : mc_L} {av : List Value} : FrameBlind (va_Pc av (mc_B s0 D cl b cA md tab NW n M L)) := by
  intro a U g mk q
  obtain ⟨q0, q1, q2, q3, q4, q5⟩ := q
  exact ⟨q0, q1, q2, va_K.moved (u := U) (U := U.calling g mk a) (Vm.Alike.refl U.vm) q3, mc_NW_same hN (u := U) (U := U.calling g mk a) rfl q4, q5⟩
/-- a call of F at the pool number idx of the class own is sound, in every walk of that class's methods at the level d -/
def mc_CO (s0 : State) (l : Launch) (D : va_G) (cl : List vw_C) (b : Nat) (cA : Nat → ClassId) (md : Bool) (tab : List mc_D) (WL NW : List Cond) (d : Nat) (own : String) (idx kd a dn' : Nat) (F : mc_PT) : Prop :=
  (∀ av n M L Q Q', (∀ r M L, Q r M L → Q' r M L) → F av n M L Q → F av n M L Q') ∧
  ∀ (p : Program) (e : Env) (R : Room) (s : State) (m : MethodId) (args : Array Value) (below : List Frame) (meth : Method) (c : Code) (Q : State → Prop) (nL n0 dn : Nat) (cc : ByteArray) (c0 : Cond),
    p.tables.exec = Jvm.exec → c.code = cc → c.maxLocals = nL → s.vm.findClass own = some m.cls → (∀ w ∈ c0 :: WL, w.before args s = true) → va_K D cl (mc_ty cA) s → mc_NW NW s → mc_O s0 b s → R = mc_rmd tab d dn n0 →
    ∀ (x : Instr), (kd = 0 ∧ x = .invokevirtual idx) ∨ (kd = 1 ∧ x = .invokestatic idx) ∨ (kd = 2 ∧ x = .invokespecial idx) → ∀ pc ls av r n M L, decode cc pc = .ok (x, 3) → mc_w r ≤ 8 → av.length = a → n + dn' ≤ n0 + dn →
      F av n M L (fun rv M' L' => mc_V p l e R s m args below meth c Q D cl b cA md tab nL n0 dn (pc + 3) ls (rv.toList ++ r) (n + dn') M' L') → mc_V p l e R s m args below meth c Q D cl b cA md tab nL n0 dn pc ls (av.reverse ++ r) n M L
theorem mc_ob_mono {md : Bool} {tab : List mc_D} {a n ci k : Nat} {kk kk' : Nat → Prop} (hk : ∀ fd, kk fd → kk' fd) (h : mc_ob md tab a n ci k kk) : mc_ob md tab a n ci k kk' := by
  unfold mc_ob at h ⊢
  revert h
  cases mc_at tab a with
  | none => exact fun h => h
  | some d =>
    cases d with
    | inl q => exact fun h => h
    | inr q =>
      obtain ⟨ci', fds⟩ := q
      dsimp only
      cases Nat.beq ci ci' with
      | false => exact fun h => h
      | true =>
        dsimp only
        cases mc_at fds k with
        | none => exact fun h => h
        | some fd =>
          dsimp only
          cases md with
          | true => exact fun h => hk _ h
          | false => exact fun h => ⟨h.1, hk _ h.2⟩
section MCO
variable {s0 : State} {l : Launch} {D : va_G} {cl : List vw_C} {b : Nat} {cA : Nat → ClassId} {md : Bool} {tab : List mc_D} {WL NW : List Cond} {d : Nat} {own : String} {idx a dn' : Nat} {y : MethodName} {bytes : ByteArray} {maxL : Nat} {ret : Option FieldType} {d' : Nat}
theorem mc_good (hW : WL.all goodWord = true) (hc : Cond.code y bytes maxL ret ∈ WL) (c0 : Cond) : GoodIn (c0 :: WL) (Cond.code y bytes maxL ret :: WL) := by
  intro w hw
  rcases List.mem_cons.mp hw with rfl | hw
  · exact ⟨List.mem_cons_of_mem _ hc, Or.inl rfl⟩
  · exact ⟨List.mem_cons_of_mem _ hw, good_of_word (List.all_eq_true.mp hW w hw)⟩
theorem mc_roomle {n n0 dn : Nat} (h0 : n0 ≤ n) (h1 : n + dn' ≤ n0 + dn) : (n - n0) + dn' ≤ (mc_rmd tab d dn n0).cells ∧ (mc_sl tab n - mc_sl tab n0) + (mc_sl tab (n + dn') - mc_sl tab n) ≤ (mc_rmd tab d dn n0).slots := by
  have h2 := mc_sl_le (tab := tab) h0
  have h3 := mc_sl_mono n tab dn'
  have h4 := mc_sl_le (tab := tab) h1
  refine ⟨?_, ?_⟩
  · show n - n0 + dn' ≤ dn
    omega
  · show _ ≤ mc_sl tab (n0 + dn) - mc_sl tab n0
    omega
/-- a private method of an object, called by a nest mate (or by its own class) through a nest link -/
theorem co_VN (hN : NW.all mc_isN = true) (hW : WL.all goodWord = true) (hc : Cond.code y bytes maxL ret ∈ WL) {host : String} (hl : Cond.methodLinkNest own idx y host ∈ NW) (hini : Cond.initialized y.cls ∈ WL) (hinst : Cond.instanceMethod y ∈ WL) (hsel : Cond.selects y.cls y y ∈ WL)
    (hd : y.cls ≠ "java/lang/invoke/MethodHandle" ∧ y.cls ≠ "java/lang/invoke/VarHandle" ∧ (parseMethodDescriptor y.desc).map (fun d => d.parameters.length) = some a) (hlev : d' + 1 ≤ d ∧ maxL ≤ 21)
    {ci : Nat} {T : u_T} {N : Nat} (hcl : cl[ci]? = some (y.cls, T, N)) :
    mc_CO s0 l D cl b cA md tab WL NW d own idx 0 (a + 1) dn' (fun av n M L Q => match av with
      | .ref q :: as => mc_ob md tab q n ci 0 (fun _ => mc_CT s0 l D cl b cA md tab WL NW y bytes maxL ret d' dn' (.ref q :: as) n M L Q)
      | _ => False) := by
  refine ⟨fun av n M L Q Q' hQ h => ?_, ?_⟩
  · match av, h with
    | .ref q :: as, h => exact mc_ob_mono (fun fd z => mc_CT_mono hQ z) h
  · intro p e R s m args below meth c Q nL n0 dn cc c0 hx hb hml hown hts hK hZ hO hR x hxk pc ls av r n M L hdg hw8 hlen hroom h
    have hxe : x = .invokevirtual idx := by
      rcases hxk with ⟨_, h⟩ | ⟨h, _⟩ | ⟨h, _⟩
      · exact h
      · cases h
      · cases h
    subst hxe
    have hRe : R = mc_rmd tab d dn n0 := hR
    match av, hlen, h with
    | .ref q :: as, hlen, h =>
      intro h0 hf
      obtain ⟨fds, fd, g1, g2, g3, g4⟩ := mc_ob_e h hf
      have hG := mc_good hW hc c0
      have hM := g4 hf
      refine mv_call (dn' := dn') (Qr := fun rv M' L' => mc_V p l e R s m args below meth c Q D cl b cA md tab nL n0 dn (pc + 3) ls (rv.toList ++ r) (n + dn') M' L') (a := (((Value.ref q :: as).map (mc_ga b))).toArray) hroom (fun H locs lsC hP hz hS hls => ?_) (fun rv M' L' hq => hq) h0 hf
      have he : (mc_wd b cA md tab n M L)[q]? = some (b + q, .inr (ci, (fds.mapIdx (fun k fd => mc_fv md M q k fd)).map (mc_ga b))) := mc_wd_in g3 g1
      have hrecv := va_recv hK hP hcl he
      refine va_runVN (As := as.map (mc_ga b)) (C := y.cls) (b := b + q) (rest := r.map (mc_ga b)) ⟨hx, hb, hml, hown, hts⟩ hM ⟨va_cnB a hts hG rfl rfl rfl (hZ _ hl) (hts _ (List.mem_cons_of_mem _ hini)) hd ⟨?_, ?_⟩, hts _ (List.mem_cons_of_mem _ hinst), hts _ (List.mem_cons_of_mem _ hsel)⟩ ⟨mc_blind hN, hrecv, fun U hU hWm => ⟨rfl, by rw [hU]; exact hP, fun z => by rw [hU]; exact hz z, va_K.moved hWm.alike hK, mc_NW_warm hN hWm hZ, mc_O_to hO hS hU hWm⟩⟩ rfl ?_ hls ?_ ?_ hdg (by rw [hRe]; exact mc_roomle h0.1 hroom)
      · rw [hRe]
        show d' + 1 ≤ d
        exact hlev.1
      · rw [hRe]
        show 8 + (maxL + 11) + 40 * d' ≤ 40 * d
        omega
      · rw [List.length_map]
        simpa using hlen
      · show ((Value.ref q :: as).reverse ++ r).map (mc_ga b) = _
        simp [mc_ga]
      · show 2 * 0 + _ ≤ 8
        rw [mc_w_eq b r]
        omega
/-- a private method of an object, called by its own class through a plain link -/
theorem co_V (hN : NW.all mc_isN = true) (hW : WL.all goodWord = true) (hc : Cond.code y bytes maxL ret ∈ WL) (hl : Cond.methodLink own idx y ∈ WL) (hini : Cond.initialized y.cls ∈ WL) (hinst : Cond.instanceMethod y ∈ WL) (hsel : Cond.selects y.cls y y ∈ WL)
    (hd : y.cls ≠ "java/lang/invoke/MethodHandle" ∧ y.cls ≠ "java/lang/invoke/VarHandle" ∧ (parseMethodDescriptor y.desc).map (fun d => d.parameters.length) = some a) (hlev : d' + 1 ≤ d ∧ maxL ≤ 21)
    {ci : Nat} {T : u_T} {N : Nat} (hcl : cl[ci]? = some (y.cls, T, N)) :
    mc_CO s0 l D cl b cA md tab WL NW d own idx 0 (a + 1) dn' (fun av n M L Q => match av with
      | .ref q :: as => mc_ob md tab q n ci 0 (fun _ => mc_CT s0 l D cl b cA md tab WL NW y bytes maxL ret d' dn' (.ref q :: as) n M L Q)
      | _ => False) := by
  refine ⟨fun av n M L Q Q' hQ h => ?_, ?_⟩
  · match av, h with
    | .ref q :: as, h => exact mc_ob_mono (fun fd z => mc_CT_mono hQ z) h
  · intro p e R s m args below meth c Q nL n0 dn cc c0 hx hb hml hown hts hK hZ hO hR x hxk pc ls av r n M L hdg hw8 hlen hroom h
    have hxe : x = .invokevirtual idx := by
      rcases hxk with ⟨_, h⟩ | ⟨h, _⟩ | ⟨h, _⟩
      · exact h
      · cases h
      · cases h
    subst hxe
    have hRe : R = mc_rmd tab d dn n0 := hR
    match av, hlen, h with
    | .ref q :: as, hlen, h =>
      intro h0 hf
      obtain ⟨fds, fd, g1, g2, g3, g4⟩ := mc_ob_e h hf
      have hG := mc_good hW hc c0
      have hM := g4 hf
      refine mv_call (dn' := dn') (Qr := fun rv M' L' => mc_V p l e R s m args below meth c Q D cl b cA md tab nL n0 dn (pc + 3) ls (rv.toList ++ r) (n + dn') M' L') (a := (((Value.ref q :: as).map (mc_ga b))).toArray) hroom (fun H locs lsC hP hz hS hls => ?_) (fun rv M' L' hq => hq) h0 hf
      have he : (mc_wd b cA md tab n M L)[q]? = some (b + q, .inr (ci, (fds.mapIdx (fun k fd => mc_fv md M q k fd)).map (mc_ga b))) := mc_wd_in g3 g1
      have hrecv := va_recv hK hP hcl he
      refine va_runV (As := as.map (mc_ga b)) (C := y.cls) (b := b + q) (rest := r.map (mc_ga b)) ⟨hx, hb, hml, hown, hts⟩ hM ⟨callB_of a hts hG rfl rfl rfl (hts _ (List.mem_cons_of_mem _ hini)) (hts _ (List.mem_cons_of_mem _ hl)) hd ⟨?_, ?_⟩, hts _ (List.mem_cons_of_mem _ hinst), hts _ (List.mem_cons_of_mem _ hsel)⟩ ⟨mc_blind hN, hrecv, fun U hU hWm => ⟨rfl, by rw [hU]; exact hP, fun z => by rw [hU]; exact hz z, va_K.moved hWm.alike hK, mc_NW_warm hN hWm hZ, mc_O_to hO hS hU hWm⟩⟩ rfl ?_ hls ?_ ?_ hdg (by rw [hRe]; exact mc_roomle h0.1 hroom)
      · rw [hRe]
        show d' + 1 ≤ d
        exact hlev.1
      · rw [hRe]
        show 8 + (maxL + 11) + 40 * d' ≤ 40 * d
        omega
      · rw [List.length_map]
        simpa using hlen
      · show ((Value.ref q :: as).reverse ++ r).map (mc_ga b) = _
        simp [mc_ga]
      · show 2 * 0 + _ ≤ 8
        rw [mc_w_eq b r]
        omega
/-- a static method, through a nest link -/
theorem co_SN (hN : NW.all mc_isN = true) (hW : WL.all goodWord = true) (hc : Cond.code y bytes maxL ret ∈ WL) {host : String} (hl : Cond.methodLinkNest own idx y host ∈ NW) (hini : Cond.initialized y.cls ∈ WL) (hst : Cond.static y ∈ WL)
    (hd : y.cls ≠ "java/lang/invoke/MethodHandle" ∧ y.cls ≠ "java/lang/invoke/VarHandle" ∧ (parseMethodDescriptor y.desc).map (fun d => d.parameters.length) = some a) (hlev : d' + 1 ≤ d ∧ maxL ≤ 21) :
    mc_CO s0 l D cl b cA md tab WL NW d own idx 1 a dn' (mc_CT s0 l D cl b cA md tab WL NW y bytes maxL ret d' dn') := by
  refine ⟨fun av n M L Q Q' hQ h => mc_CT_mono hQ h, ?_⟩
  intro p e R s m args below meth c Q nL n0 dn cc c0 hx hb hml hown hts hK hZ hO hR x hxk pc ls av r n M L hdg hw8 hlen hroom h
  have hxe : x = .invokestatic idx := by
    rcases hxk with ⟨h, _⟩ | ⟨_, h⟩ | ⟨h, _⟩
    · cases h
    · exact h
    · cases h
  subst hxe
  have hRe : R = mc_rmd tab d dn n0 := hR
  intro h0 hf
  have hG := mc_good hW hc c0
  have hM := h hf
  refine mv_call (dn' := dn') (Qr := fun rv M' L' => mc_V p l e R s m args below meth c Q D cl b cA md tab nL n0 dn (pc + 3) ls (rv.toList ++ r) (n + dn') M' L') (a := (av.map (mc_ga b)).toArray) hroom (fun H locs lsC hP hz hS hls => ?_) (fun rv M' L' hq => hq) h0 hf
  refine va_runSN (As := av.map (mc_ga b)) (rest := r.map (mc_ga b)) ⟨hx, hb, hml, hown, hts⟩ hM ⟨va_cnB a hts hG rfl rfl rfl (hZ _ hl) (hts _ (List.mem_cons_of_mem _ hini)) hd ⟨?_, ?_⟩, hts _ (List.mem_cons_of_mem _ hst), trivial⟩ ⟨mc_blind hN, fun U hU hWm => ⟨rfl, by rw [hU]; exact hP, fun z => by rw [hU]; exact hz z, va_K.moved hWm.alike hK, mc_NW_warm hN hWm hZ, mc_O_to hO hS hU hWm⟩⟩ rfl ?_ hls ?_ ?_ hdg (by rw [hRe]; exact mc_roomle h0.1 hroom)
  · rw [hRe]
    show d' + 1 ≤ d
    exact hlev.1
  · rw [hRe]
    show 8 + (maxL + 11) + 40 * d' ≤ 40 * d
    omega
  · rw [List.length_map]
    exact hlen
  · show (av.reverse ++ r).map (mc_ga b) = _
    simp
  · show 2 * 0 + _ ≤ 8
    rw [mc_w_eq b r]
    omega
/-- a static method of the own class -/
theorem co_S (hN : NW.all mc_isN = true) (hW : WL.all goodWord = true) (hc : Cond.code y bytes maxL ret ∈ WL) (hl : Cond.methodLink own idx y ∈ WL) (hini : Cond.initialized y.cls ∈ WL) (hst : Cond.static y ∈ WL)
    (hd : y.cls ≠ "java/lang/invoke/MethodHandle" ∧ y.cls ≠ "java/lang/invoke/VarHandle" ∧ (parseMethodDescriptor y.desc).map (fun d => d.parameters.length) = some a) (hlev : d' + 1 ≤ d ∧ maxL ≤ 21) :
    mc_CO s0 l D cl b cA md tab WL NW d own idx 1 a dn' (mc_CT s0 l D cl b cA md tab WL NW y bytes maxL ret d' dn') := by
  refine ⟨fun av n M L Q Q' hQ h => mc_CT_mono hQ h, ?_⟩
  intro p e R s m args below meth c Q nL n0 dn cc c0 hx hb hml hown hts hK hZ hO hR x hxk pc ls av r n M L hdg hw8 hlen hroom h
  have hxe : x = .invokestatic idx := by
    rcases hxk with ⟨h, _⟩ | ⟨_, h⟩ | ⟨h, _⟩
    · cases h
    · exact h
    · cases h
  subst hxe
  have hRe : R = mc_rmd tab d dn n0 := hR
  intro h0 hf
  have hG := mc_good hW hc c0
  have hM := h hf
  refine mv_call (dn' := dn') (Qr := fun rv M' L' => mc_V p l e R s m args below meth c Q D cl b cA md tab nL n0 dn (pc + 3) ls (rv.toList ++ r) (n + dn') M' L') (a := (av.map (mc_ga b)).toArray) hroom (fun H locs lsC hP hz hS hls => ?_) (fun rv M' L' hq => hq) h0 hf
  refine va_runS (As := av.map (mc_ga b)) (rest := r.map (mc_ga b)) ⟨hx, hb, hml, hown, hts⟩ hM ⟨callB_of a hts hG rfl rfl rfl (hts _ (List.mem_cons_of_mem _ hini)) (hts _ (List.mem_cons_of_mem _ hl)) hd ⟨?_, ?_⟩, hts _ (List.mem_cons_of_mem _ hst)⟩ ⟨mc_blind hN, fun U hU hWm => ⟨rfl, by rw [hU]; exact hP, fun z => by rw [hU]; exact hz z, va_K.moved hWm.alike hK, mc_NW_warm hN hWm hZ, mc_O_to hO hS hU hWm⟩⟩ rfl ?_ hls ?_ ?_ hdg (by rw [hRe]; exact mc_roomle h0.1 hroom)
  · rw [hRe]
    show d' + 1 ≤ d
    exact hlev.1
  · rw [hRe]
    show 8 + (maxL + 11) + 40 * d' ≤ 40 * d
    omega
  · rw [List.length_map]
    exact hlen
  · show (av.reverse ++ r).map (mc_ga b) = _
    simp
  · show 2 * 0 + _ ≤ 8
    rw [mc_w_eq b r]
    omega
end MCO
