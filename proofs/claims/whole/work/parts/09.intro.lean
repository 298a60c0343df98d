/-! running a stretch: up to a place of 'cut', or for f instructions -/
def mc_has : List Nat → Nat → Bool
  | [], _ => false
  | k :: r, i => match Nat.beq k i with
    | true => true
    | false => mc_has r i
def mc_wp (md : Bool) (tab : List mc_D) (n0 dn : Nat) (ret : Option FieldType) (sh : mc_SH) (Qr : Option Value → mc_M → mc_L → Prop) (Qt : Nat → mc_M → mc_L → Prop) (tb : List mc_R) (cut : List Nat) (K : mc_K) : Nat → mc_K
  | 0 => K
  | f + 1 => fun pc ls st n M L => match mc_has cut pc with
    | true => K pc ls st n M L
    | false => match mc_lk tb pc with
      | some (x, _, tgt, v) => mc_step md tab n0 dn ret sh Qr Qt (mc_wp md tab n0 dn ret sh Qr Qt tb cut K f) x tgt v pc ls st n M L
      | none => False
def mc_run (md : Bool) (tab : List mc_D) (n0 dn : Nat) (ret : Option FieldType) (sh : mc_SH) (Qr : Option Value → mc_M → mc_L → Prop) (Qt : Nat → mc_M → mc_L → Prop) (tb : List mc_R) (cut : List Nat) (K : mc_K) (f : Nat) : mc_K := fun pc ls st n M L => match mc_lk tb pc with
  | some (x, _, tgt, v) => mc_step md tab n0 dn ret sh Qr Qt (mc_wp md tab n0 dn ret sh Qr Qt tb cut K f) x tgt v pc ls st n M L
  | none => False
def mc_tbok (cc : ByteArray) (nL : Nat) (tb : List mc_R) : Bool := tb.all fun q => decide (decode cc q.1 = .ok (q.2.1, q.2.2.1)) && mc_ok nL q.1 q.2.1 q.2.2.1 q.2.2.2.1 q.2.2.2.2
def mc_swok (tb : List mc_R) (sw : List (Nat × List (Int32 × Nat) × Nat)) : Bool := tb.all fun q => match q.2.1, mc_lk sw q.1 with
  | .tableswitch dflt lo hi offs, some (cs, d) => mc_swT q.1 cs d dflt lo hi offs
  | .tableswitch .., none => false
  | _, _ => true
def mc_swokL (tb : List mc_R) (sw : List (Nat × List (Int32 × Nat) × Nat)) : Bool := tb.all fun q => match q.2.1, mc_lk sw q.1 with
  | .lookupswitch dflt ps, some (cs, d) => (ps.toList.zip (ps.toList.drop 1)).all (fun (a, next) => a.1 < next.1) && mc_swL q.1 d dflt cs ps.toList
  | .lookupswitch .., none => false
  | _, _ => true
def mc_closed (md : Bool) (tab : List mc_D) (n0 dn : Nat) (ret : Option FieldType) (sh : mc_SH) (Qr : Option Value → mc_M → mc_L → Prop) (Qt : Nat → mc_M → mc_L → Prop) (tb : List mc_R) (K : mc_K) : Prop :=
  (∀ cut f pc ls st n M L, mc_run md tab n0 dn ret sh Qr Qt tb cut K f pc ls st n M L → K pc ls st n M L) ∧ ∀ ks pc ls st n M L, K pc (mc_kp ks ls) st n M L → K pc ls st n M L
/-- the words behind a field's pool number -/
def mc_fw (WL NW : List Cond) (own : String) (idx : Nat) (t : String × String × String × Bool) : Prop := Cond.fieldLink own idx t.1 t.2.1 t.2.2.1 ∈ WL ∨ ∃ host, Cond.fieldLinkNest own idx t.1 t.2.1 t.2.2.1 host ∈ NW
def mc_fgP (cl : List vw_C) (WL NW : List Cond) (own : String) (q : Nat × Nat × Nat) : Prop := ∃ (C : String) (T : u_T) (N : Nat), cl[q.2.1]? = some (C, T, N) ∧ q.2.2 < N ∧ mc_fw WL NW own q.1 (T q.2.2)
def mc_fpP (cl : List vw_C) (WL NW : List Cond) (own mname : String) (q : Nat × Nat × Nat) : Prop := ∃ (C : String) (T : u_T) (N : Nat), cl[q.2.1]? = some (C, T, N) ∧ q.2.2 < N ∧ (((T q.2.2).2.2.2 = false ∧ mc_fw WL NW own q.1 (T q.2.2)) ∨ ((T q.2.2).2.2.2 = true ∧ (T q.2.2).1 = own ∧ mname = "<init>" ∧ Cond.fieldLink own q.1 (T q.2.2).1 (T q.2.2).2.1 (T q.2.2).2.2.1 ∈ WL))
/-- the throws of a class's methods are sound -/
def mc_EO (s0 : State) (l : Launch) (D : va_G) (cl : List vw_C) (b : Nat) (cA : Nat → ClassId) (tab : List mc_D) (WL NW : List Cond) (exn : Nat → String) (d : Nat) (own : String) (cc : ByteArray) (tb : List mc_R) (ex : List (Nat × Nat)) : Prop :=
  ∀ (p : Program) (e : Env) (R : Room) (s : State) (m : MethodId) (args : Array Value) (below : List Frame) (meth : Method) (c : Code) (Qr : Option Value → mc_M → mc_L → Prop) (Qt : Nat → mc_M → mc_L → Prop) (nL n0 dn : Nat) (c0 : Cond),
    p.tables.exec = Jvm.exec → c.code = cc → c.maxLocals = nL → s.vm.findClass own = some m.cls → (∀ w ∈ c0 :: WL, w.before args s = true) → mc_O s0 b s → R = mc_rmd tab d dn n0 → meth.locks = false → c.exceptionTable.isEmpty = true → (∃ M0 L0, va_P D cl (mc_wd b cA true tab n0 M0 L0) s.heap) → tab.length ≤ n0 →
    ∀ i k, mc_lk ex i = some k → ∀ pc len tgt v ls n M L, mc_lk tb pc = some (.new i, len, tgt, v) → n < n0 + dn → Qt k M L → mc_V p l e R s m args below meth c (mc_Q below s D cl b cA true tab n0 dn exn Qr Qt) D cl b cA true tab nL n0 dn pc ls [] n M L
/-- what is so behind a method that may throw -/
def mc_Q1 (D : va_G) (cl : List vw_C) (b : Nat) (cA : Nat → ClassId) (tab : List mc_D) (n0 dn : Nat) (exn : Nat → String) (Qr : Option Value → mc_M → mc_L → Prop) (Qt : Nat → mc_M → mc_L → Prop) : Array Value → State → Outcome → State → Prop := fun _ s o t =>
  s.WarmedH t.vm ∧ va_F (mc_A true b tab.length) s t ∧ (∃ Lc, s.sameButNew ({ t with vm := s.vm } : State) Lc dn (mc_sl tab (n0 + dn) - mc_sl tab n0) ∧ ∀ q ∈ Lc, mc_A true b tab.length q.base) ∧
  ∃ M L, va_P D cl (mc_wd b cA true tab (n0 + dn) M L) t.heap ∧ (true = false → t.heap.size = b + (n0 + dn)) ∧
    ((∃ rv : Option Value, o = .returned (rv.map (mc_ga b)) ∧ Qr rv M L) ∨ (∃ a k, o = .threw a ∧ Qt k M L ∧ mc_ec exn s t a k))
/-- the contract of a method that may throw -/
def mc_CX (s0 : State) (l : Launch) (D : va_G) (cl : List vw_C) (b : Nat) (cA : Nat → ClassId) (tab : List mc_D) (WL NW : List Cond) (exn : Nat → String) (y : MethodName) (cc : ByteArray) (maxL : Nat) (ret : Option FieldType) (d dn : Nat) (av : List Value) (n : Nat) (M : mc_M) (L : mc_L) (Qr : Option Value → mc_M → mc_L → Prop) (Qt : Nat → mc_M → mc_L → Prop) : Prop :=
  tab.length ≤ n → MetFree l y (headSpec (.code y cc maxL ret :: WL) (mc_rmd tab d dn n)) (va_Pc (av.map (mc_ga b)) (mc_B s0 D cl b cA true tab NW n M L)) (fun _ _ _ _ _ => True) (mc_Q1 D cl b cA tab n dn exn Qr Qt)
def mc_nwP (cl : List vw_C) (WL : List Cond) (own : String) (q : Nat × Nat) : Prop := ∃ (C : String) (T : u_T) (N : Nat), cl[q.2]? = some (C, T, N) ∧ Cond.classLink own q.1 C ∈ WL ∧ Cond.instantiable C N ∈ WL ∧ Cond.initialized C ∈ WL
section MIN
variable {md : Bool} {s0 : State} {l : Launch} {D : va_G} {cl : List vw_C} {b : Nat} {cA : Nat → ClassId} {tab : List mc_D} {WL NW : List Cond} {d dn : Nat} {own : String} {y : MethodName} {cc : ByteArray} {maxL : Nat} {ret : Option FieldType} {tb : List mc_R} {sh : mc_SH} {av : List Value} {n : Nat} {M : mc_M} {L : mc_L} {Qr : Option Value → mc_M → mc_L → Prop}
variable {Qt : Nat → mc_M → mc_L → Prop} {exn : Nat → String}
theorem mc_core (hyo : y.cls = own) (hN : NW.all mc_isN = true) (htk : mc_tok cl tab = true)
    (hcl : ∀ (ci : Nat) (C : String) (T : u_T) (N : Nat), cl[ci]? = some (C, T, N) → (∀ w ∈ u_ws C T N, w ∈ WL) ∧ ∀ a, a < N → ∀ b, b < N → a ≠ b → (T a).2.1 ≠ (T b).2.1)
    (htb : mc_tbok cc maxL tb = true) (hsw : mc_swok tb sh.2.2.2.2.2.2.1 = true) (hswL : mc_swokL tb sh.2.2.2.2.2.2.1 = true)
    (hfg : ∀ q ∈ sh.1.1, mc_fgP cl WL NW own q) (hfp : ∀ q ∈ sh.1.2, mc_fpP cl WL NW own y.name q)
    (hkc : ∀ q ∈ sh.2.2.2.2.1, Cond.constant own q.1 q.2 ∈ WL) (hkl : ∀ q ∈ sh.2.2.2.2.2.1, Cond.constantLong own q.1 q.2 ∈ WL)
    (hcal : ∀ q ∈ sh.2.1, mc_CO s0 l D cl b cA md tab WL NW d own q.1 q.2.1 q.2.2.1 q.2.2.2.1 q.2.2.2.2) (hexo : mc_EO s0 l D cl b cA tab WL NW exn d own cc tb sh.2.2.2.1)
    (hnwP : md = false → (∀ q ∈ sh.2.2.1, mc_nwP cl WL own q) ∧ mc_small tab = true ∧ ∀ t, t < 4 → Cond.arrayClass (mc_tt t) ∈ WL)
    (hsc0 : sh.2.2.2.2.2.2.2 = none) (hlen : (lg_sl (av.map (mc_ga b))).length ≤ maxL)
    (body : ∀ K, mc_closed md tab n dn ret sh Qr Qt tb K → K 0 (mc_args av maxL) [] n M L) (hf : md = true → tab.length ≤ n) {p : Program} {e : Env} {s : State} {m : MethodId} {args : Array Value} {below : List Frame} {meth : Method} {c : Code} {s₁ : State} (B : BodyLoose p l y (headSpec (.code y cc maxL ret :: WL) (mc_rmd tab d dn n)) cc maxL ret e s m args below meth c s₁) (hml : c.maxLocals = maxL) (hv : va_Pc (av.map (mc_ga b)) (mc_B s0 D cl b cA md tab NW n M L) args s) :
    W p l e (mc_rmd tab d dn n) s m args below meth c s.heap [] 0 0 (mc_Q below s D cl b cA md tab n dn exn Qr Qt) (entryFrame m args maxL) := by
  obtain ⟨rfl, hP, hz, hK, hZ, hO⟩ := hv
  have hts := atoms_spec (ws := .code y cc maxL ret :: WL) B.pre
  have hown : s.vm.findClass own = some m.cls := hyo ▸ findClass_of_methodNamed B.named
  have hnm : meth.name = y.name := (name_of_methodNamed B.named B.method).1
  have hlnk : ∀ idx (t : String × String × String × Bool), mc_fw WL NW own idx t → mc_lnk own idx t (av.map (mc_ga b)).toArray s := by
    intro idx t h
    rcases h with h | ⟨host, h⟩
    · exact Or.inl (hts _ (List.mem_cons_of_mem _ h))
    · exact Or.inr ⟨host, va_Nw.use rfl (hZ _ h)⟩
  have hsd : ∀ {K : mc_K} (hKV : ∀ pc ls st n' M L, K pc ls st n' M L → mc_V p l e (mc_rmd tab d dn n) s m (av.map (mc_ga b)).toArray below meth c (mc_Q below s D cl b cA md tab n dn exn Qr Qt) D cl b cA md tab maxL n dn pc ls st n' M L)
      {x : Instr} {len tgt : Nat} {v : Int32} {pc : Nat} {ls : List (Option Value)} {st : List Value} {n' : Nat} {M : mc_M} {L : mc_L}, mc_lk tb pc = some (x, len, tgt, v) → mc_step md tab n dn ret sh Qr Qt K x tgt v pc ls st n' M L → mc_V p l e (mc_rmd tab d dn n) s m (av.map (mc_ga b)).toArray below meth c (mc_Q below s D cl b cA md tab n dn exn Qr Qt) D cl b cA md tab maxL n dn pc ls st n' M L := by
    intro K hKV x len tgt v pc ls st n' M L hlk h
    have hrow := List.all_eq_true.mp htb _ (mc_lk_mem hlk)
    simp only [Bool.and_eq_true, decide_eq_true_eq] at hrow
    refine mc_sound (own := own) (Ts := .code y cc maxL ret :: WL) (sh := sh) (ret := ret) B.exec B.bytes hown hts hK htk (fun ci C T N hc => ⟨fun w hw => List.mem_cons_of_mem _ ((hcl ci C T N hc).1 w hw), (hcl ci C T N hc).2⟩)
      (fun idx ci k hq => ?_) (fun idx ci k hq => ?_) (fun i w hq => hts _ (List.mem_cons_of_mem _ (hkc _ (mc_lk_mem hq)))) (fun i w hq => hts _ (List.mem_cons_of_mem _ (hkl _ (mc_lk_mem hq)))) (fun sa len xs hsc => by rw [hsc0] at hsc; cases hsc) (fun pc ls x n M L hdg h => mv_iret B.exec B.bytes B.returns B.notSynchronized hdg h) (fun pc ls n M L hdg hrn h => mv_vret B.exec B.bytes (B.returns.trans hrn) B.notSynchronized hdg h) hKV (fun idx kd a dn' F hq x hx pc ls av2 r n2 M2 L2 hdg h1 h2 h3 h4 => ?_) (fun i ci hq hmd pc2 ls2 st2 n2 M2 L2 fds hdg hd2 hn2 h2 => ?_) (fun hmd a2 t2 len2 pc2 ls2 r2 n2 M2 L2 hdg ht2 hty2 hd2 hn2 h2 => ?_) hrow.1 hrow.2 (fun i k hxe hq => ?_) (fun cs d2 dflt lo hi offs hxe hq => ?_) (fun cs d2 dflt ps hxe hq => ?_) h
    · obtain ⟨C, T, N, g1, g2, g3⟩ := hfg _ (mc_lk_mem hq)
      exact ⟨C, T, N, g1, g2, hlnk _ _ g3⟩
    · obtain ⟨C, T, N, g1, g2, g3⟩ := hfp _ (mc_lk_mem hq)
      refine ⟨C, T, N, g1, g2, ?_⟩
      rcases g3 with ⟨g4, g5⟩ | ⟨g4, g5, g6, g7⟩
      · exact Or.inl ⟨g4, hlnk _ _ g5⟩
      · exact Or.inr ⟨g4, g5, by rw [hnm]; exact g6, hts _ (List.mem_cons_of_mem _ g7)⟩
    · obtain ⟨g1, g2⟩ := hcal _ (mc_lk_mem hq)
      exact g2 p e _ s m _ below meth c _ maxL _ dn cc (.code y cc maxL ret) B.exec B.bytes hml hown hts hK hZ hO rfl x hx pc ls _ r _ _ _ hdg h1 h2 h3 (g1 _ _ _ _ _ _ (fun rv M L z => hKV _ _ _ _ _ _ z) h4)
    · subst hmd
      obtain ⟨C, T, N, g1, g2, g3, g4⟩ := (hnwP rfl).1 _ (mc_lk_mem hq)
      exact mv_new B.exec B.bytes hts hown hK htk rfl (fun w hw => List.mem_cons_of_mem _ ((hcl _ C T N g1).1 w hw)) g1 (hts _ (List.mem_cons_of_mem _ g2)) (hts _ (List.mem_cons_of_mem _ g3)) (hts _ (List.mem_cons_of_mem _ g4)) hdg hd2 hn2 (hKV _ _ _ _ _ _ h2)
    · subst hmd
      exact mv_newarr B.exec B.bytes hK (hnwP rfl).2.1 rfl (by rw [hty2]; exact hts _ (List.mem_cons_of_mem _ ((hnwP rfl).2.2 t2 ht2))) hdg ht2 hty2 hd2 hn2 (hKV _ _ _ _ _ _ h2)
    · intro hmd h1 h2
      subst hmd
      subst hxe
      exact hexo p e _ s m _ below meth c Qr Qt maxL n dn (.code y cc maxL ret) B.exec B.bytes hml hown hts hO rfl B.notSynchronized (B.noHandlers (hts _ List.mem_cons_self)) ⟨_, _, hP⟩ (hf rfl) i k hq pc _ _ _ ls _ _ _ hlk h1 h2
    · have h5 := List.all_eq_true.mp hsw _ (mc_lk_mem hlk)
      subst hxe
      rw [hq] at h5
      exact h5
    · have h5 := List.all_eq_true.mp hswL _ (mc_lk_mem hlk)
      subst hxe
      rw [hq] at h5
      exact (Bool.and_eq_true _ _).mp h5
  have hwp : ∀ (cut : List Nat) (f : Nat) (pc : Nat) ls st n' M L, mc_wp md tab n dn ret sh Qr Qt tb cut (mc_V p l e (mc_rmd tab d dn n) s m (av.map (mc_ga b)).toArray below meth c (mc_Q below s D cl b cA md tab n dn exn Qr Qt) D cl b cA md tab maxL n dn) f pc ls st n' M L → mc_V p l e (mc_rmd tab d dn n) s m (av.map (mc_ga b)).toArray below meth c (mc_Q below s D cl b cA md tab n dn exn Qr Qt) D cl b cA md tab maxL n dn pc ls st n' M L := by
    intro cut f
    induction f with
    | zero => exact fun pc ls st n' M L h => h
    | succ f ih =>
      intro pc ls st n' M L h
      unfold mc_wp at h
      split at h
      · exact h
      · split at h
        · next x len tgt v hlk => exact hsd ih hlk h
        · exact h.elim
  have hV := body (mc_V p l e (mc_rmd tab d dn n) s m (av.map (mc_ga b)).toArray below meth c (mc_Q below s D cl b cA md tab n dn exn Qr Qt) D cl b cA md tab maxL n dn) ⟨fun cut f pc ls st n' M L h => by
    unfold mc_run at h
    split at h
    · next x len tgt v hlk => exact hsd (hwp cut f) hlk h
    · exact h.elim, fun ks pc ls st n' M L h => mv_kp ks h⟩
  have hl := lv_entry (av.map (mc_ga b)) (n := maxL) hlen
  rw [lg_entry_eq]
  have hW := hV ⟨Nat.le_refl _, Nat.le_add_right _ _⟩ hf s.heap [] _ hP hz va_S.rf (mc_lv_entry hl)
  rw [Nat.sub_self, Nat.sub_self] at hW
  exact hW
theorem mc_intro (hy : plainName y.cls = true) (hyo : y.cls = own) (hN : NW.all mc_isN = true) (htk : mc_tok cl tab = true)
    (hcl : ∀ (ci : Nat) (C : String) (T : u_T) (N : Nat), cl[ci]? = some (C, T, N) → (∀ w ∈ u_ws C T N, w ∈ WL) ∧ ∀ a, a < N → ∀ b, b < N → a ≠ b → (T a).2.1 ≠ (T b).2.1)
    (htb : mc_tbok cc maxL tb = true) (hsw : mc_swok tb sh.2.2.2.2.2.2.1 = true) (hswL : mc_swokL tb sh.2.2.2.2.2.2.1 = true)
    (hfg : ∀ q ∈ sh.1.1, mc_fgP cl WL NW own q) (hfp : ∀ q ∈ sh.1.2, mc_fpP cl WL NW own y.name q)
    (hkc : ∀ q ∈ sh.2.2.2.2.1, Cond.constant own q.1 q.2 ∈ WL) (hkl : ∀ q ∈ sh.2.2.2.2.2.1, Cond.constantLong own q.1 q.2 ∈ WL)
    (hcal : ∀ q ∈ sh.2.1, mc_CO s0 l D cl b cA true tab WL NW d own q.1 q.2.1 q.2.2.1 q.2.2.2.1 q.2.2.2.2) (hex : sh.2.2.2.1 = [])
    (hsc0 : sh.2.2.2.2.2.2.2 = none) (hlen : (lg_sl (av.map (mc_ga b))).length ≤ maxL)
    (body : ∀ K, mc_closed true tab n dn ret sh Qr (fun _ _ _ => False) tb K → K 0 (mc_args av maxL) [] n M L) : mc_CT s0 l D cl b cA true tab WL NW y cc maxL ret d dn av n M L Qr := by
  intro hf
  refine Met.ofW (cc := cc) (maxL := maxL) (ret := ret) hy rfl ?_
  intro p e s m args below meth c s₁ B hml hv
  refine mw_mono ?_ (mc_core (Qt := fun _ _ _ => False) (exn := fun _ => "") hyo hN htk hcl htb hsw hswL hfg hfp hkc hkl hcal (fun p e R s m args below meth c Qr Qt nL n0 dn c0 _ _ _ _ _ _ _ _ _ _ _ i k hq => by rw [hex] at hq; cases hq) (fun z => by cases z) hsc0 hlen body hf B hml hv)
  rintro t ⟨o, t1, t2, t3, t4, ⟨Lc, t5, t6⟩, M', L', t7, t8, t9⟩
  rcases t9 with ⟨rv, t10, t11⟩ | ⟨a, k, t10, t11, t12⟩
  · exact ⟨o, t1, t2, ⟨⟨rv, M', L', t10, t11, t7, t8⟩, t4⟩, Lc, ⟨⟨_, t10⟩, t3, t5⟩, t6⟩
  · exact t11.elim
theorem mc_introB (hy : plainName y.cls = true) (hyo : y.cls = own) (hN : NW.all mc_isN = true) (htk : mc_tok cl tab = true)
    (hcl : ∀ (ci : Nat) (C : String) (T : u_T) (N : Nat), cl[ci]? = some (C, T, N) → (∀ w ∈ u_ws C T N, w ∈ WL) ∧ ∀ a, a < N → ∀ b, b < N → a ≠ b → (T a).2.1 ≠ (T b).2.1)
    (htb : mc_tbok cc maxL tb = true) (hsw : mc_swok tb sh.2.2.2.2.2.2.1 = true) (hswL : mc_swokL tb sh.2.2.2.2.2.2.1 = true)
    (hfg : ∀ q ∈ sh.1.1, mc_fgP cl WL NW own q) (hfp : ∀ q ∈ sh.1.2, mc_fpP cl WL NW own y.name q)
    (hkc : ∀ q ∈ sh.2.2.2.2.1, Cond.constant own q.1 q.2 ∈ WL) (hkl : ∀ q ∈ sh.2.2.2.2.2.1, Cond.constantLong own q.1 q.2 ∈ WL)
    (hcal : ∀ q ∈ sh.2.1, mc_CO s0 l D cl b cA false tab WL NW d own q.1 q.2.1 q.2.2.1 q.2.2.2.1 q.2.2.2.2) (hex : sh.2.2.2.1 = [])
    (hnwP : (∀ q ∈ sh.2.2.1, mc_nwP cl WL own q) ∧ mc_small tab = true ∧ ∀ t, t < 4 → Cond.arrayClass (mc_tt t) ∈ WL)
    (hsc0 : sh.2.2.2.2.2.2.2 = none) (hlen : (lg_sl (av.map (mc_ga b))).length ≤ maxL)
    (body : ∀ K, mc_closed false tab n dn ret sh Qr (fun _ _ _ => False) tb K → K 0 (mc_args av maxL) [] n M L) : mc_CT s0 l D cl b cA false tab WL NW y cc maxL ret d dn av n M L Qr := by
  intro hf
  refine Met.ofW (cc := cc) (maxL := maxL) (ret := ret) hy rfl ?_
  intro p e s m args below meth c s₁ B hml hv
  refine mw_mono ?_ (mc_core (Qt := fun _ _ _ => False) (exn := fun _ => "") hyo hN htk hcl htb hsw hswL hfg hfp hkc hkl hcal (fun p e R s m args below meth c Qr Qt nL n0 dn c0 _ _ _ _ _ _ _ _ _ _ _ i k hq => by rw [hex] at hq; cases hq) (fun _ => hnwP) hsc0 hlen body hf B hml hv)
  rintro t ⟨o, t1, t2, t3, t4, ⟨Lc, t5, t6⟩, M', L', t7, t8, t9⟩
  rcases t9 with ⟨rv, t10, t11⟩ | ⟨a, k, t10, t11, t12⟩
  · exact ⟨o, t1, t2, ⟨⟨rv, M', L', t10, t11, t7, t8⟩, t4⟩, Lc, ⟨⟨_, t10⟩, t3, t5⟩, t6⟩
  · exact t11.elim
theorem mc_introX (hy : plainName y.cls = true) (hyo : y.cls = own) (hN : NW.all mc_isN = true) (htk : mc_tok cl tab = true)
    (hcl : ∀ (ci : Nat) (C : String) (T : u_T) (N : Nat), cl[ci]? = some (C, T, N) → (∀ w ∈ u_ws C T N, w ∈ WL) ∧ ∀ a, a < N → ∀ b, b < N → a ≠ b → (T a).2.1 ≠ (T b).2.1)
    (htb : mc_tbok cc maxL tb = true) (hsw : mc_swok tb sh.2.2.2.2.2.2.1 = true) (hswL : mc_swokL tb sh.2.2.2.2.2.2.1 = true)
    (hfg : ∀ q ∈ sh.1.1, mc_fgP cl WL NW own q) (hfp : ∀ q ∈ sh.1.2, mc_fpP cl WL NW own y.name q)
    (hkc : ∀ q ∈ sh.2.2.2.2.1, Cond.constant own q.1 q.2 ∈ WL) (hkl : ∀ q ∈ sh.2.2.2.2.2.1, Cond.constantLong own q.1 q.2 ∈ WL)
    (hcal : ∀ q ∈ sh.2.1, mc_CO s0 l D cl b cA true tab WL NW d own q.1 q.2.1 q.2.2.1 q.2.2.2.1 q.2.2.2.2) (hexo : mc_EO s0 l D cl b cA tab WL NW exn d own cc tb sh.2.2.2.1)
    (hsc0 : sh.2.2.2.2.2.2.2 = none) (hlen : (lg_sl (av.map (mc_ga b))).length ≤ maxL)
    (body : ∀ K, mc_closed true tab n dn ret sh Qr Qt tb K → K 0 (mc_args av maxL) [] n M L) : mc_CX s0 l D cl b cA tab WL NW exn y cc maxL ret d dn av n M L Qr Qt := by
  intro hf
  refine MetFree.of_bodyS (code := cc) (maxLocals := maxL) (ret := ret) hy ?_ ?_
  · intro args s m h hn
    obtain ⟨meth, c, h1, h2, h3, h4, h5, h6, -, -⟩ := Cond.code_spec hn (atoms_spec (ws := .code y cc maxL ret :: WL) h _ List.mem_cons_self)
    exact ⟨meth, c, h1, h2, h3, h4, h5, h6⟩
  · intro p e s m args below meth c s₁ B hml hP _
    have hh0 : s₁.heap = s.heap := by rw [B.state]; rfl
    obtain ⟨t, a1, o, b1, b2, b3⟩ := mc_core hyo hN htk hcl htb hsw hswL hfg hfp hkc hkl hcal hexo (fun z => by cases z) hsc0 hlen body (fun _ => hf) B hml hP s₁ hh0 (Stand.of_body B)
    exact ⟨t, o, a1, b1, b2, b3⟩
end MIN
