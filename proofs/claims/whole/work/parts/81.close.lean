/-! The walk of one method as a closed set of places, for any end -/
section MCL
variable {md : Bool} {s0 : State} {l : Launch} {D : va_G} {cl : List vw_C} {b : Nat} {cA : Nat → ClassId} {tab : List mc_D} {WL NW : List Cond} {d dn n0 nL : Nat} {own mname : String} {cc : ByteArray} {ret : Option FieldType} {tb : List mc_R} {sh : mc_SH} {Qr : Option Value → mc_M → mc_L → Prop}
variable {p : Program} {e : Env} {R : Room} {s : State} {m : MethodId} {args : Array Value} {below : List Frame} {meth : Method} {c : Code} {Q : State → Prop} {c0 : Cond}
theorem mc_close (htk : mc_tok cl tab = true)
    (hcl : ∀ (ci : Nat) (C : String) (T : u_T) (N : Nat), cl[ci]? = some (C, T, N) → (∀ w ∈ u_ws C T N, w ∈ WL) ∧ ∀ a, a < N → ∀ b, b < N → a ≠ b → (T a).2.1 ≠ (T b).2.1)
    (htb : mc_tbok cc nL tb = true) (hsw : mc_swok tb sh.2.2.2.2.2.2.1 = true) (hswL : mc_swokL tb sh.2.2.2.2.2.2.1 = true)
    (hfg : ∀ q ∈ sh.1.1, mc_fgP cl WL NW own q) (hfp : ∀ q ∈ sh.1.2, mc_fpP cl WL NW own mname q)
    (hkc : ∀ q ∈ sh.2.2.2.2.1, Cond.constant own q.1 q.2 ∈ WL) (hkl : ∀ q ∈ sh.2.2.2.2.2.1, Cond.constantLong own q.1 q.2 ∈ WL)
    (hcal : ∀ q ∈ sh.2.1, mc_CO s0 l D cl b cA md tab WL NW d own q.1 q.2.1 q.2.2.1 q.2.2.2.1 q.2.2.2.2) (hex : sh.2.2.2.1 = [])
    (hnwP : md = false → (∀ q ∈ sh.2.2.1, mc_nwP cl WL own q) ∧ mc_small tab = true ∧ ∀ t, t < 4 → Cond.arrayClass (mc_tt t) ∈ WL)
    (hx : p.tables.exec = Jvm.exec) (hb : c.code = cc) (hml : c.maxLocals = nL) (hown : s.vm.findClass own = some m.cls) (hnm : meth.name = mname) (hts : ∀ w ∈ c0 :: WL, w.before args s = true) (hK : va_K D cl (mc_ty cA) s) (hZ : mc_NW NW s) (hO : mc_O s0 b s) (hR : R = mc_rmd tab d dn n0)
    (hscr : ∀ sa len xs, sh.2.2.2.2.2.2.2 = some (sa, len, xs) → va_X sa len xs s s.heap ∧ sa < s.heap.size ∧ ¬ mc_A md b tab.length sa)
    (hri : ∀ pc ls x n M L, decode cc pc = .ok (.ireturn, 1) → mc_ri ret x (mc_en md n n0 dn (Qr (some (.int x)) M L)) → mc_V p l e R s m args below meth c Q D cl b cA md tab nL n0 dn pc ls [.int x] n M L)
    (hrv : ∀ pc ls n M L, decode cc pc = .ok (.return_, 1) → ret = none → mc_en md n n0 dn (Qr none M L) → mc_V p l e R s m args below meth c Q D cl b cA md tab nL n0 dn pc ls [] n M L) :
    mc_closed md tab n0 dn ret sh Qr (fun _ _ _ => False) tb (mc_V p l e R s m args below meth c Q D cl b cA md tab nL n0 dn) := by
  have hlnk : ∀ idx (t : String × String × String × Bool), mc_fw WL NW own idx t → mc_lnk own idx t args s := by
    intro idx t h
    rcases h with h | ⟨host, h⟩
    · exact Or.inl (hts _ (List.mem_cons_of_mem _ h))
    · exact Or.inr ⟨host, va_Nw.use rfl (hZ _ h)⟩
  have hsd : ∀ {K : mc_K} (hKV : ∀ pc ls st n' M L, K pc ls st n' M L → mc_V p l e R s m args below meth c Q D cl b cA md tab nL n0 dn pc ls st n' M L)
      {x : Instr} {len tgt : Nat} {v : Int32} {pc : Nat} {ls : List (Option Value)} {st : List Value} {n' : Nat} {M : mc_M} {L : mc_L}, mc_lk tb pc = some (x, len, tgt, v) → mc_step md tab n0 dn ret sh Qr (fun _ _ _ => False) K x tgt v pc ls st n' M L → mc_V p l e R s m args below meth c Q D cl b cA md tab nL n0 dn pc ls st n' M L := by
    intro K hKV x len tgt v pc ls st n' M L hlk h
    have hrow := List.all_eq_true.mp htb _ (mc_lk_mem hlk)
    simp only [Bool.and_eq_true, decide_eq_true_eq] at hrow
    refine mc_sound (own := own) (Ts := c0 :: WL) (sh := sh) (ret := ret) hx hb hown hts hK htk (fun ci C T N hc => ⟨fun w hw => List.mem_cons_of_mem _ ((hcl ci C T N hc).1 w hw), (hcl ci C T N hc).2⟩)
      (fun idx ci k hq => ?_) (fun idx ci k hq => ?_) (fun i w hq => hts _ (List.mem_cons_of_mem _ (hkc _ (mc_lk_mem hq)))) (fun i w hq => hts _ (List.mem_cons_of_mem _ (hkl _ (mc_lk_mem hq)))) hscr hri hrv hKV (fun idx kd a dn' F hq x hx2 pc ls av2 r n2 M2 L2 hdg h1 h2 h3 h4 => ?_) (fun i ci hq hmd pc2 ls2 st2 n2 M2 L2 fds hdg hd2 hn2 h2 => ?_) (fun hmd a2 t2 len2 pc2 ls2 r2 n2 M2 L2 hdg ht2 hty2 hd2 hn2 h2 => ?_) hrow.1 hrow.2 (fun i k hxe hq => ?_) (fun cs d2 dflt lo hi offs hxe hq => ?_) (fun cs d2 dflt ps hxe hq => ?_) h
    · obtain ⟨C, T, N, g1, g2, g3⟩ := hfg _ (mc_lk_mem hq)
      exact ⟨C, T, N, g1, g2, hlnk _ _ g3⟩
    · obtain ⟨C, T, N, g1, g2, g3⟩ := hfp _ (mc_lk_mem hq)
      refine ⟨C, T, N, g1, g2, ?_⟩
      rcases g3 with ⟨g4, g5⟩ | ⟨g4, g5, g6, g7⟩
      · exact Or.inl ⟨g4, hlnk _ _ g5⟩
      · exact Or.inr ⟨g4, g5, by rw [hnm]; exact g6, hts _ (List.mem_cons_of_mem _ g7)⟩
    · obtain ⟨g1, g2⟩ := hcal _ (mc_lk_mem hq)
      exact g2 p e _ s m _ below meth c _ nL _ dn cc c0 hx hb hml hown hts hK hZ hO hR x hx2 pc ls _ r _ _ _ hdg h1 h2 h3 (g1 _ _ _ _ _ _ (fun rv M L z => hKV _ _ _ _ _ _ z) h4)
    · subst hmd
      obtain ⟨C, T, N, g1, g2, g3, g4⟩ := (hnwP rfl).1 _ (mc_lk_mem hq)
      exact mv_new hx hb hts hown hK htk hR (fun w hw => List.mem_cons_of_mem _ ((hcl _ C T N g1).1 w hw)) g1 (hts _ (List.mem_cons_of_mem _ g2)) (hts _ (List.mem_cons_of_mem _ g3)) (hts _ (List.mem_cons_of_mem _ g4)) hdg hd2 hn2 (hKV _ _ _ _ _ _ h2)
    · subst hmd
      exact mv_newarr hx hb hK (hnwP rfl).2.1 hR (by rw [hty2]; exact hts _ (List.mem_cons_of_mem _ ((hnwP rfl).2.2 t2 ht2))) hdg ht2 hty2 hd2 hn2 (hKV _ _ _ _ _ _ h2)
    · rw [hex] at hq
      cases hq
    · have h5 := List.all_eq_true.mp hsw _ (mc_lk_mem hlk)
      subst hxe
      rw [hq] at h5
      exact h5
    · have h5 := List.all_eq_true.mp hswL _ (mc_lk_mem hlk)
      subst hxe
      rw [hq] at h5
      exact (Bool.and_eq_true _ _).mp h5
  have hwp : ∀ (cut : List Nat) (f : Nat) (pc : Nat) ls st n' M L, mc_wp md tab n0 dn ret sh Qr (fun _ _ _ => False) tb cut (mc_V p l e R s m args below meth c Q D cl b cA md tab nL n0 dn) f pc ls st n' M L → mc_V p l e R s m args below meth c Q D cl b cA md tab nL n0 dn pc ls st n' M L := by
    intro cut f
    induction f with
    | zero => exact fun pc ls st n' M L h => h
    | succ f ih =>
      intro pc ls st n' M L h
      unfold mc_wp at h
      split at h
      · exact h
      · split at h
        · next x len tgt v hlk => exact hsd ih hlk h
        · exact h.elim
  exact ⟨fun cut f pc ls st n' M L h => by
    unfold mc_run at h
    split at h
    · next x len tgt v hlk => exact hsd (hwp cut f) hlk h
    · exact h.elim, fun ks pc ls st n' M L h => mv_kp ks h⟩
/-- the return of a char -/
theorem mz_cret {exn : Nat → String} {Qt : Nat → mc_M → mc_L → Prop} {ty : FieldType} {pc : Nat} {ls : List (Option Value)} {n : Nat} {M : mc_M} {L : mc_L} (hx : p.tables.exec = Jvm.exec) (hb : c.code = cc) (hret : meth.sig.returnType = some ty) (hlk : meth.locks = false) {x : Int32} (hnar : narrow ty (.int x) = .int x) (hdg : decode cc pc = .ok (.ireturn, 1))
    (h : mc_en md n n0 dn (Qr (some (.int x)) M L)) : mc_V p l e R s m args below meth c (mc_Q below s D cl b cA md tab n0 dn exn Qr Qt) D cl b cA md tab nL n0 dn pc ls [.int x] n M L := by
  intro h0 hf H locs lsC hP hz hS hl
  obtain ⟨e1, e2, e3, hq⟩ := mc_en_e (b := b) (cA := cA) (tab := tab) (M := M) (L := L) h hf h0.1
  refine W.widen (k := dn) (n := mc_sl tab (n0 + dn) - mc_sl tab n0) (by omega) (Nat.sub_le_sub_right (mc_sl_le e1) _) ?_
  refine mw_mono ?_ (W.zret (Qc := fun _ _ o t => o = .returned (some (.int x)) ∧ t.heap = H ∧ s.WarmedH t.vm) (free := mc_A md b tab.length) hx hb hret hnar (fun t ht hW => ⟨rfl, ht, hW⟩) hS.2.2 hdg hlk)
  rintro t ⟨o, h1, h2, ⟨h3, h4, h5⟩, Lc, ⟨-, -, h6⟩, h7⟩
  exact ⟨o, h1, h2, h5, hS.F h4, ⟨Lc, h6, h7⟩, M, L, by rw [h4, ← e2]; exact hP, fun z => by rw [h4, ← e3 z]; exact hz z, Or.inl ⟨some (.int x), h3, hq⟩⟩
end MCL
/-- what a body's walk knows -/
def mz_bs (g : mc_G) (p : Program) (s : State) (m : MethodId) (args : Array Value) (meth : Method) (c : Code) (cc : ByteArray) (nL : Nat) (ret : Option FieldType) (own mname : String) (c0 : Cond) : Prop :=
  p.tables.exec = Jvm.exec ∧ c.code = cc ∧ c.maxLocals = nL ∧ s.vm.findClass own = some m.cls ∧ (∀ w ∈ c0 :: WL0, w.before args s = true) ∧ va_K g.2.1 cl0 (mc_ty g.2.2.2.1) s ∧ mc_NW NW0 s ∧ mc_O g.2.2.2.2 g.2.2.1 s ∧ meth.sig.returnType = ret ∧ meth.locks = false ∧ meth.name = mname
abbrev mz_V (g : mc_G) (p : Program) (e : Env) (s : State) (m : MethodId) (args : Array Value) (below : List Frame) (meth : Method) (c : Code) (nL n0 dn d : Nat) (Qr : Option Value → mc_M → mc_L → Prop) : mc_K :=
  mc_V p g.1 e (mc_rmd tab0 d dn n0) s m args below meth c (mc_Q below s g.2.1 cl0 g.2.2.1 g.2.2.2.1 true tab0 n0 dn exn0 Qr (fun _ _ _ => False)) g.2.1 cl0 g.2.2.1 g.2.2.2.1 true tab0 nL n0 dn
theorem mz_closed {g : mc_G} {p : Program} {e : Env} {s : State} {m : MethodId} {args : Array Value} {below : List Frame} {meth : Method} {c : Code} {cc : ByteArray} {nL n0 dn d : Nat} {ret : Option FieldType} {own mname : String} {c0 : Cond} {Qr : Option Value → mc_M → mc_L → Prop} (h : mz_bs g p s m args meth c cc nL ret own mname c0) {tb : List mc_R} {fg fp : List (Nat × Nat × Nat)} {cal : List (Nat × Nat × Nat × Nat × mc_PT)} {kl : List (Nat × Int64)}
    (htb : mc_tbok cc nL tb = true) (hsw : mc_swok tb [] = true) (hswL : mc_swokL tb [] = true) (hfg : ∀ q ∈ fg, mc_fgP cl0 WL0 NW0 own q) (hfp : ∀ q ∈ fp, mc_fpP cl0 WL0 NW0 own mname q) (hkl : ∀ q ∈ kl, Cond.constantLong own q.1 q.2 ∈ WL0)
    (hcal : ∀ q ∈ cal, mc_CO g.2.2.2.2 g.1 g.2.1 cl0 g.2.2.1 g.2.2.2.1 true tab0 WL0 NW0 d own q.1 q.2.1 q.2.2.1 q.2.2.2.1 q.2.2.2.2) :
    mc_closed true tab0 n0 dn ret ((fg, fp), cal, [], [], [], kl, [], none) Qr (fun _ _ _ => False) tb (mz_V g p e s m args below meth c nL n0 dn d Qr) := by
  obtain ⟨hx, hb, hml, hown, hts, hK, hZ, hO, hr, hlk, hnm⟩ := h
  exact mc_close tok0 hcl0 htb hsw hswL hfg hfp (fun _ h => absurd h List.not_mem_nil) hkl hcal rfl (fun z => (by cases z)) hx hb hml hown hnm hts hK hZ hO rfl (fun _ _ _ z => by cases z) (fun pc ls x n M L hdg h => mv_iret hx hb hr hlk hdg h) (fun pc ls n M L hdg hrn h => mv_vret hx hb (hr.trans hrn) hlk hdg h)
theorem mz_intro {g : mc_G} {y : MethodName} {cc : ByteArray} {maxL : Nat} {ret : Option FieldType} {d dn n : Nat} {av : List Value} {M : mc_M} {L : mc_L} {Qr : Option Value → mc_M → mc_L → Prop} (hy : plainName y.cls = true) (hlen : (lg_sl (av.map (mc_ga g.2.2.1))).length ≤ maxL)
    (body : ∀ p e s m args below meth c, mz_bs g p s m args meth c cc maxL ret y.cls y.name (.code y cc maxL ret) → mz_V g p e s m args below meth c maxL n dn d Qr 0 (mc_args av maxL) [] n M L) :
    mc_CT g.2.2.2.2 g.1 g.2.1 cl0 g.2.2.1 g.2.2.2.1 true tab0 WL0 NW0 y cc maxL ret d dn av n M L Qr := by
  intro hf
  refine Met.ofW (cc := cc) (maxL := maxL) (ret := ret) hy rfl ?_
  intro p e s m args below meth c s₁ B hml hv
  obtain ⟨rfl, hP, hz, hK, hZ, hO⟩ := hv
  have hts := atoms_spec (ws := .code y cc maxL ret :: WL0) B.pre
  have hown : s.vm.findClass y.cls = some m.cls := findClass_of_methodNamed B.named
  have hnm : meth.name = y.name := (name_of_methodNamed B.named B.method).1
  have hV := body p e s m _ below meth c ⟨B.exec, B.bytes, hml, hown, hts, hK, hZ, hO, B.returns, B.notSynchronized, hnm⟩
  have hl := lv_entry (av.map (mc_ga g.2.2.1)) (n := maxL) hlen
  rw [lg_entry_eq]
  have hW := hV ⟨Nat.le_refl _, Nat.le_add_right _ _⟩ hf s.heap [] _ hP hz va_S.rf (mc_lv_entry hl)
  rw [Nat.sub_self, Nat.sub_self] at hW
  refine mw_mono ?_ hW
  rintro t ⟨o, t1, t2, t3, t4, ⟨Lc, t5, t6⟩, M', L', t7, t8, t9⟩
  rcases t9 with ⟨rv, t10, t11⟩ | ⟨a, k, t10, t11, t12⟩
  · exact ⟨o, t1, t2, ⟨⟨rv, M', L', t10, t11, t7, t8⟩, t4⟩, Lc, ⟨⟨_, t10⟩, t3, t5⟩, t6⟩
  · exact t11.elim
