section MVS
variable {p : Program} {l : Launch} {e : Env} {R : Room} {s : State} {m : MethodId} {args : Array Value} {below : List Frame} {meth : Method} {c : Code} {Q : State → Prop}
variable {D : va_G} {cl : List vw_C} {b : Nat} {cA : Nat → ClassId} {md : Bool} {tab : List mc_D} {nL n0 dn : Nat}
variable {cc : ByteArray} {pc : Nat} {ls : List (Option Value)} {st r : List Value} {n : Nat} {M : mc_M} {L : mc_L}
theorem mv_go {pc' : Nat} {st' : List Value} (h : ∀ (H : Heap) (locs : List Loc) (lsC : Array Slot) (x y : Nat), mc_lv b nL ls lsC → W p l e R s m args below meth c H locs x y Q (F0 m pc' lsC (st'.map (mc_ga b))) → W p l e R s m args below meth c H locs x y Q (F0 m pc lsC (st.map (mc_ga b)))) (k : mc_V p l e R s m args below meth c Q D cl b cA md tab nL n0 dn pc' ls st' n M L) : mc_V p l e R s m args below meth c Q D cl b cA md tab nL n0 dn pc ls st n M L :=
  fun h0 hf H locs lsC hP hz hS hl => h H locs lsC _ _ hl (k h0 hf H locs lsC hP hz hS hl)
theorem mv_br {P1 P2 : Prop} {pc1 pc2 : Nat} {st' : List Value} (h : ∀ (H : Heap) (locs : List Loc) (lsC : Array Slot) (x y : Nat), (P1 → W p l e R s m args below meth c H locs x y Q (F0 m pc1 lsC (st'.map (mc_ga b)))) → (P2 → W p l e R s m args below meth c H locs x y Q (F0 m pc2 lsC (st'.map (mc_ga b)))) → W p l e R s m args below meth c H locs x y Q (F0 m pc lsC (st.map (mc_ga b)))) (k : (P1 → mc_V p l e R s m args below meth c Q D cl b cA md tab nL n0 dn pc1 ls st' n M L) ∧ (P2 → mc_V p l e R s m args below meth c Q D cl b cA md tab nL n0 dn pc2 ls st' n M L)) : mc_V p l e R s m args below meth c Q D cl b cA md tab nL n0 dn pc ls st n M L :=
  fun h0 hf H locs lsC hP hz hS hl => h H locs lsC _ _ (fun z => k.1 z h0 hf H locs lsC hP hz hS hl) (fun z => k.2 z h0 hf H locs lsC hP hz hS hl)
theorem mv_kp (ks : List Bool) (k : mc_V p l e R s m args below meth c Q D cl b cA md tab nL n0 dn pc (mc_kp ks ls) st n M L) : mc_V p l e R s m args below meth c Q D cl b cA md tab nL n0 dn pc ls st n M L :=
  fun h0 hf H locs lsC hP hz hS hl => k h0 hf H locs lsC hP hz hS (mc_lv_kp ks hl)
theorem mv_st1 {pc' i : Nat} {v : Value} (h : ∀ (H : Heap) (locs : List Loc) (lsC : Array Slot) (x y : Nat), mc_lv b nL ls lsC → (∀ lsC', lv_has lsC' nL ((i, mc_ga b v) :: (mc_lst b ls).filter (fun q => !(q.1 == i) && !(q.1 + 1 == i && q.2.category == 2))) → W p l e R s m args below meth c H locs x y Q (F0 m pc' lsC' (r.map (mc_ga b)))) → W p l e R s m args below meth c H locs x y Q (F0 m pc lsC (st.map (mc_ga b)))) (k : mc_V p l e R s m args below meth c Q D cl b cA md tab nL n0 dn pc' (mc_st1 ls i v) r n M L) : mc_V p l e R s m args below meth c Q D cl b cA md tab nL n0 dn pc ls st n M L :=
  fun h0 hf H locs lsC hP hz hS hl => h H locs lsC _ _ hl (fun lsC' h' => k h0 hf H locs lsC' hP hz hS (mc_lv_st1 h'))
theorem mv_st2 {pc' i : Nat} {v : Value} (h : ∀ (H : Heap) (locs : List Loc) (lsC : Array Slot) (x y : Nat), mc_lv b nL ls lsC → (∀ lsC', lv_has lsC' nL ((i, mc_ga b v) :: (mc_lst b ls).filter (fun q => !(q.1 == i) && (!(q.1 == i + 1) && !(q.1 + 1 == i && q.2.category == 2)))) → W p l e R s m args below meth c H locs x y Q (F0 m pc' lsC' (r.map (mc_ga b)))) → W p l e R s m args below meth c H locs x y Q (F0 m pc lsC (st.map (mc_ga b)))) (k : mc_V p l e R s m args below meth c Q D cl b cA md tab nL n0 dn pc' (mc_st2 ls i v) r n M L) : mc_V p l e R s m args below meth c Q D cl b cA md tab nL n0 dn pc ls st n M L :=
  fun h0 hf H locs lsC hP hz hS hl => h H locs lsC _ _ hl (fun lsC' h' => k h0 hf H locs lsC' hP hz hS (mc_lv_st2 h'))
theorem mv_iinc (hx : p.tables.exec = Jvm.exec) (hb : c.code = cc) {i : Nat} {z : Int} {a v : Int32} (hdg : decode cc pc = .ok (.iinc i z, 3)) (hi : i < nL) (ha : mc_at ls i = some (some (.int a))) (hv : Int32.ofInt z = v) (k : mc_V p l e R s m args below meth c Q D cl b cA md tab nL n0 dn (pc + 3) (mc_st1 ls i (.int (a + v))) st n M L) : mc_V p l e R s m args below meth c Q D cl b cA md tab nL n0 dn pc ls st n M L := by
  refine mv_st1 (fun H locs lsC x y hl kk => ?_) k
  have hm : (i, Value.int a) ∈ mc_lst b ls := mc_lst_mem.mpr ⟨.int a, by rw [← mc_at_eq]; exact ha, rfl⟩
  obtain ⟨q, hq⟩ := List.getElem?_of_mem hm
  exact lv_iinc hx hb hdg hl hq (by rw [hv]) hi rfl kk
theorem mv_if (hx : p.tables.exec = Jvm.exec) (hb : c.code = cc) {cd : Jvm.ClassFile.Cond} {off : Int} {tgt : Nat} {x : Int32} (hdg : decode cc pc = .ok (.ifCond cd off, 3)) (ht : (pc : Int) + off = (tgt : Int)) (k : mc_cd cd x 0 (mc_V p l e R s m args below meth c Q D cl b cA md tab nL n0 dn tgt ls r n M L) (mc_V p l e R s m args below meth c Q D cl b cA md tab nL n0 dn (pc + 3) ls r n M L)) : mc_V p l e R s m args below meth c Q D cl b cA md tab nL n0 dn pc ls (.int x :: r) n M L := by
  cases cd with
  | eq => exact mv_br (fun H locs lsC _ _ kt kf => lv_if_eq hx hb hdg ht kt kf) k
  | ne => exact mv_br (fun H locs lsC _ _ kt kf => lv_if_ne hx hb hdg ht kt kf) k
  | lt => exact mv_br (fun H locs lsC _ _ kt kf => lv_if_lt hx hb hdg ht kt kf) k
  | ge => exact mv_br (fun H locs lsC _ _ kt kf => lv_if_ge hx hb hdg ht kt kf) k
  | gt => exact mv_br (fun H locs lsC _ _ kt kf => lv_if_gt hx hb hdg ht kt kf) k
  | le => exact mv_br (fun H locs lsC _ _ kt kf => lv_if_le hx hb hdg ht kt kf) k
theorem mv_ifi (hx : p.tables.exec = Jvm.exec) (hb : c.code = cc) {cd : Jvm.ClassFile.Cond} {off : Int} {tgt : Nat} {x y : Int32} (hdg : decode cc pc = .ok (.if_icmp cd off, 3)) (ht : (pc : Int) + off = (tgt : Int)) (k : mc_cd cd x y (mc_V p l e R s m args below meth c Q D cl b cA md tab nL n0 dn tgt ls r n M L) (mc_V p l e R s m args below meth c Q D cl b cA md tab nL n0 dn (pc + 3) ls r n M L)) : mc_V p l e R s m args below meth c Q D cl b cA md tab nL n0 dn pc ls (.int y :: .int x :: r) n M L := by
  cases cd with
  | eq => exact mv_br (fun H locs lsC _ _ kt kf => lv_icmp_eq hx hb hdg ht kt kf) k
  | ne => exact mv_br (fun H locs lsC _ _ kt kf => lv_icmp_ne hx hb hdg ht kt kf) k
  | lt => exact mv_br (fun H locs lsC _ _ kt kf => lv_icmp_lt hx hb hdg ht kt kf) k
  | ge => exact mv_br (fun H locs lsC _ _ kt kf => lv_icmp_ge hx hb hdg ht kt kf) k
  | gt => exact mv_br (fun H locs lsC _ _ kt kf => lv_icmp_gt hx hb hdg ht kt kf) k
  | le => exact mv_br (fun H locs lsC _ _ kt kf => lv_icmp_le hx hb hdg ht kt kf) k
/-! fields -/
def mc_lnk (own : String) (idx : Nat) (t : String × String × String × Bool) (args : Array Value) (s : State) : Prop :=
  (Cond.fieldLink own idx t.1 t.2.1 t.2.2.1).before args s = true ∨ ∃ host, (Cond.fieldLinkNest own idx t.1 t.2.1 t.2.2.1 host).before args s = true
theorem mv_get (hx : p.tables.exec = Jvm.exec) (hb : c.code = cc) {own : String} {Ts : List Cond} (hts : ∀ w ∈ Ts, w.before args s = true) (hown : s.vm.findClass own = some m.cls) (hK : va_K D cl (mc_ty cA) s)
    {C : String} {T : u_T} {N ci k idx : Nat} (hin : ∀ w ∈ u_ws C T N, w ∈ Ts) (hc : cl[ci]? = some (C, T, N)) (hk : k < N) (hlink : mc_lnk own idx (T k) args s)
    {a fd : Nat} {fds : List Nat} (ha : tab[a]? = some (.inr (ci, fds))) (hfd : fds[k]? = some fd) (hdg : decode cc pc = .ok (.getfield idx, 3)) (hn : a < n)
    (kk : mc_V p l e R s m args below meth c Q D cl b cA md tab nL n0 dn (pc + 3) ls (mc_fv md M a k fd :: r) n M L) : mc_V p l e R s m args below meth c Q D cl b cA md tab nL n0 dn pc ls (.ref a :: r) n M L := by
  intro h0 hf H locs lsC hP hz hS hl
  have he : (mc_wd b cA md tab n M L)[a]? = some (b + a, .inr (ci, (fds.mapIdx (fun k fd => mc_fv md M a k fd)).map (mc_ga b))) := mc_wd_in hn ha
  have hv : ((fds.mapIdx (fun k fd => mc_fv md M a k fd)).map (mc_ga b))[k]? = some (mc_ga b (mc_fv md M a k fd)) := by
    rw [List.getElem?_map, List.getElem?_mapIdx, hfd]
    rfl
  rcases hlink with h1 | ⟨host, h1⟩
  · exact va_get hx hb hts hin hown hK hP a he hc k hk h1 (fun _ h => h) hv hdg (kk h0 hf H locs lsC hP hz hS hl)
  · exact va_getN hx hb hts hin hown hK hP a he hc k hk h1 (fun _ h => h) hv hdg (kk h0 hf H locs lsC hP hz hS hl)
theorem mv_put (hx : p.tables.exec = Jvm.exec) (hb : c.code = cc) {own : String} {Ts : List Cond} (hts : ∀ w ∈ Ts, w.before args s = true) (hown : s.vm.findClass own = some m.cls) (hK : va_K D cl (mc_ty cA) s)
    {C : String} {T : u_T} {N ci k idx : Nat} (hin : ∀ w ∈ u_ws C T N, w ∈ Ts) (hc : cl[ci]? = some (C, T, N)) (hk : k < N)
    (ty0 : Nat → FieldType) (hty : ∀ k, k < N → parseFieldDescriptor (T k).2.2.1 = some (ty0 k)) (hnm : ∀ a, a < N → ∀ b, b < N → a ≠ b → (T a).2.1 ≠ (T b).2.1)
    (hlink : ((T k).2.2.2 = false ∧ mc_lnk own idx (T k) args s) ∨ ((T k).2.2.2 = true ∧ (T k).1 = own ∧ meth.name = "<init>" ∧ (Cond.fieldLink own idx (T k).1 (T k).2.1 (T k).2.2.1).before args s = true))
    {a fd : Nat} {fds : List Nat} (ha : tab[a]? = some (.inr (ci, fds))) (hfd : fds[k]? = some fd) (hdg : decode cc pc = .ok (.putfield idx, 3)) (hn : a < n)
    {v : Value} {x : Int32} (hv : mc_fv md (mc_put M a k x) a k fd = v) (hna : narrow (ty0 k) (mc_ga b v) = mc_ga b v) (hfit : fits (ty0 k) (mc_ga b v) = true)
    (kk : mc_V p l e R s m args below meth c Q D cl b cA md tab nL n0 dn (pc + 3) ls r n (mc_put M a k x) L) : mc_V p l e R s m args below meth c Q D cl b cA md tab nL n0 dn pc ls (v :: .ref a :: r) n M L := by
  intro h0 hf H locs lsC hP hz hS hl
  have he : (mc_wd b cA md tab n M L)[a]? = some (b + a, .inr (ci, (fds.mapIdx (fun k fd => mc_fv md M a k fd)).map (mc_ga b))) := mc_wd_in hn ha
  have hD : va_D (mc_A md b tab.length) (mc_wd b cA md tab n M L) := mc_wd_D
  have hkl : k < ((fds.mapIdx (fun k fd => mc_fv md M a k fd)).map (mc_ga b)).length := by
    rw [List.length_map, List.length_mapIdx]
    exact (List.getElem?_eq_some_iff.mp hfd).1
  have hap := va_apart (own := own) hts hin ty0 hty hnm hK hc
  obtain ⟨w, h1, cell, q1, q2, q3, q4⟩ := hP a _ he
  have hr : w = (C, T, N) := Option.some.inj (h1.symm.trans hc)
  subst hr
  obtain ⟨hSl, hfc, kC, hkC, hkind⟩ := hK.1 ci _ hc
  obtain ⟨cf, kf, fi, f, hi, hsl⟩ := hSl k hk
  have hlay := hts _ (hin _ (u_in_lay hk))
  have hst := (u_facts hfc hkC (u_lays hts hin hk) hi).1
  have hd := hty k hk
  have fin : ∀ H' : Heap, H'[b + a]? = some (cell.setSlot f.slot (mc_ga b v)) → H'.size = H.size → (∀ q, q ≠ b + a → H'[q]? = H[q]?) → W p l e R s m args below meth c H' (locs ++ [⟨b + a, f.slot⟩]) (n - n0) (mc_sl tab n - mc_sl tab n0) Q (F0 m (pc + 3) lsC (r.map (mc_ga b))) := by
    intro H' e1 e2 e3
    rw [hsl] at e1 ⊢
    have hat : va_at D cl (b + a, .inr (ci, ((fds.mapIdx (fun k fd => mc_fv md M a k fd)).map (mc_ga b)).set k (mc_ga b v))) H' := ⟨_, hc, t_OB.to (V := updV (vp_V ((fds.mapIdx (fun k fd => mc_fv md M a k fd)).map (mc_ga b))) k (mc_ga b v)) ⟨_, e1, q2, q3, t_set q4 hap hk (mc_ga b v)⟩ (fun j _ => vp_updV_set hkl (mc_ga b v) j)⟩
    have hP' := hP.set hD he hat e3
    rw [mc_set_fld hn ha hfd hv] at hP'
    exact kk h0 hf H' _ lsC hP' (fun h => by rw [e2]; exact hz h) (hS.put e2 e3 (hD.2 a _ he)) hl
  unfold u_lay at hlay
  rcases hlink with ⟨hfin, hl1⟩ | ⟨hfin, hdecl, hin2, hl1⟩
  · rw [if_neg (by rw [hfin]; decide)] at hlay
    have h6 := u_store hfc hkC hkind hlay hi hd hna hfit
    rcases hl1 with hl1 | ⟨host, hl1⟩
    · exact W.putK hx hb (f := f) ⟨hown, hl1, ⟨_, _, _, hi⟩, hst⟩ (by rw [q2]; exact h6) q1 q3 (by rw [hsl]; exact k2_hasslot (q4 k hk)) rfl rfl hdg fin
    · exact va_WputK hx hb (f := f) hown hl1 hi hst (by rw [q2]; exact h6) q1 q3 (by rw [hsl]; exact k2_hasslot (q4 k hk)) rfl rfl hdg fin
  · rw [if_pos hfin] at hlay
    have hcf : m.cls = cf := by
      obtain ⟨_, _, c', _, _, _, -, -, hf', -, -, -, hown2, -⟩ := Cond.laysFinal_spec hlay
      have e1 : c' = cf := by have := hi.symm.trans hf'; simp at this; exact this.1.symm
      rw [hdecl] at hown2
      rw [← e1]; exact Option.some.inj (hown.symm.trans hown2)
    have h6 := u_fits hfc hkC hkind (Or.inr hlay) hi hd hna hfit
    exact W.putFinK hx hb hown hl1 hi hst hcf hin2 (by rw [q2]; exact h6) q1 q3 (by rw [hsl]; exact k2_hasslot (q4 k hk)) rfl rfl hdg fin
/-! arrays -/
theorem mv_alen (hx : p.tables.exec = Jvm.exec) (hb : c.code = cc) (hK : va_K D cl (mc_ty cA) s) {a t len : Nat} (ht : t < 4) (ha : tab[a]? = some (.inl (t, len))) (hn : a < n) (hdg : decode cc pc = .ok (.arraylength, 1)) (kk : mc_V p l e R s m args below meth c Q D cl b cA md tab nL n0 dn (pc + 1) ls (.int (Int32.ofNat len) :: r) n M L) : mc_V p l e R s m args below meth c Q D cl b cA md tab nL n0 dn pc ls (.ref a :: r) n M L := by
  intro h0 hf H locs lsC hP hz hS hl
  have he := mc_wd_in (b := b) (cA := cA) (md := md) (n := n) (M := M) (L := L) hn ha
  match t, ht, he with
  | 0, _, he => exact va_alen hx hb hK hP a 0 (x := (len, .inl (M a))) he rfl rfl hdg (kk h0 hf H locs lsC hP hz hS hl)
  | 1, _, he => exact va_alen hx hb hK hP a 1 (x := (len, .inr (.inl (L a)))) he rfl rfl hdg (kk h0 hf H locs lsC hP hz hS hl)
  | 2, _, he => exact va_alen hx hb hK hP a 2 (x := (len, .inl (M a))) he rfl rfl hdg (kk h0 hf H locs lsC hP hz hS hl)
  | 3, _, he => exact va_alen hx hb hK hP a 3 (x := (len, .inl (M a))) he rfl rfl hdg (kk h0 hf H locs lsC hP hz hS hl)
theorem mv_iald (hx : p.tables.exec = Jvm.exec) (hb : c.code = cc) (hK : va_K D cl (mc_ty cA) s) {a len : Nat} {i : Int32} (ha : tab[a]? = some (.inl (0, len))) (hn : a < n) (hin : vp_in i len) (hdg : decode cc pc = .ok (.iaload, 1)) (kk : mc_V p l e R s m args below meth c Q D cl b cA md tab nL n0 dn (pc + 1) ls (.int (M a i.toNatClampNeg) :: r) n M L) : mc_V p l e R s m args below meth c Q D cl b cA md tab nL n0 dn pc ls (.int i :: .ref a :: r) n M L := by
  intro h0 hf H locs lsC hP hz hS hl
  have he : (mc_wd b cA md tab n M L)[a]? = some (b + a, .inl (cA 0, len, .inl (M a))) := mc_wd_in hn ha
  exact va_iald hx hb hK hP a 0 he rfl hin hdg (kk h0 hf H locs lsC hP hz hS hl)
theorem mv_cald (hx : p.tables.exec = Jvm.exec) (hb : c.code = cc) (hK : va_K D cl (mc_ty cA) s) {a len : Nat} {i : Int32} (ha : tab[a]? = some (.inl (2, len))) (hn : a < n) (hin : vp_in i len) (hdg : decode cc pc = .ok (.caload, 1)) (kk : mc_V p l e R s m args below meth c Q D cl b cA md tab nL n0 dn (pc + 1) ls (.int (M a i.toNatClampNeg) :: r) n M L) : mc_V p l e R s m args below meth c Q D cl b cA md tab nL n0 dn pc ls (.int i :: .ref a :: r) n M L := by
  intro h0 hf H locs lsC hP hz hS hl
  have he : (mc_wd b cA md tab n M L)[a]? = some (b + a, .inl (cA 2, len, .inl (M a))) := mc_wd_in hn ha
  exact va_cald hx hb hK hP a 2 he rfl hin hdg (kk h0 hf H locs lsC hP hz hS hl)
theorem mv_zald (hx : p.tables.exec = Jvm.exec) (hb : c.code = cc) (hK : va_K D cl (mc_ty cA) s) {a len : Nat} {i : Int32} (ha : tab[a]? = some (.inl (3, len))) (hn : a < n) (hin : vp_in i len) (hdg : decode cc pc = .ok (.baload, 1)) (kk : mc_V p l e R s m args below meth c Q D cl b cA md tab nL n0 dn (pc + 1) ls (.int (M a i.toNatClampNeg) :: r) n M L) : mc_V p l e R s m args below meth c Q D cl b cA md tab nL n0 dn pc ls (.int i :: .ref a :: r) n M L := by
  intro h0 hf H locs lsC hP hz hS hl
  have he : (mc_wd b cA md tab n M L)[a]? = some (b + a, .inl (cA 3, len, .inl (M a))) := mc_wd_in hn ha
  exact va_zald hx hb hK hP a 3 he rfl hin hdg (kk h0 hf H locs lsC hP hz hS hl)
theorem mv_lald (hx : p.tables.exec = Jvm.exec) (hb : c.code = cc) (hK : va_K D cl (mc_ty cA) s) {a len : Nat} {i : Int32} (ha : tab[a]? = some (.inl (1, len))) (hn : a < n) (hin : vp_in i len) (hdg : decode cc pc = .ok (.laload, 1)) (kk : mc_V p l e R s m args below meth c Q D cl b cA md tab nL n0 dn (pc + 1) ls (.long (L a i.toNatClampNeg) :: r) n M L) : mc_V p l e R s m args below meth c Q D cl b cA md tab nL n0 dn pc ls (.int i :: .ref a :: r) n M L := by
  intro h0 hf H locs lsC hP hz hS hl
  have he : (mc_wd b cA md tab n M L)[a]? = some (b + a, .inl (cA 1, len, .inr (.inl (L a)))) := mc_wd_in hn ha
  exact va_lald hx hb hK hP a 1 he rfl hin hdg (kk h0 hf H locs lsC hP hz hS hl)
theorem mv_ast {a len t : Nat} {j : Int32} {x : Int32} {H H1 : Heap} {locs : List Loc} (ha : tab[a]? = some (.inl (t, len))) (ht : t ≠ 1) (hn : a < n) (hP : va_P D cl (mc_wd b cA md tab n M L) H) (hS : va_S (mc_A md b tab.length) s.heap H locs)
    (e1 : H1[b + a]? = some ((arrV (cA t) len (fun q => .int (M a q))).setSlot j.toNatClampNeg (.int x))) (z : H1.size = H.size) (oq : ∀ q : Nat, q ≠ b + a → H1[q]? = H[q]?) :
    va_P D cl (mc_wd b cA md tab n (mc_put M a j.toNatClampNeg x) L) H1 ∧ va_S (mc_A md b tab.length) s.heap H1 (locs ++ [⟨b + a, j.toNatClampNeg⟩]) := by
  have he : (mc_wd b cA md tab n M L)[a]? = some (b + a, .inl (cA t, len, .inl (M a))) := by
    rw [mc_wd_in hn ha]
    simp [mc_cell, ht, mc_gE]
  have hD : va_D (mc_A md b tab.length) (mc_wd b cA md tab n M L) := mc_wd_D
  have hat : va_at D cl (b + a, .inl (cA t, len, .inl (upd (M a) j.toNatClampNeg x))) H1 := by
    show H1[b + a]? = some (vp_cell _ _)
    rw [e1, vp_cell_i, arrV_store]
    congr 2
    funext q
    by_cases hq : q = j.toNatClampNeg
    · subst hq
      simp [updV, upd]
    · simp [updV, upd, hq]
  have h := hP.set hD he hat oq
  rw [mc_set_arr hn ha ht] at h
  exact ⟨h, hS.put z oq (hD.2 a _ he)⟩
theorem mv_iast (hx : p.tables.exec = Jvm.exec) (hb : c.code = cc) (hK : va_K D cl (mc_ty cA) s) {a len : Nat} {i x : Int32} (ha : tab[a]? = some (.inl (0, len))) (hn : a < n) (hin : vp_in i len) (hdg : decode cc pc = .ok (.iastore, 1)) (kk : mc_V p l e R s m args below meth c Q D cl b cA md tab nL n0 dn (pc + 1) ls r n (mc_put M a i.toNatClampNeg x) L) : mc_V p l e R s m args below meth c Q D cl b cA md tab nL n0 dn pc ls (.int x :: .int i :: .ref a :: r) n M L := by
  intro h0 hf H locs lsC hP hz hS hl
  have he : (mc_wd b cA md tab n M L)[a]? = some (b + a, .inl (cA 0, len, .inl (M a))) := mc_wd_in hn ha
  refine W.iast hx hb (hP a _ he) ((hK.2 0 _ rfl).1 len (fun j => .int (M a j))) (fun q => by cases q) (by show ¬ (i < 0 ∨ (arrV _ _ _).slots.size ≤ _); rw [arrV_size]; exact hin) rfl rfl hdg fun H1 e1 z oq => ?_
  obtain ⟨h1, h2⟩ := mv_ast ha (by decide) hn hP hS e1 z oq
  exact kk h0 hf H1 _ lsC h1 (fun h => by rw [z]; exact hz h) h2 hl
theorem mv_cast (hx : p.tables.exec = Jvm.exec) (hb : c.code = cc) (hK : va_K D cl (mc_ty cA) s) {a len : Nat} {i x : Int32} (ha : tab[a]? = some (.inl (2, len))) (hn : a < n) (hin : vp_in i len) (hdg : decode cc pc = .ok (.castore, 1)) (kk : mc_V p l e R s m args below meth c Q D cl b cA md tab nL n0 dn (pc + 1) ls r n (mc_put M a i.toNatClampNeg (vp_nar .char x)) L) : mc_V p l e R s m args below meth c Q D cl b cA md tab nL n0 dn pc ls (.int x :: .int i :: .ref a :: r) n M L := by
  intro h0 hf H locs lsC hP hz hS hl
  have he : (mc_wd b cA md tab n M L)[a]? = some (b + a, .inl (cA 2, len, .inl (M a))) := mc_wd_in hn ha
  refine W.cast hx hb (hP a _ he) ((hK.2 2 _ rfl).1 len (fun j => .int (M a j))) (fun q => by cases q) (by show ¬ (i < 0 ∨ (arrV _ _ _).slots.size ≤ _); rw [arrV_size]; exact hin) rfl rfl hdg fun H1 e1 z oq => ?_
  obtain ⟨h1, h2⟩ := mv_ast (x := vp_nar .char x) ha (by decide) hn hP hS e1 z oq
  exact kk h0 hf H1 _ lsC h1 (fun h => by rw [z]; exact hz h) h2 hl
theorem mv_zast (hx : p.tables.exec = Jvm.exec) (hb : c.code = cc) (hK : va_K D cl (mc_ty cA) s) {a len : Nat} {i x : Int32} (ha : tab[a]? = some (.inl (3, len))) (hn : a < n) (hin : vp_in i len) (hdg : decode cc pc = .ok (.bastore, 1)) (kk : mc_V p l e R s m args below meth c Q D cl b cA md tab nL n0 dn (pc + 1) ls r n (mc_put M a i.toNatClampNeg (vp_nar .boolean x)) L) : mc_V p l e R s m args below meth c Q D cl b cA md tab nL n0 dn pc ls (.int x :: .int i :: .ref a :: r) n M L := by
  intro h0 hf H locs lsC hP hz hS hl
  have he : (mc_wd b cA md tab n M L)[a]? = some (b + a, .inl (cA 3, len, .inl (M a))) := mc_wd_in hn ha
  refine W.zast hx hb (hP a _ he) ((hK.2 3 _ rfl).1 len (fun j => .int (M a j))) (fun q => by cases q) (by show ¬ (i < 0 ∨ (arrV _ _ _).slots.size ≤ _); rw [arrV_size]; exact hin) rfl rfl hdg fun H1 e1 z oq => ?_
  obtain ⟨h1, h2⟩ := mv_ast (x := vp_nar .boolean x) ha (by decide) hn hP hS e1 z oq
  exact kk h0 hf H1 _ lsC h1 (fun h => by rw [z]; exact hz h) h2 hl
theorem mv_last (hx : p.tables.exec = Jvm.exec) (hb : c.code = cc) (hK : va_K D cl (mc_ty cA) s) {a len : Nat} {i : Int32} {x : Int64} (ha : tab[a]? = some (.inl (1, len))) (hn : a < n) (hin : vp_in i len) (hdg : decode cc pc = .ok (.lastore, 1)) (kk : mc_V p l e R s m args below meth c Q D cl b cA md tab nL n0 dn (pc + 1) ls r n M (mc_putL L a i.toNatClampNeg x)) : mc_V p l e R s m args below meth c Q D cl b cA md tab nL n0 dn pc ls (.long x :: .int i :: .ref a :: r) n M L := by
  intro h0 hf H locs lsC hP hz hS hl
  have he : (mc_wd b cA md tab n M L)[a]? = some (b + a, .inl (cA 1, len, .inr (.inl (L a)))) := mc_wd_in hn ha
  have hD : va_D (mc_A md b tab.length) (mc_wd b cA md tab n M L) := mc_wd_D
  refine W.last hx hb (hP a _ he) ((hK.2 1 _ rfl).1 len (fun j => .long (L a j))) (fun q => by cases q) (by show ¬ (i < 0 ∨ (arrV _ _ _).slots.size ≤ _); rw [arrV_size]; exact hin) rfl rfl hdg fun H1 e1 z oq => ?_
  have hat : va_at D cl (b + a, .inl (cA 1, len, .inr (.inl (vp_updL (L a) i.toNatClampNeg x)))) H1 := by
    show H1[b + a]? = some (vp_cell _ _)
    rw [e1]
    rw [vp_cell_l, vp_cell_l, arrV_store]
    congr 2
    funext q
    by_cases hq : q = i.toNatClampNeg
    · subst hq
      simp [updV, vp_updL]
    · simp [updV, vp_updL, hq]
  have h := hP.set hD he hat oq
  rw [mc_set_arrL hn ha] at h
  exact kk h0 hf H1 _ lsC h (fun h => by rw [z]; exact hz h) (hS.put z oq (hD.2 a _ he)) hl
end MVS
