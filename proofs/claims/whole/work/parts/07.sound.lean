/-- a row of a method's table is right: its length, its target, its constant -/
def mc_tt (t : Nat) : FieldType := match t with
  | 0 => .int
  | 1 => .long
  | 2 => .char
  | _ => .boolean
def mc_ok (nL pc : Nat) (x : Instr) (len tgt : Nat) (v : Int32) : Bool := match x with
  | .aload _ => len == 2
  | .iload _ => len == 2
  | .lload _ => len == 2
  | .istore i => len == 2 && decide (i < nL)
  | .astore i => len == 2 && decide (i < nL)
  | .lstore i => len == 2 && decide (i + 1 < nL)
  | .istore_n i => len == 1 && decide (i.val < nL)
  | .astore_n i => len == 1 && decide (i.val < nL)
  | .lstore_n i => len == 1 && decide (i.val + 1 < nL)
  | .iinc i z => len == 3 && decide (i < nL) && decide (Int32.ofInt z = v)
  | .iconst z => len == 1 && decide (Int32.ofInt z = v)
  | .bipush z => len == 2 && decide ((Int8.ofInt z).toInt32 = v)
  | .sipush z => len == 3 && decide ((Int16.ofInt z).toInt32 = v)
  | .ldc _ => len == 2
  | .ldc2_w _ => len == 3
  | .ifCond _ off => len == 3 && decide ((pc : Int) + off = (tgt : Int))
  | .if_icmp _ off => len == 3 && decide ((pc : Int) + off = (tgt : Int))
  | .goto off => len == 3 && decide ((pc : Int) + off = (tgt : Int))
  | .tableswitch .. => true
  | .lookupswitch .. => true
  | .getfield _ => len == 3
  | .putfield _ => len == 3
  | .invokevirtual _ => len == 3
  | .invokestatic _ => len == 3
  | .invokespecial _ => len == 3
  | .new _ => len == 3
  | .newarray a => len == 2 && decide (tgt < 4) && decide (newarray.typeOf a = mc_tt tgt)
  | _ => len == 1
/-- a switch's row is right -/
def mc_swT (pc : Nat) (cs : List (Int32 × Nat)) (d : Nat) (dflt lo hi : Int) (offs : Array Int) : Bool :=
  decide ((pc : Int) + dflt = (d : Int)) && decide (hi = lo + cs.length - 1) && (List.range cs.length).all (fun k => match cs[k]?, offs[k]? with
    | some (v, t), some off => decide (v.toInt = lo + k) && decide ((pc : Int) + off = (t : Int))
    | _, _ => false)
theorem mc_fi_at {x : Int32} {d : Nat} : ∀ (cs : List (Int32 × Nat)) (lo : Int) (_ : ∀ (k : Nat) (v : Int32) (t : Nat), cs[k]? = some (v, t) → v.toInt = lo + (k : Int)), (∀ (k t : Nat), cs[k]? = some (x, t) → mc_fi x cs d = t) ∧ ((∀ (k : Nat) (v : Int32) (t : Nat), cs[k]? = some (v, t) → x ≠ v) → mc_fi x cs d = d)
  | [], lo, h => ⟨fun k t hk => by simp at hk, fun _ => rfl⟩
  | (v, t) :: r, lo, h => by
    have hr : ∀ (k : Nat) (v : Int32) (t : Nat), r[k]? = some (v, t) → v.toInt = (lo + 1) + (k : Int) := fun k v' t' hk => by
      have := h (k + 1) v' t' (by simpa using hk)
      omega
    obtain ⟨i1, i2⟩ := mc_fi_at (x := x) (d := d) r (lo + 1) hr
    refine ⟨fun k t' hk => ?_, fun hne => ?_⟩
    · cases k with
      | zero =>
        have : (v, t) = (x, t') := by simpa using hk
        cases this
        simp [mc_fi]
      | succ k =>
        have hk' : r[k]? = some (x, t') := by simpa using hk
        have e1 := hr k x t' hk'
        have e2 := h 0 v t (by simp)
        have hv : ¬ x = v := fun z => by
          rw [z] at e1
          omega
        unfold mc_fi
        rw [if_neg hv]
        exact i1 k t' hk'
    · unfold mc_fi
      rw [if_neg (hne 0 v t (by simp))]
      exact i2 (fun k v' t' hk => hne (k + 1) v' t' (by simpa using hk))
theorem mc_sw_mono {x : Int32} {d : Nat} {k k' : Nat → Prop} (hk : ∀ t, k t → k' t) : ∀ {cs : List (Int32 × Nat)}, mc_sw x cs d k → mc_sw x cs d k'
  | [], h => ⟨trivial, hk _ h.2⟩
  | (_, _) :: _, h => ⟨fun z => hk _ (h.1 z), fun z => mc_sw_mono hk (h.2 z)⟩
def mc_swL (pc : Nat) (d : Nat) (dflt : Int) : List (Int32 × Nat) → List (Int × Int) → Bool
  | [], [] => decide ((pc : Int) + dflt = (d : Int))
  | (v, t) :: cs, (a, o) :: ps => decide (v.toInt = a) && decide ((pc : Int) + o = (t : Int)) && mc_swL pc d dflt cs ps
  | _, _ => false
theorem mc_swL_e {pc d : Nat} {dflt : Int} {x : Int32} : ∀ (cs : List (Int32 × Nat)) (ps : List (Int × Int)), mc_swL pc d dflt cs ps = true → (pc : Int) + Op.lookupswitch.offset ps dflt x.toInt = (mc_fi x cs d : Int)
  | [], [], h => by
    simp only [mc_swL, decide_eq_true_eq] at h
    exact h
  | (v, t) :: cs, (a, o) :: ps, h => by
    simp only [mc_swL, Bool.and_eq_true, decide_eq_true_eq] at h
    obtain ⟨⟨h1, h2⟩, h3⟩ := h
    unfold mc_fi
    by_cases hv : x = v
    · subst hv
      rw [if_pos rfl, Op.lookupswitch.offset_cons, if_pos h1.symm]
      exact h2
    · rw [if_neg hv, lv_osw hv h1]
      exact mc_swL_e cs ps h3
  | [], _ :: _, h => by simp [mc_swL] at h
  | _ :: _, [], h => by simp [mc_swL] at h
section MVT
variable {p : Program} {l : Launch} {e : Env} {R : Room} {s : State} {m : MethodId} {args : Array Value} {below : List Frame} {meth : Method} {c : Code} {Q : State → Prop}
variable {D : va_G} {cl : List vw_C} {b : Nat} {cA : Nat → ClassId} {md : Bool} {tab : List mc_D} {nL n0 dn : Nat}
variable {cc : ByteArray} {pc : Nat} {ls : List (Option Value)} {st r : List Value} {n : Nat} {M : mc_M} {L : mc_L}
theorem mv_tsw (hx : p.tables.exec = Jvm.exec) (hb : c.code = cc) {cs : List (Int32 × Nat)} {d len : Nat} {dflt lo hi : Int} {offs : Array Int} {x : Int32} (hdg : decode cc pc = .ok (.tableswitch dflt lo hi offs, len)) (hw : mc_swT pc cs d dflt lo hi offs = true) (k : mc_sw x cs d fun t => mc_V p l e R s m args below meth c Q D cl b cA md tab nL n0 dn t ls r n M L) : mc_V p l e R s m args below meth c Q D cl b cA md tab nL n0 dn pc ls (.int x :: r) n M L := by
  have hk := mc_sw_e k
  unfold mc_swT at hw
  simp only [Bool.and_eq_true, decide_eq_true_eq, List.all_eq_true, List.mem_range] at hw
  obtain ⟨⟨w1, w2⟩, w3⟩ := hw
  have at' : ∀ (j : Nat) (v : Int32) (t : Nat), cs[j]? = some (v, t) → ∃ off, offs[j]? = some off ∧ v.toInt = lo + (j : Int) ∧ (pc : Int) + off = (t : Int) := by
    intro j v t hj
    have hjl : j < cs.length := (List.getElem?_eq_some_iff.mp hj).1
    have h3 := w3 j hjl
    rw [hj] at h3
    cases ho : offs[j]? with
    | none => rw [ho] at h3; simp at h3
    | some off =>
      rw [ho] at h3
      simp only [Bool.and_eq_true, decide_eq_true_eq] at h3
      exact ⟨off, rfl, h3.1, h3.2⟩
  obtain ⟨i1, i2⟩ := mc_fi_at (x := x) (d := d) cs lo (fun j v t hj => by obtain ⟨_, _, h, _⟩ := at' j v t hj; exact h)
  by_cases hr : x.toInt < lo ∨ hi < x.toInt
  · have e : mc_fi x cs d = d := i2 (fun j v t hj z => by
      obtain ⟨_, _, h, _⟩ := at' j v t hj
      have hjl : j < cs.length := (List.getElem?_eq_some_iff.mp hj).1
      rw [← z] at h
      omega)
    rw [e] at hk
    exact mv_go (fun H locs lsC _ _ _ kk => lv_tableOut hx hb hdg hr w1 kk) hk
  · have hjl : (x.toInt - lo).toNat < cs.length := by omega
    obtain ⟨⟨v, t⟩, hj⟩ : ∃ q, cs[(x.toInt - lo).toNat]? = some q := ⟨_, List.getElem?_eq_getElem hjl⟩
    obtain ⟨off, ho, h1, h2⟩ := at' _ v t hj
    have hv : v = x := Int32.toInt_inj.mp (by rw [h1]; omega)
    subst hv
    rw [i1 _ t hj] at hk
    exact mv_go (fun H locs lsC _ _ _ kk => lv_tableIn hx hb hdg (by omega) (by omega) ho h2 kk) hk
theorem mv_lsw (hx : p.tables.exec = Jvm.exec) (hb : c.code = cc) {cs : List (Int32 × Nat)} {d len : Nat} {dflt : Int} {ps : Array (Int × Int)} {x : Int32} (hdg : decode cc pc = .ok (.lookupswitch dflt ps, len)) (hp : (ps.toList.zip (ps.toList.drop 1)).all (fun (a, next) => a.1 < next.1) = true) (hw : mc_swL pc d dflt cs ps.toList = true) (k : mc_sw x cs d fun t => mc_V p l e R s m args below meth c Q D cl b cA md tab nL n0 dn t ls r n M L) : mc_V p l e R s m args below meth c Q D cl b cA md tab nL n0 dn pc ls (.int x :: r) n M L :=
  mv_go (fun H locs lsC _ _ _ kk => lv_lookup hx hb hdg hp rfl (mc_swL_e cs ps.toList hw) kk) (mc_sw_e k)
end MVT
/-- the world's cells are of their classes' shapes -/
def mc_fok (fd : Nat) (ty : FieldType) : Bool := match fd, ty with
  | 0, .int => true
  | 2, .boolean => true
  | 1, .object _ => true
  | _ + 3, .object _ => true
  | _ + 3, .array _ => true
  | _, _ => false
def mc_tok (cl : List vw_C) (tab : List mc_D) : Bool := tab.all fun d => match d with
  | .inl (t, _) => decide (t < 4)
  | .inr (ci, fds) => match cl[ci]? with
    | some (_, T, N) => fds.length == N && (List.range N).all (fun k => match fds[k]?, parseFieldDescriptor (T k).2.2.1 with
      | some fd, some ty => mc_fok fd ty
      | _, _ => false)
    | none => false
def mc_t0 (T : u_T) (k : Nat) : FieldType := (parseFieldDescriptor (T k).2.2.1).getD .int
theorem mc_tok_e {cl : List vw_C} {tab : List mc_D} (h : mc_tok cl tab = true) {a ci : Nat} {fds : List Nat} (ha : tab[a]? = some (.inr (ci, fds))) {C : String} {T : u_T} {N : Nat} (hc : cl[ci]? = some (C, T, N)) :
    fds.length = N ∧ (∀ k, k < N → parseFieldDescriptor (T k).2.2.1 = some (mc_t0 T k)) ∧ ∀ k fd, fds[k]? = some fd → mc_fok fd (mc_t0 T k) = true := by
  have h1 := List.all_eq_true.mp h _ (List.mem_of_getElem? ha)
  simp only [hc, Bool.and_eq_true, beq_iff_eq, List.all_eq_true, List.mem_range] at h1
  obtain ⟨h2, h3⟩ := h1
  have h4 : ∀ k, k < N → ∃ fd, fds[k]? = some fd ∧ parseFieldDescriptor (T k).2.2.1 = some (mc_t0 T k) ∧ mc_fok fd (mc_t0 T k) = true := by
    intro k hk
    have h5 := h3 k hk
    cases hf : fds[k]? with
    | none => rw [hf] at h5; simp at h5
    | some fd =>
      cases hp : parseFieldDescriptor (T k).2.2.1 with
      | none => rw [hf, hp] at h5; simp at h5
      | some ty =>
        rw [hf, hp] at h5
        have e : mc_t0 T k = ty := by unfold mc_t0; rw [hp]; rfl
        exact ⟨fd, rfl, by rw [e], by rw [e]; exact h5⟩
  refine ⟨h2, fun k hk => ?_, fun k fd hk => ?_⟩
  · obtain ⟨_, _, h6, _⟩ := h4 k hk
    exact h6
  · have hkN : k < N := by rw [← h2]; exact (List.getElem?_eq_some_iff.mp hk).1
    obtain ⟨fd', h6, _, h7⟩ := h4 k hkN
    rw [hk] at h6
    cases h6
    exact h7
theorem mc_tok_a {cl : List vw_C} {tab : List mc_D} (h : mc_tok cl tab = true) {a t len : Nat} (ha : tab[a]? = some (.inl (t, len))) : t < 4 := by
  have h1 := List.all_eq_true.mp h _ (List.mem_of_getElem? ha)
  simpa using h1
theorem mc_fok_int {fd : Nat} {ty : FieldType} {b : Nat} {z : Int32} (h : mc_fok fd ty = true) (hz : fd = 0 ∨ (fd = 2 ∧ (z = 0 ∨ z = 1))) : narrow ty (mc_ga b (.int z)) = mc_ga b (.int z) ∧ fits ty (mc_ga b (.int z)) = true := by
  rcases hz with rfl | ⟨rfl, hz⟩
  · cases ty <;> first | exact ⟨vp_nar_int z, rfl⟩ | (simp [mc_fok] at h)
  · cases ty <;> first | (rcases hz with rfl | rfl <;> exact ⟨rfl, rfl⟩) | (simp [mc_fok] at h)
theorem mc_fok_ref {fd : Nat} {ty : FieldType} {b r : Nat} (h : mc_fok fd ty = true) (h0 : fd ≠ 0) (h2 : fd ≠ 2) : narrow ty (mc_ga b (.ref r)) = mc_ga b (.ref r) ∧ fits ty (mc_ga b (.ref r)) = true := by
  match fd, h0, h2, h with
  | 1, _, _, h => cases ty <;> first | exact ⟨rfl, rfl⟩ | (simp [mc_fok] at h)
  | k + 3, _, _, h => cases ty <;> first | exact ⟨rfl, rfl⟩ | (simp [mc_fok] at h)
section MVM
variable {p : Program} {l : Launch} {e : Env} {R : Room} {s : State} {m : MethodId} {args : Array Value} {below : List Frame} {meth : Method} {c : Code} {Q : State → Prop}
variable {D : va_G} {cl : List vw_C} {b : Nat} {cA : Nat → ClassId} {md : Bool} {tab : List mc_D} {nL n0 dn : Nat}
variable {cc : ByteArray} {exn : Nat → String} {Qr : Option Value → mc_M → mc_L → Prop} {Qt : Nat → mc_M → mc_L → Prop} {ret : Option FieldType} {sh : mc_SH} {own : String} {Ts : List Cond}
theorem mc_sound (hx : p.tables.exec = Jvm.exec) (hb : c.code = cc) (hown : s.vm.findClass own = some m.cls) (hts : ∀ w ∈ Ts, w.before args s = true) (hK : va_K D cl (mc_ty cA) s) (htk : mc_tok cl tab = true)
    (hcl : ∀ (ci : Nat) (C : String) (T : u_T) (N : Nat), cl[ci]? = some (C, T, N) → (∀ w ∈ u_ws C T N, w ∈ Ts) ∧ ∀ a, a < N → ∀ b, b < N → a ≠ b → (T a).2.1 ≠ (T b).2.1)
    (hfg : ∀ idx ci k : Nat, mc_lk sh.1.1 idx = some (ci, k) → ∃ (C : String) (T : u_T) (N : Nat), cl[ci]? = some (C, T, N) ∧ k < N ∧ mc_lnk own idx (T k) args s)
    (hfp : ∀ idx ci k : Nat, mc_lk sh.1.2 idx = some (ci, k) → ∃ (C : String) (T : u_T) (N : Nat), cl[ci]? = some (C, T, N) ∧ k < N ∧ (((T k).2.2.2 = false ∧ mc_lnk own idx (T k) args s) ∨ ((T k).2.2.2 = true ∧ (T k).1 = own ∧ meth.name = "<init>" ∧ (Cond.fieldLink own idx (T k).1 (T k).2.1 (T k).2.2.1).before args s = true)))
    (hkc : ∀ i w, mc_lk sh.2.2.2.2.1 i = some w → (Cond.constant own i w).before args s = true)
    (hkl : ∀ i w, mc_lk sh.2.2.2.2.2.1 i = some w → (Cond.constantLong own i w).before args s = true)
    (hscr : ∀ sa len xs, sh.2.2.2.2.2.2.2 = some (sa, len, xs) → va_X sa len xs s s.heap ∧ sa < s.heap.size ∧ ¬ mc_A md b tab.length sa)
    (hri : ∀ pc ls x n M L, decode cc pc = .ok (.ireturn, 1) → mc_ri ret x (mc_en md n n0 dn (Qr (some (.int x)) M L)) → mc_V p l e R s m args below meth c Q D cl b cA md tab nL n0 dn pc ls [.int x] n M L)
    (hrv : ∀ pc ls n M L, decode cc pc = .ok (.return_, 1) → ret = none → mc_en md n n0 dn (Qr none M L) → mc_V p l e R s m args below meth c Q D cl b cA md tab nL n0 dn pc ls [] n M L)
    {K : mc_K} (hKV : ∀ pc ls st n M L, K pc ls st n M L → mc_V p l e R s m args below meth c Q D cl b cA md tab nL n0 dn pc ls st n M L)
    (hcal : ∀ idx kd a dn' F, mc_lk sh.2.1 idx = some (kd, a, dn', F) → ∀ (x : Instr), (kd = 0 ∧ x = .invokevirtual idx) ∨ (kd = 1 ∧ x = .invokestatic idx) ∨ (kd = 2 ∧ x = .invokespecial idx) → ∀ pc ls av r n M L, decode cc pc = .ok (x, 3) → mc_w r ≤ 8 → av.length = a → n + dn' ≤ n0 + dn → F av n M L (fun rv M' L' => K (pc + 3) ls (rv.toList ++ r) (n + dn') M' L') → mc_V p l e R s m args below meth c Q D cl b cA md tab nL n0 dn pc ls (av.reverse ++ r) n M L)
    (hnw : ∀ i ci, mc_lk sh.2.2.1 i = some ci → md = false → ∀ (pc : Nat) ls st (n : Nat) M L fds, decode cc pc = .ok (.new i, 3) → tab[n]? = some (.inr (ci, fds)) → n < n0 + dn → K (pc + 3) ls (.ref n :: st) (n + 1) (mc_set M n (fun _ => 0)) L → mc_V p l e R s m args below meth c Q D cl b cA md tab nL n0 dn pc ls st n M L)
    (hna : md = false → ∀ a (t len pc : Nat) ls r (n : Nat) M L, decode cc pc = .ok (.newarray a, 2) → t < 4 → newarray.typeOf a = mc_tt t → tab[n]? = some (.inl (t, len)) → n < n0 + dn → K (pc + 2) ls (.ref n :: r) (n + 1) (mc_set M n (fun _ => 0)) (mc_setL L n (fun _ => 0)) → mc_V p l e R s m args below meth c Q D cl b cA md tab nL n0 dn pc ls (.int (Int32.ofNat len) :: r) n M L)
    {x : Instr} {len tgt : Nat} {v : Int32} {pc : Nat} {ls : List (Option Value)} {st : List Value} {n : Nat} {M : mc_M} {L : mc_L} (hdg : decode cc pc = .ok (x, len)) (hok : mc_ok nL pc x len tgt v = true)
    (hex : ∀ i k, x = .new i → mc_lk sh.2.2.2.1 i = some k → md = true → n < n0 + dn → Qt k M L → mc_V p l e R s m args below meth c Q D cl b cA md tab nL n0 dn pc ls [] n M L)
    (hsw : ∀ cs d dflt lo hi offs, x = .tableswitch dflt lo hi offs → mc_lk sh.2.2.2.2.2.2.1 pc = some (cs, d) → mc_swT pc cs d dflt lo hi offs = true)
    (hswL : ∀ cs d dflt ps, x = .lookupswitch dflt ps → mc_lk sh.2.2.2.2.2.2.1 pc = some (cs, d) → (ps.toList.zip (ps.toList.drop 1)).all (fun (a, next) => a.1 < next.1) = true ∧ mc_swL pc d dflt cs ps.toList = true)
    (h : mc_step md tab n0 dn ret sh Qr Qt K x tgt v pc ls st n M L) : mc_V p l e R s m args below meth c Q D cl b cA md tab nL n0 dn pc ls st n M L := by
  cases x with
  | aload i =>
    simp only [mc_ok, beq_iff_eq] at hok
    subst hok
    simp only [mc_step] at h
    obtain ⟨w, a, ha, hv, k⟩ := mc_lr_e h b
    refine mv_go (fun H locs lsC _ _ hl kk => lv_aload hx hb hdg (x := a) (by rw [← hv]; exact mc_lv_at hl ha) ?_) (hKV _ _ _ _ _ _ k)
    rw [← hv]
    exact kk
  | aload_n i =>
    simp only [mc_ok, beq_iff_eq] at hok
    subst hok
    simp only [mc_step] at h
    obtain ⟨w, a, ha, hv, k⟩ := mc_lr_e h b
    refine mv_go (fun H locs lsC _ _ hl kk => lv_aload_n hx hb hdg rfl (x := a) (by rw [← hv]; exact mc_lv_at hl ha) ?_) (hKV _ _ _ _ _ _ k)
    rw [← hv]
    exact kk
  | iload i =>
    simp only [mc_ok, beq_iff_eq] at hok
    subst hok
    obtain ⟨a, ha, k⟩ := mc_li_e h
    exact mv_go (fun H locs lsC _ _ hl kk => lv_iload hx hb hdg (mc_lv_at hl ha) kk) (hKV _ _ _ _ _ _ k)
  | iload_n i =>
    simp only [mc_ok, beq_iff_eq] at hok
    subst hok
    obtain ⟨a, ha, k⟩ := mc_li_e h
    exact mv_go (fun H locs lsC _ _ hl kk => lv_iload_n hx hb hdg rfl (mc_lv_at hl ha) kk) (hKV _ _ _ _ _ _ k)
  | lload i =>
    simp only [mc_ok, beq_iff_eq] at hok
    subst hok
    obtain ⟨a, ha, k⟩ := mc_ll_e h
    exact mv_go (fun H locs lsC _ _ hl kk => lv_lload hx hb hdg (mc_lv_at hl ha) kk) (hKV _ _ _ _ _ _ k)
  | lload_n i =>
    simp only [mc_ok, beq_iff_eq] at hok
    subst hok
    obtain ⟨a, ha, k⟩ := mc_ll_e h
    exact mv_go (fun H locs lsC _ _ hl kk => lv_lload_n hx hb hdg rfl (mc_lv_at hl ha) kk) (hKV _ _ _ _ _ _ k)
  | istore i =>
    simp only [mc_ok, Bool.and_eq_true, beq_iff_eq, decide_eq_true_eq] at hok
    obtain ⟨rfl, hi⟩ := hok
    obtain ⟨a, r, rfl, k⟩ := mc_pi_e h
    exact mv_st1 (fun H locs lsC _ _ hl kk => lv_istore hx hb hdg hl hi rfl kk) (hKV _ _ _ _ _ _ k)
  | istore_n i =>
    simp only [mc_ok, Bool.and_eq_true, beq_iff_eq, decide_eq_true_eq] at hok
    obtain ⟨rfl, hi⟩ := hok
    obtain ⟨a, r, rfl, k⟩ := mc_pi_e h
    exact mv_st1 (fun H locs lsC _ _ hl kk => lv_istore_n hx hb hdg rfl hl hi rfl kk) (hKV _ _ _ _ _ _ k)
  | astore i =>
    simp only [mc_ok, Bool.and_eq_true, beq_iff_eq, decide_eq_true_eq] at hok
    obtain ⟨rfl, hi⟩ := hok
    obtain ⟨a, r, rfl, k⟩ := mc_pr_e h
    exact mv_st1 (fun H locs lsC _ _ hl kk => lv_astore hx hb hdg hl hi rfl kk) (hKV _ _ _ _ _ _ k)
  | astore_n i =>
    simp only [mc_ok, Bool.and_eq_true, beq_iff_eq, decide_eq_true_eq] at hok
    obtain ⟨rfl, hi⟩ := hok
    obtain ⟨a, r, rfl, k⟩ := mc_pr_e h
    exact mv_st1 (fun H locs lsC _ _ hl kk => lv_astore_n hx hb hdg rfl hl hi rfl kk) (hKV _ _ _ _ _ _ k)
  | lstore i =>
    simp only [mc_ok, Bool.and_eq_true, beq_iff_eq, decide_eq_true_eq] at hok
    obtain ⟨rfl, hi⟩ := hok
    obtain ⟨a, r, rfl, k⟩ := mc_pl_e h
    exact mv_st2 (fun H locs lsC _ _ hl kk => lv_lstore hx hb hdg hl hi rfl kk) (hKV _ _ _ _ _ _ k)
  | lstore_n i =>
    simp only [mc_ok, Bool.and_eq_true, beq_iff_eq, decide_eq_true_eq] at hok
    obtain ⟨rfl, hi⟩ := hok
    obtain ⟨a, r, rfl, k⟩ := mc_pl_e h
    exact mv_st2 (fun H locs lsC _ _ hl kk => lv_lstore_n hx hb hdg rfl hl hi rfl kk) (hKV _ _ _ _ _ _ k)
  | iinc i z =>
    simp only [mc_ok, Bool.and_eq_true, beq_iff_eq, decide_eq_true_eq] at hok
    obtain ⟨⟨rfl, hi⟩, hv⟩ := hok
    obtain ⟨a, ha, k⟩ := mc_li_e h
    exact mv_iinc hx hb hdg hi ha hv (hKV _ _ _ _ _ _ k)
  | iconst z =>
    simp only [mc_ok, Bool.and_eq_true, beq_iff_eq, decide_eq_true_eq] at hok
    obtain ⟨rfl, hv⟩ := hok
    exact mv_go (fun H locs lsC _ _ hl kk => lv_iconst hx hb hdg hv kk) (hKV _ _ _ _ _ _ h)
  | bipush z =>
    simp only [mc_ok, Bool.and_eq_true, beq_iff_eq, decide_eq_true_eq] at hok
    obtain ⟨rfl, hv⟩ := hok
    exact mv_go (fun H locs lsC _ _ hl kk => lv_bipush hx hb hdg hv kk) (hKV _ _ _ _ _ _ h)
  | sipush z =>
    simp only [mc_ok, Bool.and_eq_true, beq_iff_eq, decide_eq_true_eq] at hok
    obtain ⟨rfl, hv⟩ := hok
    exact mv_go (fun H locs lsC _ _ hl kk => lv_sipush hx hb hdg hv kk) (hKV _ _ _ _ _ _ h)
  | lconst i =>
    simp only [mc_ok, beq_iff_eq] at hok
    subst hok
    match i, hdg, h with
    | 0, hdg, h => exact mv_go (fun H locs lsC _ _ hl kk => lv_lconst (v := 0) hx hb hdg rfl kk) (hKV _ _ _ _ _ _ h)
    | 1, hdg, h => exact mv_go (fun H locs lsC _ _ hl kk => lv_lconst (v := 1) hx hb hdg rfl kk) (hKV _ _ _ _ _ _ h)
  | ldc i =>
    simp only [mc_ok, beq_iff_eq] at hok
    subst hok
    simp only [mc_step] at h
    split at h
    · next w hw => exact mv_go (fun H locs lsC _ _ hl kk => lv_ldc hx hb hown (hkc i w hw) hdg kk) (hKV _ _ _ _ _ _ h)
    · exact h.elim
  | ldc2_w i =>
    simp only [mc_ok, beq_iff_eq] at hok
    subst hok
    simp only [mc_step] at h
    split at h
    · next w hw => exact mv_go (fun H locs lsC _ _ hl kk => lv_ldc2 hx hb hown (hkl i w hw) hdg kk) (hKV _ _ _ _ _ _ h)
    · exact h.elim
  | iadd =>
    simp only [mc_ok, beq_iff_eq] at hok
    subst hok
    obtain ⟨x, y, r, rfl, k⟩ := mc_pii_e h
    exact mv_go (fun H locs lsC _ _ hl kk => lv_iadd hx hb hdg kk) (hKV _ _ _ _ _ _ k)
  | isub =>
    simp only [mc_ok, beq_iff_eq] at hok
    subst hok
    obtain ⟨x, y, r, rfl, k⟩ := mc_pii_e h
    exact mv_go (fun H locs lsC _ _ hl kk => lv_isub hx hb hdg kk) (hKV _ _ _ _ _ _ k)
  | imul =>
    simp only [mc_ok, beq_iff_eq] at hok
    subst hok
    obtain ⟨x, y, r, rfl, k⟩ := mc_pii_e h
    exact mv_go (fun H locs lsC _ _ hl kk => lv_imul hx hb hdg kk) (hKV _ _ _ _ _ _ k)
  | iand =>
    simp only [mc_ok, beq_iff_eq] at hok
    subst hok
    obtain ⟨x, y, r, rfl, k⟩ := mc_pii_e h
    exact mv_go (fun H locs lsC _ _ hl kk => lv_iand hx hb hdg kk) (hKV _ _ _ _ _ _ k)
  | ior =>
    simp only [mc_ok, beq_iff_eq] at hok
    subst hok
    obtain ⟨x, y, r, rfl, k⟩ := mc_pii_e h
    exact mv_go (fun H locs lsC _ _ hl kk => lv_ior hx hb hdg kk) (hKV _ _ _ _ _ _ k)
  | ixor =>
    simp only [mc_ok, beq_iff_eq] at hok
    subst hok
    obtain ⟨x, y, r, rfl, k⟩ := mc_pii_e h
    exact mv_go (fun H locs lsC _ _ hl kk => lv_ixor hx hb hdg kk) (hKV _ _ _ _ _ _ k)
  | ishl =>
    simp only [mc_ok, beq_iff_eq] at hok
    subst hok
    obtain ⟨x, y, r, rfl, k⟩ := mc_pii_e h
    exact mv_go (fun H locs lsC _ _ hl kk => lv_ishl hx hb hdg kk) (hKV _ _ _ _ _ _ k)
  | ishr =>
    simp only [mc_ok, beq_iff_eq] at hok
    subst hok
    obtain ⟨x, y, r, rfl, k⟩ := mc_pii_e h
    exact mv_go (fun H locs lsC _ _ hl kk => lv_ishr hx hb hdg kk) (hKV _ _ _ _ _ _ k)
  | idiv =>
    simp only [mc_ok, beq_iff_eq] at hok
    subst hok
    obtain ⟨x, y, r, rfl, hy, k⟩ := mc_pii_e h
    exact mv_go (fun H locs lsC _ _ hl kk => lv_idiv hx hb hdg hy kk) (hKV _ _ _ _ _ _ k)
  | irem =>
    simp only [mc_ok, beq_iff_eq] at hok
    subst hok
    obtain ⟨x, y, r, rfl, hy, k⟩ := mc_pii_e h
    exact mv_go (fun H locs lsC _ _ hl kk => lv_irem hx hb hdg hy kk) (hKV _ _ _ _ _ _ k)
  | ineg =>
    simp only [mc_ok, beq_iff_eq] at hok
    subst hok
    obtain ⟨x, r, rfl, k⟩ := mc_pi_e h
    exact mv_go (fun H locs lsC _ _ hl kk => lv_ineg hx hb hdg kk) (hKV _ _ _ _ _ _ k)
  | ladd =>
    simp only [mc_ok, beq_iff_eq] at hok
    subst hok
    obtain ⟨x, y, r, rfl, k⟩ := mc_pll_e h
    exact mv_go (fun H locs lsC _ _ hl kk => lv_ladd hx hb hdg kk) (hKV _ _ _ _ _ _ k)
  | lsub =>
    simp only [mc_ok, beq_iff_eq] at hok
    subst hok
    obtain ⟨x, y, r, rfl, k⟩ := mc_pll_e h
    exact mv_go (fun H locs lsC _ _ hl kk => lv_lsub hx hb hdg kk) (hKV _ _ _ _ _ _ k)
  | lmul =>
    simp only [mc_ok, beq_iff_eq] at hok
    subst hok
    obtain ⟨x, y, r, rfl, k⟩ := mc_pll_e h
    exact mv_go (fun H locs lsC _ _ hl kk => lv_lmul hx hb hdg kk) (hKV _ _ _ _ _ _ k)
  | ldiv =>
    simp only [mc_ok, beq_iff_eq] at hok
    subst hok
    obtain ⟨x, y, r, rfl, hy, k⟩ := mc_pll_e h
    exact mv_go (fun H locs lsC _ _ hl kk => lv_ldiv hx hb hdg hy kk) (hKV _ _ _ _ _ _ k)
  | lrem =>
    simp only [mc_ok, beq_iff_eq] at hok
    subst hok
    obtain ⟨x, y, r, rfl, hy, k⟩ := mc_pll_e h
    exact mv_go (fun H locs lsC _ _ hl kk => lv_lrem hx hb hdg hy kk) (hKV _ _ _ _ _ _ k)
  | lneg =>
    simp only [mc_ok, beq_iff_eq] at hok
    subst hok
    obtain ⟨x, r, rfl, k⟩ := mc_pl_e h
    exact mv_go (fun H locs lsC _ _ hl kk => lv_lneg hx hb hdg kk) (hKV _ _ _ _ _ _ k)
  | lcmp =>
    simp only [mc_ok, beq_iff_eq] at hok
    subst hok
    obtain ⟨x, y, r, rfl, k⟩ := mc_pll_e h
    exact mv_go (fun H locs lsC _ _ hl kk => W.lcmp hx hb hdg kk) (hKV _ _ _ _ _ _ k)
  | i2l =>
    simp only [mc_ok, beq_iff_eq] at hok
    subst hok
    obtain ⟨x, r, rfl, k⟩ := mc_pi_e h
    exact mv_go (fun H locs lsC _ _ hl kk => lv_i2l hx hb hdg rfl kk) (hKV _ _ _ _ _ _ k)
  | l2i =>
    simp only [mc_ok, beq_iff_eq] at hok
    subst hok
    obtain ⟨x, r, rfl, k⟩ := mc_pl_e h
    exact mv_go (fun H locs lsC _ _ hl kk => lv_l2i hx hb hdg rfl kk) (hKV _ _ _ _ _ _ k)
  | i2c =>
    simp only [mc_ok, beq_iff_eq] at hok
    subst hok
    obtain ⟨x, r, rfl, k⟩ := mc_pi_e h
    exact mv_go (fun H locs lsC _ _ hl kk => lv_i2c hx hb hdg rfl kk) (hKV _ _ _ _ _ _ k)
  | dup =>
    simp only [mc_ok, beq_iff_eq] at hok
    subst hok
    simp only [mc_step] at h
    split at h
    · exact mv_go (fun H locs lsC _ _ hl kk => lv_dup hx hb hdg rfl kk) (hKV _ _ _ _ _ _ h)
    · exact mv_go (fun H locs lsC _ _ hl kk => lv_dup hx hb hdg rfl kk) (hKV _ _ _ _ _ _ h)
    · exact h.elim
  | dup2 =>
    simp only [mc_ok, beq_iff_eq] at hok
    subst hok
    simp only [mc_step] at h
    split at h
    · exact mv_go (fun H locs lsC _ _ hl kk => lv_dup2_11 hx hb hdg rfl rfl kk) (hKV _ _ _ _ _ _ h)
    · exact mv_go (fun H locs lsC _ _ hl kk => lv_dup2_2 hx hb hdg rfl kk) (hKV _ _ _ _ _ _ h)
    · exact h.elim
  | dup_x1 =>
    simp only [mc_ok, beq_iff_eq] at hok
    subst hok
    simp only [mc_step] at h
    split at h
    · exact mv_go (fun H locs lsC _ _ hl kk => lv_dup_x1 hx hb hdg rfl rfl kk) (hKV _ _ _ _ _ _ h)
    · exact h.elim
  | pop =>
    simp only [mc_ok, beq_iff_eq] at hok
    subst hok
    simp only [mc_step] at h
    split at h
    · exact mv_go (fun H locs lsC _ _ hl kk => lv_pop (va := .int _) hx hb hdg rfl kk) (hKV _ _ _ _ _ _ h)
    · exact mv_go (fun H locs lsC _ _ hl kk => lv_pop (va := .ref _) hx hb hdg rfl kk) (hKV _ _ _ _ _ _ h)
    · exact h.elim
  | ifCond cd off =>
    simp only [mc_ok, Bool.and_eq_true, beq_iff_eq, decide_eq_true_eq] at hok
    obtain ⟨rfl, ht⟩ := hok
    obtain ⟨x, r, rfl, k⟩ := mc_pi_e h
    refine mv_if hx hb hdg ht ?_
    cases cd <;> exact ⟨fun z => hKV _ _ _ _ _ _ (k.1 z), fun z => hKV _ _ _ _ _ _ (k.2 z)⟩
  | if_icmp cd off =>
    simp only [mc_ok, Bool.and_eq_true, beq_iff_eq, decide_eq_true_eq] at hok
    obtain ⟨rfl, ht⟩ := hok
    obtain ⟨x, y, r, rfl, k⟩ := mc_pii_e h
    refine mv_ifi hx hb hdg ht ?_
    cases cd <;> exact ⟨fun z => hKV _ _ _ _ _ _ (k.1 z), fun z => hKV _ _ _ _ _ _ (k.2 z)⟩
  | goto off =>
    simp only [mc_ok, Bool.and_eq_true, beq_iff_eq, decide_eq_true_eq] at hok
    obtain ⟨rfl, ht⟩ := hok
    exact mv_go (fun H locs lsC _ _ hl kk => lv_goto hx hb hdg ht kk) (hKV _ _ _ _ _ _ h)
  | tableswitch dflt lo hi offs =>
    simp only [mc_step] at h
    split at h
    · next cs d hw =>
      obtain ⟨x, r, rfl, k⟩ := mc_pi_e h
      refine mv_tsw hx hb hdg (hsw cs d dflt lo hi offs rfl hw) ?_
      exact mc_sw_mono (fun t z => hKV _ _ _ _ _ _ z) k
    · exact h.elim
  | lookupswitch dflt ps =>
    simp only [mc_step] at h
    split at h
    · next cs d hw =>
      obtain ⟨x, r, rfl, k⟩ := mc_pi_e h
      obtain ⟨w1, w2⟩ := hswL cs d dflt ps rfl hw
      exact mv_lsw hx hb hdg w1 w2 (mc_sw_mono (fun t z => hKV _ _ _ _ _ _ z) k)
    · exact h.elim
  | getfield i =>
    simp only [mc_ok, beq_iff_eq] at hok
    subst hok
    simp only [mc_step] at h
    split at h
    · next ci k hw =>
      obtain ⟨a, r, rfl, h⟩ := mc_pr_e h
      obtain ⟨C, T, N, hc, hk, hlink⟩ := hfg i ci k hw
      intro h0 hf
      obtain ⟨fds, fd, h1, h2, h3, h4⟩ := mc_ob_e h hf
      exact mv_get hx hb hts hown hK (hcl ci C T N hc).1 hc hk hlink h1 h2 hdg h3 (hKV _ _ _ _ _ _ (mc_gf_e (kk := fun w => K (pc + 3) ls (w :: r) n M L) h4)) h0 hf
    · exact h.elim
  | putfield i =>
    simp only [mc_ok, beq_iff_eq] at hok
    subst hok
    simp only [mc_step] at h
    split at h
    · next ci k hw =>
      obtain ⟨w, a, r, rfl, h⟩ := mc_pvr_e h
      obtain ⟨C, T, N, hc, hk, hlink⟩ := hfp i ci k hw
      intro h0 hf
      obtain ⟨fds, fd, h1, h2, h3, h4⟩ := mc_ob_e h hf
      obtain ⟨t1, t2, t3⟩ := mc_tok_e htk h1 hc
      obtain ⟨x, k1, k2, k3⟩ := mc_pf_e (md := md) h4
      have t4 := t3 k fd h2
      have hnf : narrow (mc_t0 T k) (mc_ga b w) = mc_ga b w ∧ fits (mc_t0 T k) (mc_ga b w) = true := by
        rcases k3 with ⟨z, rfl, hz⟩ | ⟨r', rfl, z0, z2⟩
        · exact mc_fok_int t4 hz
        · exact mc_fok_ref t4 z0 z2
      exact mv_put hx hb hts hown hK (hcl ci C T N hc).1 hc hk (mc_t0 T) t2 (hcl ci C T N hc).2 hlink h1 h2 hdg h3 k2 hnf.1 hnf.2 (hKV _ _ _ _ _ _ k1) h0 hf
    · exact h.elim
  | arraylength =>
    simp only [mc_ok, beq_iff_eq] at hok
    subst hok
    simp only [mc_step] at h
    split at h
    · next a r =>
      split at h
      · next sa len xs hsc =>
        obtain ⟨rfl, h⟩ := h
        obtain ⟨z1, z2, z3⟩ := hscr _ _ _ hsc
        intro h0 hf H locs lsC hP hz hS hl
        exact va_slen hx hb z1 z2 z3 hS hdg (hKV _ _ _ _ _ _ h h0 hf H locs lsC hP hz hS hl)
      · exact h.elim
    · next a r =>
      split at h
      · next t len hd =>
        rw [mc_at_eq] at hd
        intro h0 hf
        obtain ⟨h1, h2⟩ := mc_in_e h hf hd
        exact mv_alen hx hb hK (mc_tok_a htk hd) hd h1 hdg (hKV _ _ _ _ _ _ h2) h0 hf
      · exact h.elim
    · exact h.elim
  | iaload =>
    simp only [mc_ok, beq_iff_eq] at hok
    subst hok
    simp only [mc_step] at h
    split at h
    · next i a r =>
      split at h
      · next sa len xs hsc =>
        obtain ⟨rfl, hin, h⟩ := h
        obtain ⟨z1, z2, z3⟩ := hscr _ _ _ hsc
        intro h0 hf H locs lsC hP hz hS hl
        exact va_sld hx hb z1 z2 z3 hS hin hdg (hKV _ _ _ _ _ _ h h0 hf H locs lsC hP hz hS hl)
      · exact h.elim
    · obtain ⟨i, a, r, rfl, h⟩ := mc_pir_e h
      intro h0 hf
      obtain ⟨len, h1, h2, h3, h4⟩ := mc_ar_e h hf
      exact mv_iald hx hb hK h1 h2 h3 hdg (hKV _ _ _ _ _ _ h4) h0 hf
  | caload =>
    simp only [mc_ok, beq_iff_eq] at hok
    subst hok
    obtain ⟨i, a, r, rfl, h⟩ := mc_pir_e h
    intro h0 hf
    obtain ⟨len, h1, h2, h3, h4⟩ := mc_ar_e h hf
    exact mv_cald hx hb hK h1 h2 h3 hdg (hKV _ _ _ _ _ _ h4) h0 hf
  | baload =>
    simp only [mc_ok, beq_iff_eq] at hok
    subst hok
    obtain ⟨i, a, r, rfl, h⟩ := mc_pir_e h
    intro h0 hf
    obtain ⟨len, h1, h2, h3, h4⟩ := mc_ar_e h hf
    exact mv_zald hx hb hK h1 h2 h3 hdg (hKV _ _ _ _ _ _ h4) h0 hf
  | laload =>
    simp only [mc_ok, beq_iff_eq] at hok
    subst hok
    obtain ⟨i, a, r, rfl, h⟩ := mc_pir_e h
    intro h0 hf
    obtain ⟨len, h1, h2, h3, h4⟩ := mc_ar_e h hf
    exact mv_lald hx hb hK h1 h2 h3 hdg (hKV _ _ _ _ _ _ h4) h0 hf
  | iastore =>
    simp only [mc_ok, beq_iff_eq] at hok
    subst hok
    obtain ⟨x, i, a, r, rfl, h⟩ := mc_piir_e h
    intro h0 hf
    obtain ⟨len, h1, h2, h3, h4⟩ := mc_ar_e h hf
    exact mv_iast hx hb hK h1 h2 h3 hdg (hKV _ _ _ _ _ _ h4) h0 hf
  | castore =>
    simp only [mc_ok, beq_iff_eq] at hok
    subst hok
    obtain ⟨x, i, a, r, rfl, h⟩ := mc_piir_e h
    intro h0 hf
    obtain ⟨len, h1, h2, h3, h4⟩ := mc_ar_e h hf
    exact mv_cast hx hb hK h1 h2 h3 hdg (hKV _ _ _ _ _ _ h4) h0 hf
  | bastore =>
    simp only [mc_ok, beq_iff_eq] at hok
    subst hok
    obtain ⟨x, i, a, r, rfl, h⟩ := mc_piir_e h
    intro h0 hf
    obtain ⟨len, h1, h2, h3, h4⟩ := mc_ar_e h hf
    exact mv_zast hx hb hK h1 h2 h3 hdg (hKV _ _ _ _ _ _ h4) h0 hf
  | lastore =>
    simp only [mc_ok, beq_iff_eq] at hok
    subst hok
    obtain ⟨x, i, a, r, rfl, h⟩ := mc_plir_e h
    intro h0 hf
    obtain ⟨len, h1, h2, h3, h4⟩ := mc_ar_e h hf
    exact mv_last hx hb hK h1 h2 h3 hdg (hKV _ _ _ _ _ _ h4) h0 hf
  | invokevirtual i =>
    simp only [mc_ok, beq_iff_eq] at hok
    subst hok
    intro h0
    obtain ⟨a, dn', F, av, r, h1, rfl, h3, h4, h5, h6⟩ := mc_call_e h h0.2
    exact hcal i 0 a dn' F h1 _ (Or.inl ⟨rfl, rfl⟩) pc ls av r n M L hdg h4 h3 h5 h6 h0
  | invokestatic i =>
    simp only [mc_ok, beq_iff_eq] at hok
    subst hok
    intro h0
    obtain ⟨a, dn', F, av, r, h1, rfl, h3, h4, h5, h6⟩ := mc_call_e h h0.2
    exact hcal i 1 a dn' F h1 _ (Or.inr (Or.inl ⟨rfl, rfl⟩)) pc ls av r n M L hdg h4 h3 h5 h6 h0
  | invokespecial i =>
    simp only [mc_ok, beq_iff_eq] at hok
    subst hok
    intro h0
    obtain ⟨a, dn', F, av, r, h1, rfl, h3, h4, h5, h6⟩ := mc_call_e h h0.2
    exact hcal i 2 a dn' F h1 _ (Or.inr (Or.inr ⟨rfl, rfl⟩)) pc ls av r n M L hdg h4 h3 h5 h6 h0
  | ireturn =>
    simp only [mc_ok, beq_iff_eq] at hok
    subst hok
    simp only [mc_step] at h
    split at h
    · exact hri _ _ _ _ _ _ hdg h
    · exact h.elim
  | return_ =>
    simp only [mc_ok, beq_iff_eq] at hok
    subst hok
    simp only [mc_step] at h
    split at h
    · exact hrv _ _ _ _ _ hdg rfl h
    · exact h.elim
  | new i =>
    simp only [mc_ok, beq_iff_eq] at hok
    subst hok
    simp only [mc_step] at h
    split at h
    · next ci hw =>
      cases hm : md with
      | true => rw [hm] at h; exact h.elim
      | false =>
        subst hm
        simp only at h
        split at h
        · next ci' fds hd =>
          rw [mc_at_eq] at hd
          split at h
          · next hbq =>
            have := Nat.eq_of_beq_eq_true hbq
            subst this
            exact hnw i ci hw rfl pc ls st n M L fds hdg hd h.1 h.2
          · exact h.elim
        · exact h.elim
    · split at h
      · next k hw =>
        split at h
        · exact hex i k rfl hw rfl h.1 h.2
        · exact h.elim
      · exact h.elim
  | newarray a =>
    simp only [mc_ok, Bool.and_eq_true, beq_iff_eq, decide_eq_true_eq] at hok
    obtain ⟨⟨rfl, ht⟩, hty⟩ := hok
    obtain ⟨x, r, rfl, hh⟩ := mc_pi_e h
    clear h
    cases hm : md with
    | true => rw [hm] at hh; exact hh.elim
    | false =>
      subst hm
      simp only at hh
      split at hh
      · next t len hd =>
        rw [mc_at_eq] at hd
        split at hh
        · next hbq =>
          have := Nat.eq_of_beq_eq_true hbq
          subst this
          obtain ⟨h1, h2, h3⟩ := hh
          subst h1
          exact hna rfl a t len pc ls r n M L hdg ht hty hd h2 h3
        · exact hh.elim
      · exact hh.elim
  | _ => exact h.elim
end MVM
