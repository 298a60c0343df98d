/-! new objects and arrays: the next cell of the world -/
def mc_small (tab : List mc_D) : Bool := tab.all fun d => match d with
  | .inl (t, n) => decide (n ≤ 10000) && decide (t < 4)
  | _ => true
theorem mc_fok_def {fd : Nat} {ty : FieldType} {M : mc_M} {i k b : Nat} (h : mc_fok fd ty = true) (hM : M i k = 0) : defaultValue ty = mc_ga b (mc_fv false M i k fd) := by
  match fd, h with
  | 0, h => cases ty <;> first | (show _ = Value.int (M i k); rw [hM]; rfl) | (simp [mc_fok] at h)
  | 2, h => cases ty <;> first | (show _ = Value.int (M i k); rw [hM]; rfl) | (simp [mc_fok] at h)
  | 1, h => cases ty <;> first | (show _ = mc_ga b (if M i k = 0 then Value.null else .ref (M i k).toNatClampNeg); rw [if_pos hM]; rfl) | (simp [mc_fok] at h)
  | r + 3, h => cases ty <;> first | (show _ = mc_ga b (if false = true then Value.ref r else if M i k = 0 then Value.null else .ref r); rw [if_neg (by decide), if_pos hM]; rfl) | (simp [mc_fok] at h)
section MVN
variable {p : Program} {l : Launch} {e : Env} {R : Room} {s : State} {m : MethodId} {args : Array Value} {below : List Frame} {meth : Method} {c : Code} {Q : State → Prop}
variable {D : va_G} {cl : List vw_C} {b : Nat} {cA : Nat → ClassId} {tab : List mc_D} {nL n0 dn d : Nat}
variable {cc : ByteArray} {pc : Nat} {ls : List (Option Value)} {st r : List Value} {n : Nat} {M : mc_M} {L : mc_L}
theorem mc_grow {H H1 : Heap} {M' : mc_M} {L' : mc_L} {dd : mc_D} (hP : va_P D cl (mc_wd b cA false tab n M L) H) (hd : tab[n]? = some dd) (o1 : ∀ q, q < b + n → H1[q]? = H[q]?) (hM : ∀ j, j ≠ n → M' j = M j) (hL : ∀ j, j ≠ n → L' j = L j) (hnew : va_at D cl (b + n, mc_gE b cA (mc_cell false M' L' n dd)) H1) : va_P D cl (mc_wd b cA false tab (n + 1) M' L') H1 := by
  intro k q hk
  obtain ⟨hk1, d', hd', rfl⟩ := mc_wd_some hk
  by_cases hkn : k = n
  · subst hkn
    rw [hd] at hd'
    cases hd'
    exact hnew
  · have hlt : k < n := by omega
    rw [← mc_cell_congr (M := M) (L := L) (hM k hkn).symm (hL k hkn).symm]
    exact (hP k _ (mc_wd_in hlt hd')).kept (o1 _ (Nat.add_lt_add_left hlt _))
theorem mv_new (hx : p.tables.exec = Jvm.exec) (hb : c.code = cc) {own : String} {Ts : List Cond} (hts : ∀ w ∈ Ts, w.before args s = true) (hown : s.vm.findClass own = some m.cls) (hK : va_K D cl (mc_ty cA) s) (htk : mc_tok cl tab = true) (hR : R = mc_rmd tab d dn n0)
    {C : String} {T : u_T} {N ci i : Nat} (hin : ∀ w ∈ u_ws C T N, w ∈ Ts) (hc : cl[ci]? = some (C, T, N)) (hcl : (Cond.classLink own i C).before args s = true) (hins : (Cond.instantiable C N).before args s = true) (hini : (Cond.initialized C).before args s = true) {fds : List Nat}
    (hdg : decode cc pc = .ok (.new i, 3)) (hd : tab[n]? = some (.inr (ci, fds))) (hn : n < n0 + dn) (kk : mc_V p l e R s m args below meth c Q D cl b cA false tab nL n0 dn (pc + 3) ls (.ref n :: st) (n + 1) (mc_set M n (fun _ => 0)) L) : mc_V p l e R s m args below meth c Q D cl b cA false tab nL n0 dn pc ls st n M L := by
  intro h0 hf H locs lsC hP hz hS hl
  have hH : H.size = b + n := hz rfl
  have hKn := hK.1 ci _ hc
  obtain ⟨t1, t2, t3⟩ := mc_tok_e htk hd hc
  have hsl := mc_sl_next n tab _ hd
  have hsz : mc_sz (.inr (ci, fds)) = N := t1
  have hle2 : mc_sl tab (n + 1) ≤ mc_sl tab (n0 + dn) := mc_sl_le hn
  have hle0 : mc_sl tab n0 ≤ mc_sl tab n := mc_sl_le h0.1
  have c1 : n - n0 + 1 = n + 1 - n0 := by omega
  have c2 : mc_sl tab n - mc_sl tab n0 + N = mc_sl tab (n + 1) - mc_sl tab n0 := by omega
  refine W.newcK hx hb hown hcl hins hini rfl hdg (by rw [hR]; show _ ≤ dn; omega) (by rw [hR]; show _ ≤ mc_sl tab (n0 + dn) - mc_sl tab n0; omega) hKn.2.1 (h := b + n) hH fun H1 kC hkC e1 z1 o1 => ?_
  rw [c1, c2]
  refine kk ⟨by omega, hn⟩ (fun z => by cases z) H1 locs lsC (mc_grow hP hd o1 (fun j hj => mc_set_n hj) (fun _ _ => rfl) ?_) (fun _ => by rw [z1]; omega) ⟨Nat.le_trans hS.1 (by omega), fun q g1 g2 => (o1 q (by have := hS.1; omega)).trans (hS.2.1 q g1 g2), hS.2.2⟩ hl
  refine ⟨_, hc, (u_born (mc_t0 T) hts hin hKn hkC e1 t2).to (fun j hj => ?_)⟩
  obtain ⟨fd, hfd⟩ : ∃ fd, fds[j]? = some fd := ⟨_, List.getElem?_eq_getElem (by rw [t1]; exact hj)⟩
  show defaultValue (mc_t0 T j) = ((fds.mapIdx (fun k fd => mc_fv false (mc_set M n (fun _ => 0)) n k fd)).map (mc_ga b)).getD j .null
  rw [List.getD_eq_getElem?_getD, List.getElem?_map, List.getElem?_mapIdx, hfd]
  exact mc_fok_def (t3 j fd hfd) (by rw [mc_set_s])
theorem mv_newarr (hx : p.tables.exec = Jvm.exec) (hb : c.code = cc) (hK : va_K D cl (mc_ty cA) s) (hsm : mc_small tab = true) (hR : R = mc_rmd tab d dn n0)
    {a : ArrayType} {t len : Nat} (harr : (Cond.arrayClass (newarray.typeOf a)).before args s = true) (hdg : decode cc pc = .ok (.newarray a, 2)) (ht : t < 4) (hty : newarray.typeOf a = mc_tt t) (hd : tab[n]? = some (.inl (t, len))) (hn : n < n0 + dn)
    (kk : mc_V p l e R s m args below meth c Q D cl b cA false tab nL n0 dn (pc + 2) ls (.ref n :: r) (n + 1) (mc_set M n (fun _ => 0)) (mc_setL L n (fun _ => 0))) : mc_V p l e R s m args below meth c Q D cl b cA false tab nL n0 dn pc ls (.int (Int32.ofNat len) :: r) n M L := by
  intro h0 hf H locs lsC hP hz hS hl
  have hH : H.size = b + n := hz rfl
  have h10 : len ≤ 10000 := by
    have := List.all_eq_true.mp hsm _ (List.mem_of_getElem? hd)
    simp only [Bool.and_eq_true, decide_eq_true_eq] at this
    exact this.1
  have hsl := mc_sl_next n tab _ hd
  have hsz : mc_sz (.inl (t, len)) = len := rfl
  have hle2 : mc_sl tab (n + 1) ≤ mc_sl tab (n0 + dn) := mc_sl_le hn
  have hle0 : mc_sl tab n0 ≤ mc_sl tab n := mc_sl_le h0.1
  have c1 : n - n0 + 1 = n + 1 - n0 := by omega
  have c2 : mc_sl tab n - mc_sl tab n0 + len = mc_sl tab (n + 1) - mc_sl tab n0 := by omega
  have hcb : componentBytes (newarray.typeOf a) ≤ 8 := by
    cases a <;> decide
  refine va_newaK hx hb harr rfl hdg rfl (n := Int32.ofNat len) (N := len) (nI_pos (by omega)) (nI_clamp (by omega)) (by
    have := Nat.mul_le_mul h10 hcb
    omega) (by rw [hR]; show _ ≤ dn; omega) (by rw [hR]; show _ ≤ mc_sl tab (n0 + dn) - mc_sl tab n0; omega) (h := b + n) hH fun H1 cA' e1 z1 o1 hAr hNm => ?_
  rw [c1, c2]
  refine kk ⟨by omega, hn⟩ (fun z => by cases z) H1 locs lsC (mc_grow hP hd o1 (fun j hj => mc_set_n hj) (fun j hj => mc_setL_n hj) ?_) (fun _ => by rw [z1]; omega) ⟨Nat.le_trans hS.1 (by omega), fun q g1 g2 => (o1 q (by have := hS.1; omega)).trans (hS.2.1 q g1 g2), hS.2.2⟩ hl
  rw [hty] at e1 hNm
  match t, ht, hNm, e1 with
  | 0, _, hNm, e1 =>
    have hc0 : s.vm.findClass ("[" ++ FieldType.int.toString) = some (cA 0) := (hK.2 0 (cA 0, .int) rfl).2
    cases hc0.symm.trans hNm
    show H1[b + n]? = some (vp_cell (cA 0) (len, .inl (mc_set M n (fun _ => 0) n)))
    rw [mc_set_s, e1]
    rfl
  | 1, _, hNm, e1 =>
    have hc0 : s.vm.findClass ("[" ++ FieldType.long.toString) = some (cA 1) := (hK.2 1 (cA 1, .long) rfl).2
    cases hc0.symm.trans hNm
    show H1[b + n]? = some (vp_cell (cA 1) (len, .inr (.inl (mc_setL L n (fun _ => 0) n))))
    rw [mc_setL_s, e1]
    rfl
  | 2, _, hNm, e1 =>
    have hc0 : s.vm.findClass ("[" ++ FieldType.char.toString) = some (cA 2) := (hK.2 2 (cA 2, .char) rfl).2
    cases hc0.symm.trans hNm
    show H1[b + n]? = some (vp_cell (cA 2) (len, .inl (mc_set M n (fun _ => 0) n)))
    rw [mc_set_s, e1]
    rfl
  | 3, _, hNm, e1 =>
    have hc0 : s.vm.findClass ("[" ++ FieldType.boolean.toString) = some (cA 3) := (hK.2 3 (cA 3, .boolean) rfl).2
    cases hc0.symm.trans hNm
    show H1[b + n]? = some (vp_cell (cA 3) (len, .inl (mc_set M n (fun _ => 0) n)))
    rw [mc_set_s, e1]
    rfl
end MVN
