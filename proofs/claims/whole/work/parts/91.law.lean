/-! The law's walk, from its entry -/
def R_law : String := "FlowMixerLaw"
def lw_P (b : Addr) (xs : List Int32) (args : Array Value) (s : State) : Prop := args = #[.ref b] ∧ s.IntsAt b xs ∧ xs.length ≤ 3072 ∧ (Jvm.Cond.and given_1 narrow_1).before args s = true
def lw_Q (_ : Array Value) (s : State) (o : Outcome) (t : State) : Prop := o = .returned (some (.int 1)) ∧ Framed s o t [] 601024 7293033
def lw_Z (below : List Frame) (a : Array Value) (s : State) : State → Prop := fun t => ∃ o, t.status = .running ∧ Ended t below o ∧ lw_Q a s o t
theorem lw_ret {p : Program} {l : Launch} {e : Env} {R : Room} {s : State} {m : MethodId} {below : List Frame} {meth : Method} {c : Code} {b : Nat} (hx : p.tables.exec = Jvm.exec) (hb : c.code = code) (hr : meth.sig.returnType = ret) (hlocks : meth.locks = false) {pc : Nat} {H : Heap} {ls : Array Slot} (hdg : decode code pc = .ok (.ireturn, 1)) : W p l e R s m #[Value.ref b] below meth c H [] 601024 7293033 (lw_Z below #[Value.ref b] s) (F0 m pc ls [.int 1]) := by
  intro T hT X
  obtain ⟨fs, hret, hrun, hended, hW, hframe⟩ := X.leave (v := some (.int 1)) (hlocks := hlocks) (fun h => by rw [hr] at h; cases h)
  have hmeth' : T.vm.method? m = some meth := X.method'
  refine ⟨T.setFrames fs, ?_, .returned (some (.int 1)), hrun, hended, rfl, ⟨_, rfl⟩, hW, hframe⟩
  jvm_step X.here [X.here.top, hx, hb, hdg, hmeth', hr, ret, narrow_b1]
  (try refine ⟨rfl, ?_⟩); (try refine ⟨rfl, ?_⟩)
  first | (intro acts; rw [hret _ acts rfl rfl rfl]) | rw [hret _ _ rfl rfl rfl]
  exact Steps.refl _
def lw_At (p : Program) (s : State) (m : MethodId) (meth : Method) (c : Code) (b L : Nat) (xs : Nat → Int32) : Prop :=
  p.tables.exec = Jvm.exec ∧ c.code = code ∧ meth.sig.returnType = ret ∧ c.maxLocals = 7 ∧ s.vm.findClass R_law = some m.cls ∧ (∀ w ∈ lw_tbl, w.before #[Value.ref b] s = true) ∧ va_X b L xs s s.heap ∧ b < s.heap.size ∧ meth.locks = false ∧ (Jvm.Cond.and given_1 narrow_1).before #[Value.ref b] s = true
/-- less room asked -/
theorem w_room {p : Program} {l : Launch} {e : Env} {R R' : Room} {s : State} {m : MethodId} {args : Array Value} {below : List Frame} {meth : Method} {c : Code} {H : Heap} {locs : List Loc} {cells slots : Nat} {Q : State → Prop} {g : JFrame} (h1 : R'.frames ≤ R.frames) (h2 : R'.locals ≤ R.locals) (h3 : R'.cells ≤ R.cells) (h4 : R'.slots ≤ R.slots) (k : W p l e R' s m args below meth c H locs cells slots Q g) : W p l e R s m args below meth c H locs cells slots Q g := fun T hT X =>
  k T hT ⟨X.admits, X.cas, X.clock, X.frames, hasRoom_mono h1 h2 h3 h4 X.room, X.hears, X.method, X.code, X.here, X.tail, X.warmed, X.limits, X.bytes, X.same⟩
/-- all references are set: the world is whole -/
def mc_full (M : mc_M) : Prop := ∀ (i ci : Nat) (fds : List Nat) (k r : Nat), tab0[i]? = some (.inr (ci, fds)) → fds[k]? = some (r + 3) → M i k ≠ 0
theorem mc_wd_md {b : Nat} {cA : Nat → ClassId} {n : Nat} {M : mc_M} {L : mc_L} (h : mc_full M) : mc_wd b cA true tab0 n M L = mc_wd b cA false tab0 n M L := by
  refine List.ext_getElem? (fun i => ?_)
  rw [mc_wd_at, mc_wd_at]
  by_cases hi : i < n
  · rw [if_pos hi, if_pos hi]
    cases hd : tab0[i]? with
    | none => rfl
    | some d =>
      cases d with
      | inl q => rfl
      | inr q =>
        obtain ⟨ci, fds⟩ := q
        have e : fds.mapIdx (fun k fd => mc_fv true M i k fd) = fds.mapIdx (fun k fd => mc_fv false M i k fd) := by
          refine List.ext_getElem? (fun k => ?_)
          rw [List.getElem?_mapIdx, List.getElem?_mapIdx]
          cases hk : fds[k]? with
          | none => rfl
          | some fd =>
            match fd, hk with
            | 0, _ => rfl
            | 1, _ => rfl
            | 2, _ => rfl
            | r + 3, hk =>
              show some (mc_fv true M i k (r + 3)) = some (mc_fv false M i k (r + 3))
              have e1 : mc_fv true M i k (r + 3) = .ref r := by
                show (if true = true then Value.ref r else if M i k = 0 then .null else .ref r) = _
                rw [if_pos rfl]
              have e2 : mc_fv false M i k (r + 3) = .ref r := by
                show (if false = true then Value.ref r else if M i k = 0 then .null else .ref r) = _
                rw [if_neg (by decide), if_neg (h i ci fds k r hd hk)]
              rw [e1, e2]
        show some (b + i, mc_gE b cA (mc_cell true M L i (.inr (ci, fds)))) = some (b + i, mc_gE b cA (mc_cell false M L i (.inr (ci, fds))))
        have e2 : mc_cell true M L i (.inr (ci, fds)) = mc_cell false M L i (.inr (ci, fds)) := by
          show Sum.inr (ci, fds.mapIdx (fun k fd => mc_fv true M i k fd)) = Sum.inr (ci, fds.mapIdx (fun k fd => mc_fv false M i k fd))
          rw [e]
        rw [e2]
  · rw [if_neg hi, if_neg hi]
def calB (g : mc_G) (d : Nat) : List (Nat × Nat × Nat × Nat × mc_PT) := [(66, 2, 1, 63, mc_ic (cbA_init g d 63)), (69, 2, 1, 33, mc_ic (cbR_init g d 33))]
def shB (g : mc_G) (d : Nat) : mc_SH := (([], []), calB g d, [(8, 0), (67, 8)], [], [], [], swL_law, none)
theorem calB_ok (g : mc_G) (d : Nat) : ∀ q ∈ calB g d, mc_CO g.2.2.2.2 g.1 g.2.1 cl0 g.2.2.1 g.2.2.2.1 false tab0 WL0 NW0 (d + 1) RL q.1 q.2.1 q.2.2.1 q.2.2.2.1 q.2.2.2.2 := List.forall_mem_cons.mpr ⟨co_I (a := 0) (y := yA_init) nw_ok wl_ok (wl_t (tb_1 27 rfl) rfl) (wl_t (tb_1 25 rfl) rfl) (wl_t (tb_1 1 rfl) rfl) (wl_t (tb_1 26 rfl) rfl) rfl ⟨by decide +kernel, by decide +kernel, by decide +kernel⟩ ⟨Nat.le_refl _, by decide⟩, List.forall_mem_cons.mpr ⟨co_I (a := 0) (y := yR_init) nw_ok wl_ok (wl_t (tb_4 61 rfl) rfl) (wl_t (tb_4 59 rfl) rfl) (wl_t (tb_1 9 rfl) rfl) (wl_t (tb_4 60 rfl) rfl) rfl ⟨by decide +kernel, by decide +kernel, by decide +kernel⟩ ⟨Nat.le_refl _, by decide⟩, fun _ h => absurd h List.not_mem_nil⟩⟩
theorem nwB_ok : ∀ q ∈ ([(8, 0), (67, 8)] : List (Nat × Nat)), mc_nwP cl0 WL0 RL q := List.forall_mem_cons.mpr ⟨⟨RA, TA, 10, rfl, wl_t (tb_1 23 rfl) rfl, wl_t (tb_1 24 rfl) rfl, wl_t (tb_1 1 rfl) rfl⟩, List.forall_mem_cons.mpr ⟨⟨RR, TR, 45, rfl, wl_t (tb_4 57 rfl) rfl, wl_t (tb_4 58 rfl) rfl, wl_t (tb_1 9 rfl) rfl⟩, fun _ h => absurd h List.not_mem_nil⟩⟩
def okp (i k : Nat) : Bool := (i == 0 && Nat.blt k 8) || (i == 1 && Nat.blt k 5) || (i == 7 && Nat.ble 2 k && Nat.ble k 13) || (i == 21 && k == 0) || (i == 23 && k == 0) || (i == 25 && Nat.blt k 5) || (i == 31 && Nat.blt k 3) || (i == 35 && Nat.blt k 2) || (i == 38 && Nat.ble 2 k && Nat.ble k 13) || (i == 51 && Nat.ble 2 k && Nat.ble k 13) || (i == 64 && flR.contains k)
theorem okp_all : tab0.zipIdx.all (fun q => match q.1 with
  | .inr (_, fds) => fds.zipIdx.all (fun r => Nat.blt r.1 3 || okp q.2 r.2)
  | _ => true) = true := by decide +kernel
theorem full_of {M : mc_M} (hA : mtA M) (hR : mtR M) : mc_full M := by
  intro i ci fds k r hi hk
  have h1 := List.all_eq_true.mp okp_all (.inr (ci, fds), i) (List.mk_mem_zipIdx_iff_getElem?.mpr hi)
  have h2 := List.all_eq_true.mp h1 (r + 3, k) (List.mk_mem_zipIdx_iff_getElem?.mpr hk)
  obtain ⟨a0, -, -, ⟨-, a1, -⟩, ⟨a7, -⟩, ⟨-, a21, -, a23, -⟩, ⟨a25, -, -, -, a31, -, a35, a35', -⟩, ⟨-, a38, -⟩, ⟨-, a51, -⟩⟩ := hA
  have n1 : ∀ {x : Int32}, x = 1 → x ≠ 0 := fun h z => by rw [h] at z; exact absurd z (by decide)
  have h3 : Nat.blt (r + 3) 3 = false := by
    cases hb : Nat.blt (r + 3) 3 with
    | false => rfl
    | true => exact absurd (Nat.le_of_ble_eq_true hb) (by omega)
  have h2 : okp i k = true := by simpa [h3] using h2
  unfold okp at h2
  simp only [Bool.or_eq_true, Bool.and_eq_true, beq_iff_eq, Nat.blt_eq, Nat.ble_eq, List.contains_iff_mem] at h2
  rcases h2 with (((((((((⟨rfl, q⟩ | ⟨rfl, q⟩) | ⟨⟨rfl, q⟩, q'⟩) | ⟨rfl, rfl⟩) | ⟨rfl, rfl⟩) | ⟨rfl, q⟩) | ⟨rfl, q⟩) | ⟨rfl, q⟩) | ⟨⟨rfl, q⟩, q'⟩) | ⟨⟨rfl, q⟩, q'⟩) | ⟨rfl, q⟩
  · exact n1 (a0 k q)
  · exact n1 (a1 k q)
  · exact a7 k q q'
  · exact n1 a21
  · exact n1 a23
  · exact n1 (a25 k q)
  · exact n1 (a31 k q)
  · have : k = 0 ∨ k = 1 := by omega
    rcases this with rfl | rfl
    · exact n1 a35
    · exact n1 a35'
  · exact n1 (a38 k q q')
  · exact n1 (a51 k q q')
  · exact n1 (hR.2.2 k q)
