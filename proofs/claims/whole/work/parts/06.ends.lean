theorem mc_sl_mono : ∀ (n : Nat) (tab : List mc_D) (k : Nat), mc_sl tab n ≤ mc_sl tab (n + k)
  | 0, tab, k => by
    have : mc_sl tab 0 = 0 := by cases tab <;> rfl
    rw [this]
    exact Nat.zero_le _
  | n + 1, [], k => by
    rw [show n + 1 + k = (n + k) + 1 by omega]
    show 6 + mc_sl [] n ≤ 6 + mc_sl [] (n + k)
    exact Nat.add_le_add_left (mc_sl_mono n [] k) _
  | n + 1, d :: t, k => by
    rw [show n + 1 + k = (n + k) + 1 by omega]
    show mc_sz d + mc_sl t n ≤ mc_sz d + mc_sl t (n + k)
    exact Nat.add_le_add_left (mc_sl_mono n t k) _
theorem mc_sl_le {tab : List mc_D} {n n' : Nat} (h : n ≤ n') : mc_sl tab n ≤ mc_sl tab n' := by
  have := mc_sl_mono n tab (n' - n)
  rwa [show n + (n' - n) = n' by omega] at this
theorem mc_sl_next : ∀ (n : Nat) (tab : List mc_D) (d : mc_D), tab[n]? = some d → mc_sl tab (n + 1) = mc_sl tab n + mc_sz d
  | n, [], d, h => by simp at h
  | 0, x :: t, d, h => by
    have : x = d := by simpa using h
    subst this
    show mc_sz x + mc_sl t 0 = 0 + mc_sz x
    have : mc_sl t 0 = 0 := by cases t <;> rfl
    omega
  | n + 1, x :: t, d, h => by
    show mc_sz x + mc_sl t (n + 1) = mc_sz x + mc_sl t n + mc_sz d
    rw [mc_sl_next n t d (by simpa using h)]
    omega
/-- a thrown object: its class -/
def mc_ec (exn : Nat → String) (s t : State) (a k : Nat) : Prop := ∃ ce : Cell, t.heap[a]? = some ce ∧ s.vm.findClass (exn k) = some ce.cls ∧ ce.vm.isStatics = false
/-- a method's end -/
def mc_Q (below : List Frame) (s : State) (D : va_G) (cl : List vw_C) (b : Nat) (cA : Nat → ClassId) (md : Bool) (tab : List mc_D) (n0 dn : Nat) (exn : Nat → String) (Qr : Option Value → mc_M → mc_L → Prop) (Qt : Nat → mc_M → mc_L → Prop) : State → Prop := fun t =>
  ∃ o, t.status = .running ∧ Ended t below o ∧ s.WarmedH t.vm ∧ va_F (mc_A md b tab.length) s t ∧ (∃ Lc, s.sameButNew ({ t with vm := s.vm } : State) Lc dn (mc_sl tab (n0 + dn) - mc_sl tab n0) ∧ ∀ q ∈ Lc, mc_A md b tab.length q.base) ∧
  ∃ M L, va_P D cl (mc_wd b cA md tab (n0 + dn) M L) t.heap ∧ (md = false → t.heap.size = b + (n0 + dn)) ∧
    ((∃ rv : Option Value, o = .returned (rv.map (mc_ga b)) ∧ Qr rv M L) ∨ (∃ a k, o = .threw a ∧ Qt k M L ∧ mc_ec exn s t a k))
section MVE
variable {p : Program} {l : Launch} {e : Env} {R : Room} {s : State} {m : MethodId} {args : Array Value} {below : List Frame} {meth : Method} {c : Code} {Q : State → Prop}
variable {D : va_G} {cl : List vw_C} {b : Nat} {cA : Nat → ClassId} {md : Bool} {tab : List mc_D} {nL n0 dn : Nat}
variable {cc : ByteArray} {pc : Nat} {ls : List (Option Value)} {st r : List Value} {n : Nat} {M : mc_M} {L : mc_L}
theorem mw_mono {H : Heap} {locs : List Loc} {cells slots : Nat} {Q' : State → Prop} {g : JFrame} (h : ∀ t, Q t → Q' t) (k : W p l e R s m args below meth c H locs cells slots Q g) : W p l e R s m args below meth c H locs cells slots Q' g := fun T hT X => by
  obtain ⟨t, a, q⟩ := k T hT X
  exact ⟨t, a, h t q⟩
variable {exn : Nat → String} {Qr : Option Value → mc_M → mc_L → Prop} {Qt : Nat → mc_M → mc_L → Prop} {ret : Option FieldType}
theorem mc_en_e {P : Prop} (h : mc_en md n n0 dn P) (hf : md = true → tab.length ≤ n) (h0 : n0 ≤ n) : n ≤ n0 + dn ∧ mc_wd b cA md tab n M L = mc_wd b cA md tab (n0 + dn) M L ∧ (md = false → n = n0 + dn) ∧ P := by
  unfold mc_en at h
  cases md with
  | true => exact ⟨h.1, mc_wd_full (hf rfl) (Nat.le_trans (hf rfl) h.1), fun z => (by cases z), h.2⟩
  | false => exact ⟨Nat.le_of_eq h.1, by rw [h.1], fun _ => h.1, h.2⟩
theorem mc_ri_e {x : Int32} {P : Prop} (h : mc_ri ret x P) : ∃ ty, ret = some ty ∧ narrow ty (.int x) = .int x ∧ P := by
  unfold mc_ri at h
  split at h
  · exact ⟨.int, rfl, vp_nar_int x, h⟩
  · refine ⟨.boolean, rfl, ?_, h.2⟩
    rcases h.1 with rfl | rfl <;> rfl
  · exact h.elim
theorem mv_iret (hx : p.tables.exec = Jvm.exec) (hb : c.code = cc) (hret : meth.sig.returnType = ret) (hlk : meth.locks = false) {x : Int32} (hdg : decode cc pc = .ok (.ireturn, 1))
    (h : mc_ri ret x (mc_en md n n0 dn (Qr (some (.int x)) M L))) : mc_V p l e R s m args below meth c (mc_Q below s D cl b cA md tab n0 dn exn Qr Qt) D cl b cA md tab nL n0 dn pc ls [.int x] n M L := by
  obtain ⟨ty, hty, hnar, h⟩ := mc_ri_e h
  intro h0 hf H locs lsC hP hz hS hl
  obtain ⟨e1, e2, e3, hq⟩ := mc_en_e (b := b) (cA := cA) (tab := tab) (M := M) (L := L) h hf h0.1
  refine W.widen (k := dn) (n := mc_sl tab (n0 + dn) - mc_sl tab n0) (by omega) (Nat.sub_le_sub_right (mc_sl_le e1) _) ?_
  refine mw_mono ?_ (W.zret (Qc := fun _ _ o t => o = .returned (some (.int x)) ∧ t.heap = H ∧ s.WarmedH t.vm) (free := mc_A md b tab.length) hx hb (by rw [hret, hty]) hnar (fun t ht hW => ⟨rfl, ht, hW⟩) hS.2.2 hdg hlk)
  rintro t ⟨o, h1, h2, ⟨h3, h4, h5⟩, Lc, ⟨-, -, h6⟩, h7⟩
  exact ⟨o, h1, h2, h5, hS.F h4, ⟨Lc, h6, h7⟩, M, L, by rw [h4, ← e2]; exact hP, fun z => by rw [h4, ← e3 z]; exact hz z, Or.inl ⟨some (.int x), h3, hq⟩⟩
theorem mv_vret (hx : p.tables.exec = Jvm.exec) (hb : c.code = cc) (hret : meth.sig.returnType = none) (hlk : meth.locks = false) (hdg : decode cc pc = .ok (.return_, 1))
    (h : mc_en md n n0 dn (Qr none M L)) : mc_V p l e R s m args below meth c (mc_Q below s D cl b cA md tab n0 dn exn Qr Qt) D cl b cA md tab nL n0 dn pc ls [] n M L := by
  intro h0 hf H locs lsC hP hz hS hl
  obtain ⟨e1, e2, e3, hq⟩ := mc_en_e (b := b) (cA := cA) (tab := tab) (M := M) (L := L) h hf h0.1
  refine W.widen (k := dn) (n := mc_sl tab (n0 + dn) - mc_sl tab n0) (by omega) (Nat.sub_le_sub_right (mc_sl_le e1) _) ?_
  refine mw_mono ?_ (W.vret (Qc := fun _ _ o t => o = .returned none ∧ t.heap = H ∧ s.WarmedH t.vm) (free := mc_A md b tab.length) hx hb hret (fun t ht hW => ⟨rfl, ht, hW⟩) hS.2.2 hdg hlk)
  rintro t ⟨o, h1, h2, ⟨h3, h4, h5⟩, Lc, ⟨-, -, h6⟩, h7⟩
  exact ⟨o, h1, h2, h5, hS.F h4, ⟨Lc, h6, h7⟩, M, L, by rw [h4, ← e2]; exact hP, fun z => by rw [h4, ← e3 z]; exact hz z, Or.inl ⟨none, h3, hq⟩⟩
/-- what a contract says at its end -/
def mc_Qc (D : va_G) (cl : List vw_C) (b : Nat) (cA : Nat → ClassId) (md : Bool) (tab : List mc_D) (n : Nat) (Qr : Option Value → mc_M → mc_L → Prop) : Array Value → State → Outcome → State → Prop := fun _ st oc t =>
  (∃ (rv : Option Value) (M : mc_M) (L : mc_L), oc = .returned (rv.map (mc_ga b)) ∧ Qr rv M L ∧ va_P D cl (mc_wd b cA md tab n M L) t.heap ∧ (md = false → t.heap.size = b + n)) ∧ va_F (mc_A md b tab.length) st t
/-- behind a call -/
theorem mv_call {dn' : Nat} {st0 : List Value} {a : Array Value} (h1 : n + dn' ≤ n0 + dn)
    (hr : ∀ (H : Heap) (locs : List Loc) (lsC : Array Slot), va_P D cl (mc_wd b cA md tab n M L) H → (md = false → H.size = b + n) → va_S (mc_A md b tab.length) s.heap H locs → lsC.size = nL → va_Run p l e R s m args below meth c H locs (n - n0) (mc_sl tab n - mc_sl tab n0) dn' (mc_sl tab (n + dn') - mc_sl tab n) (F0 m pc lsC (st0.map (mc_ga b))) (r.map (mc_ga b)) (mc_Qc D cl b cA md tab (n + dn') Qr a) (mc_A md b tab.length))
    (kk : ∀ rv M' L', Qr rv M' L' → mc_V p l e R s m args below meth c Q D cl b cA md tab nL n0 dn (pc + 3) ls (rv.toList ++ r) (n + dn') M' L') : mc_V p l e R s m args below meth c Q D cl b cA md tab nL n0 dn pc ls st0 n M L := by
  intro h0 hf H locs lsC hP hz hS hl T hT X
  obtain ⟨v, st₀, t, T', Lc, e0, X', hL, e1, e2, ⟨⟨rv, M', L', hv, hq, hP', hz'⟩, hz2, hk2⟩, go⟩ := hr H locs lsC hP hz hS hl.1 T hT X
  have hv' : v = rv.map (mc_ga b) := Outcome.returned.inj hv
  subst hv'
  rw [e0] at hz2 hk2
  have c1 : n - n0 + dn' = n + dn' - n0 := by omega
  have c2 : mc_sl tab n - mc_sl tab n0 + (mc_sl tab (n + dn') - mc_sl tab n) = mc_sl tab (n + dn') - mc_sl tab n0 := by
    have h2 := mc_sl_le (tab := tab) h0.1
    have h3 := mc_sl_mono n tab dn'
    omega
  rw [c1, c2] at X'
  obtain ⟨t2, a1, b1⟩ := kk rv M' L' hq ⟨by omega, h1⟩ (fun z => Nat.le_trans (hf z) (Nat.le_add_right _ _)) T'.heap (locs ++ Lc) lsC (by rw [e1]; exact hP') (fun z => by rw [e1]; exact hz' z)
    ⟨Nat.le_trans hS.1 (by rw [e1]; exact hz2), fun q g1 g2 => by rw [e1, hk2 q (Nat.lt_of_lt_of_le g1 hS.1) g2]; exact hS.2.1 q g1 g2, fun q hq => by
      rcases List.mem_append.mp hq with h | h
      · exact hS.2.2 q h
      · exact hL q h⟩ hl T' rfl X'
  refine ⟨t2, go t2 ?_, b1⟩
  have e4 : ((rv.toList ++ r).map (mc_ga b)) = (rv.map (mc_ga b)).toList ++ r.map (mc_ga b) := by
    cases rv <;> simp
  rw [e4] at a1
  exact a1
end MVE
