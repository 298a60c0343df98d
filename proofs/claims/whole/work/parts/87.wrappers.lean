/-! The law's wrappers: what an answer, and what a throw, comes to (wip/whole/law.py) -/
/-- what holds at the start, with how the thrown classes lie to each other -/
def mc_S2 (g : mc_G) : Prop := mc_S1 g ∧ ∀ k j, k < 3 → j < 3 → mx_as g.2.2.2.2 (exn0 k) (exn0 j) (decide (k = j))
theorem mc_CX_mono {s0 : State} {l : Launch} {D : va_G} {cl : List vw_C} {b : Nat} {cA : Nat → ClassId} {tab : List mc_D} {WL NW : List Cond} {exn : Nat → String} {y : MethodName} {cc : ByteArray} {maxL : Nat} {ret : Option FieldType} {d dn : Nat} {av : List Value} {n : Nat} {M : mc_M} {L : mc_L} {Q Q' : Option Value → mc_M → mc_L → Prop} {Qt Qt' : Nat → mc_M → mc_L → Prop} (h : ∀ r M L, Q r M L → Q' r M L) (ht : ∀ k M L, Qt k M L → Qt' k M L) (k : mc_CX s0 l D cl b cA tab WL NW exn y cc maxL ret d dn av n M L Q Qt) : mc_CX s0 l D cl b cA tab WL NW exn y cc maxL ret d dn av n M L Q' Qt' := by
  intro hf p e ha hc hk s m args below hfr happ hP hK
  obtain ⟨n2, o, h1, h2, h3, q1, q2, q3, M', L', q4, q5, q6⟩ := k hf p e ha hc hk s m args below hfr happ hP hK
  refine ⟨n2, o, h1, h2, h3, q1, q2, q3, M', L', q4, q5, ?_⟩
  rcases q6 with ⟨rv, z1, z2⟩ | ⟨a, kk, z1, z2, z3⟩
  · exact Or.inl ⟨rv, z1, h _ _ _ z2⟩
  · exact Or.inr ⟨a, kk, z1, ht _ _ _ z2, z3⟩
section MWR
variable {g : mc_G} {s : State} {pc k : Nat} {x x1 : ExceptionTableEntry} {rest : List ExceptionTableEntry}
theorem mw_r1 (hg : mc_S2 g) (hO : mc_O g.2.2.2.2 g.2.2.1 s) (hk : k < 3) (hc : covers x pc = true) (h0 : x.catchType ≠ 0) (hl : Cond.classLink RL x.catchType (exn0 k) ∈ WL0) : mx_row s RL exn0 WL0 (x :: rest) pc k x := by
  refine ⟨[], rest, rfl, List.not_mem_nil, fun y hy => ?_⟩
  have : y = x := by simpa using hy
  subst this
  refine ⟨hc, h0, exn0 k, hl, ?_⟩
  have := (hg.2 k k hk hk).moved hO.1.alike
  simpa using this
theorem mw_r2 (hg : mc_S2 g) (hO : mc_O g.2.2.2.2 g.2.2.1 s) {j : Nat} (hk : k < 3) (hj : j < 3) (hkj : k ≠ j) (hx : x1 ≠ x) (hc : covers x pc = true) (h0 : x.catchType ≠ 0) (hl : Cond.classLink RL x.catchType (exn0 k) ∈ WL0) (hc1 : covers x1 pc = true) (h01 : x1.catchType ≠ 0) (hl1 : Cond.classLink RL x1.catchType (exn0 j) ∈ WL0) : mx_row s RL exn0 WL0 (x1 :: x :: rest) pc k x := by
  refine ⟨[x1], rest, rfl, by simpa using fun z => hx z.symm, fun y hy => ?_⟩
  have : y = x1 ∨ y = x := by simpa using hy
  rcases this with rfl | rfl
  · refine ⟨hc1, h01, exn0 j, hl1, ?_⟩
    have := (hg.2 k j hk hj).moved hO.1.alike
    rw [decide_eq_false hkj] at this
    rw [decide_eq_false hx]
    exact this
  · refine ⟨hc, h0, exn0 k, hl, ?_⟩
    have := (hg.2 k k hk hk).moved hO.1.alike
    simpa using this
end MWR
section MWL
variable {g : mc_G} {d n : Nat} {M : mc_M} {L : mc_L} {Q : Option Value → mc_M → mc_L → Prop}
theorem cL_node (hg : mc_S2 g) {a0 a1 a2 : Int32} (h : cxA_node g d [.ref 0, .int a0, .int a1, .int a2] n M L (fun rv M' L' => ∃ r, rv = some (.int r) ∧ Q (some (.int 0)) M' (mc_putL L' 98 0 r.toInt64)) (fun k M' L' => (k = 0 ∧ Q (some (.int 1)) M' L') ∨ (k = 1 ∧ Q (some (.int 2)) M' L'))) : ctL_node g (d + 1) [.ref 0, .int a0, .int a1, .int a2, .ref 98] n M L Q := by
  refine mw_intro rfl (Nat.le_of_ble_eq_true rfl) (fun p e s m args below meth c hb htab => ?_)
  have hK := mz_closed (e := e) (below := below) (n0 := n) (dn := 1) (d := d + 1) (Qr := Q) hb (tb := tbL_node) (fg := []) (fp := []) (cal := []) (kl := []) (by decide +kernel) (by decide +kernel) (by decide +kernel) (fun _ h => absurd h List.not_mem_nil) (fun _ h => absurd h List.not_mem_nil) (fun _ h => absurd h List.not_mem_nil) (fun _ h => absurd h List.not_mem_nil)
  obtain ⟨hx, hbb, hml, hown, hts, hKK, hZ, hO, hr, hlk, hnm⟩ := hb
  refine hK.1 [7] 20 0 _ _ _ _ _ ?_
  show mz_V g p e s m args below meth c 6 n 1 (d + 1) Q 7 [some (.ref 0), some (.int a0), some (.int a1), some (.int a2), some (.ref 98), none] [.int a2, .int a1, .int a0, .ref 0, .int 0, .ref 98] n M L
  refine mv_try (own := RL) (q := 0) (as := [.int a0, .int a1, .int a2]) (r := [.int 0, .ref 98]) (y := yA_node) (hs := mw_tab hhL_node) (T := TA) (N := 10) (ci := 0) (a := 3) (d' := d) hx hbb hml hr hlk hown hts hKK hZ hO rfl htab nw_ok wl_ok (wl_t (tb_2 85 rfl) rfl) (wl_t (tb_2 82 rfl) rfl) (wl_t (tb_1 1 rfl) rfl) (wl_t (tb_2 83 rfl) rfl) (wl_t (tb_2 84 rfl) rfl) ⟨by decide +kernel, by decide +kernel, by decide +kernel⟩ ⟨Nat.le_refl _, by decide⟩ rfl rfl rfl (by decide +kernel) (by decide) (Nat.le_refl _) (mc_CX_mono (fun rv M' L' z => ?_) (fun k M' L' z => ?_) h)
  · obtain ⟨r, rfl, z⟩ := z
    exact hK.1 [] 20 10 _ _ _ _ _ ⟨vp_in_nI (n := 0) (N := 1) (by decide) (by decide), Nat.le_refl _, z⟩
  · rcases z with ⟨rfl, z⟩ | ⟨rfl, z⟩
    · exact ⟨(⟨0, 12, 15, 13⟩ : ExceptionTableEntry), 1, mw_r1 hg hO (by decide) (by decide) (by decide) (wl_t (tb_2 80 rfl) rfl), Or.inl ⟨5, 1, by decide +kernel, by decide, by decide +kernel, rfl, by decide +kernel⟩, z⟩
    · exact ⟨(⟨0, 12, 19, 15⟩ : ExceptionTableEntry), 2, mw_r2 (x1 := (⟨0, 12, 15, 13⟩ : ExceptionTableEntry)) (j := 0) hg hO (by decide) (by decide) (by decide) (by decide) (by decide) (by decide) (wl_t (tb_2 81 rfl) rfl) (by decide) (by decide) (wl_t (tb_2 80 rfl) rfl), Or.inl ⟨5, 2, by decide +kernel, by decide, by decide +kernel, rfl, by decide +kernel⟩, z⟩
theorem cL_assign (hg : mc_S2 g) {a0 a1 a2 : Int32} (h : cxA_assign g d [.ref 0, .int a0, .int a1, .int a2] n M L (fun rv M' L' => ∃ r, rv = some (.int r) ∧ Q (some (.int 0)) M' (mc_putL L' 98 0 r.toInt64)) (fun k M' L' => (k = 0 ∧ Q (some (.int 1)) M' L') ∨ (k = 1 ∧ Q (some (.int 2)) M' L'))) : ctL_assign g (d + 1) [.ref 0, .int a0, .int a1, .int a2, .ref 98] n M L Q := by
  refine mw_intro rfl (Nat.le_of_ble_eq_true rfl) (fun p e s m args below meth c hb htab => ?_)
  have hK := mz_closed (e := e) (below := below) (n0 := n) (dn := 1) (d := d + 1) (Qr := Q) hb (tb := tbL_assign) (fg := []) (fp := []) (cal := []) (kl := []) (by decide +kernel) (by decide +kernel) (by decide +kernel) (fun _ h => absurd h List.not_mem_nil) (fun _ h => absurd h List.not_mem_nil) (fun _ h => absurd h List.not_mem_nil) (fun _ h => absurd h List.not_mem_nil)
  obtain ⟨hx, hbb, hml, hown, hts, hKK, hZ, hO, hr, hlk, hnm⟩ := hb
  refine hK.1 [7] 20 0 _ _ _ _ _ ?_
  show mz_V g p e s m args below meth c 6 n 1 (d + 1) Q 7 [some (.ref 0), some (.int a0), some (.int a1), some (.int a2), some (.ref 98), none] [.int a2, .int a1, .int a0, .ref 0, .int 0, .ref 98] n M L
  refine mv_try (own := RL) (q := 0) (as := [.int a0, .int a1, .int a2]) (r := [.int 0, .ref 98]) (y := yA_assign) (hs := mw_tab hhL_assign) (T := TA) (N := 10) (ci := 0) (a := 3) (d' := d) hx hbb hml hr hlk hown hts hKK hZ hO rfl htab nw_ok wl_ok (wl_t (tb_2 203 rfl) rfl) (wl_t (tb_2 200 rfl) rfl) (wl_t (tb_1 1 rfl) rfl) (wl_t (tb_2 201 rfl) rfl) (wl_t (tb_2 202 rfl) rfl) ⟨by decide +kernel, by decide +kernel, by decide +kernel⟩ ⟨Nat.le_refl _, by decide⟩ rfl rfl rfl (by decide +kernel) (by decide) (Nat.le_refl _) (mc_CX_mono (fun rv M' L' z => ?_) (fun k M' L' z => ?_) h)
  · obtain ⟨r, rfl, z⟩ := z
    exact hK.1 [] 20 10 _ _ _ _ _ ⟨vp_in_nI (n := 0) (N := 1) (by decide) (by decide), Nat.le_refl _, z⟩
  · rcases z with ⟨rfl, z⟩ | ⟨rfl, z⟩
    · exact ⟨(⟨0, 12, 15, 13⟩ : ExceptionTableEntry), 1, mw_r1 hg hO (by decide) (by decide) (by decide) (wl_t (tb_2 80 rfl) rfl), Or.inl ⟨5, 1, by decide +kernel, by decide, by decide +kernel, rfl, by decide +kernel⟩, z⟩
    · exact ⟨(⟨0, 12, 19, 15⟩ : ExceptionTableEntry), 2, mw_r2 (x1 := (⟨0, 12, 15, 13⟩ : ExceptionTableEntry)) (j := 0) hg hO (by decide) (by decide) (by decide) (by decide) (by decide) (by decide) (wl_t (tb_2 81 rfl) rfl) (by decide) (by decide) (wl_t (tb_2 80 rfl) rfl), Or.inl ⟨5, 2, by decide +kernel, by decide, by decide +kernel, rfl, by decide +kernel⟩, z⟩
theorem cL_jump (hg : mc_S2 g) {a0 a1 a2 a3 a4 : Int32} (h : cxA_jump g d [.ref 0, .int a0, .int a1, .int a2, .int a3, .int a4] n M L (fun rv M' L' => rv = none ∧ Q (some (.int 0)) M' L') (fun k M' L' => (k = 0 ∧ Q (some (.int 1)) M' L'))) : ctL_jump g (d + 1) [.ref 0, .int a0, .int a1, .int a2, .int a3, .int a4] n M L Q := by
  refine mw_intro rfl (Nat.le_of_ble_eq_true rfl) (fun p e s m args below meth c hb htab => ?_)
  have hK := mz_closed (e := e) (below := below) (n0 := n) (dn := 1) (d := d + 1) (Qr := Q) hb (tb := tbL_jump) (fg := []) (fp := []) (cal := []) (kl := []) (by decide +kernel) (by decide +kernel) (by decide +kernel) (fun _ h => absurd h List.not_mem_nil) (fun _ h => absurd h List.not_mem_nil) (fun _ h => absurd h List.not_mem_nil) (fun _ h => absurd h List.not_mem_nil)
  obtain ⟨hx, hbb, hml, hown, hts, hKK, hZ, hO, hr, hlk, hnm⟩ := hb
  refine hK.1 [8] 20 0 _ _ _ _ _ ?_
  show mz_V g p e s m args below meth c 7 n 1 (d + 1) Q 8 [some (.ref 0), some (.int a0), some (.int a1), some (.int a2), some (.int a3), some (.int a4), none] [.int a4, .int a3, .int a2, .int a1, .int a0, .ref 0] n M L
  refine mv_try (own := RL) (q := 0) (as := [.int a0, .int a1, .int a2, .int a3, .int a4]) (r := []) (y := yA_jump) (hs := mw_tab hhL_jump) (T := TA) (N := 10) (ci := 0) (a := 5) (d' := d) hx hbb hml hr hlk hown hts hKK hZ hO rfl htab nw_ok wl_ok (wl_t (tb_2 221 rfl) rfl) (wl_t (tb_2 218 rfl) rfl) (wl_t (tb_1 1 rfl) rfl) (wl_t (tb_2 219 rfl) rfl) (wl_t (tb_2 220 rfl) rfl) ⟨by decide +kernel, by decide +kernel, by decide +kernel⟩ ⟨Nat.le_refl _, by decide⟩ rfl rfl rfl (by decide +kernel) (by decide) (Nat.le_refl _) (mc_CX_mono (fun rv M' L' z => ?_) (fun k M' L' z => ?_) h)
  · obtain ⟨rfl, z⟩ := z
    exact hK.1 [] 20 11 _ _ _ _ _ ⟨Nat.le_refl _, z⟩
  · obtain ⟨rfl, z⟩ := z
    exact ⟨(⟨0, 11, 14, 13⟩ : ExceptionTableEntry), 1, mw_r1 hg hO (by decide) (by decide) (by decide) (wl_t (tb_2 80 rfl) rfl), Or.inl ⟨6, 1, by decide +kernel, by decide, by decide +kernel, rfl, by decide +kernel⟩, z⟩
theorem cL_clear (hg : mc_S2 g) {a0 : Int32} (h : cxA_clear g d [.ref 0, .int a0] n M L (fun rv M' L' => ∃ r, rv = some (.int r) ∧ Q (some (.int 0)) M' (mc_putL L' 98 0 r.toInt64)) (fun k M' L' => (k = 0 ∧ Q (some (.int 1)) M' L'))) : ctL_clear g (d + 1) [.ref 0, .int a0, .ref 98] n M L Q := by
  refine mw_intro rfl (Nat.le_of_ble_eq_true rfl) (fun p e s m args below meth c hb htab => ?_)
  have hK := mz_closed (e := e) (below := below) (n0 := n) (dn := 1) (d := d + 1) (Qr := Q) hb (tb := tbL_clear) (fg := []) (fp := []) (cal := []) (kl := []) (by decide +kernel) (by decide +kernel) (by decide +kernel) (fun _ h => absurd h List.not_mem_nil) (fun _ h => absurd h List.not_mem_nil) (fun _ h => absurd h List.not_mem_nil) (fun _ h => absurd h List.not_mem_nil)
  obtain ⟨hx, hbb, hml, hown, hts, hKK, hZ, hO, hr, hlk, hnm⟩ := hb
  refine hK.1 [4] 20 0 _ _ _ _ _ ?_
  show mz_V g p e s m args below meth c 4 n 1 (d + 1) Q 4 [some (.ref 0), some (.int a0), some (.ref 98), none] [.int a0, .ref 0, .int 0, .ref 98] n M L
  refine mv_try (own := RL) (q := 0) (as := [.int a0]) (r := [.int 0, .ref 98]) (y := yA_clear) (hs := mw_tab hhL_clear) (T := TA) (N := 10) (ci := 0) (a := 1) (d' := d) hx hbb hml hr hlk hown hts hKK hZ hO rfl htab nw_ok wl_ok (wl_t (tb_2 235 rfl) rfl) (wl_t (tb_2 232 rfl) rfl) (wl_t (tb_1 1 rfl) rfl) (wl_t (tb_2 233 rfl) rfl) (wl_t (tb_2 234 rfl) rfl) ⟨by decide +kernel, by decide +kernel, by decide +kernel⟩ ⟨Nat.le_refl _, by decide⟩ rfl rfl rfl (by decide +kernel) (by decide) (Nat.le_refl _) (mc_CX_mono (fun rv M' L' z => ?_) (fun k M' L' z => ?_) h)
  · obtain ⟨r, rfl, z⟩ := z
    exact hK.1 [] 20 7 _ _ _ _ _ ⟨vp_in_nI (n := 0) (N := 1) (by decide) (by decide), Nat.le_refl _, z⟩
  · obtain ⟨rfl, z⟩ := z
    exact ⟨(⟨0, 9, 12, 13⟩ : ExceptionTableEntry), 1, mw_r1 hg hO (by decide) (by decide) (by decide) (wl_t (tb_2 80 rfl) rfl), Or.inr ⟨3, 1, by decide +kernel, by decide, by decide +kernel, rfl, by decide +kernel⟩, z⟩
theorem cL_input (hg : mc_S2 g) {a0 a1 : Int32} (h : cxA_input g d [.ref 0, .int a0, .int a1] n M L (fun rv M' L' => ∃ r, rv = some (.int r) ∧ Q (some (.int 0)) M' (mc_putL L' 98 0 r.toInt64)) (fun k M' L' => (k = 0 ∧ Q (some (.int 1)) M' L'))) : ctL_input g (d + 1) [.ref 0, .int a0, .int a1, .ref 98] n M L Q := by
  refine mw_intro rfl (Nat.le_of_ble_eq_true rfl) (fun p e s m args below meth c hb htab => ?_)
  have hK := mz_closed (e := e) (below := below) (n0 := n) (dn := 1) (d := d + 1) (Qr := Q) hb (tb := tbL_input) (fg := []) (fp := []) (cal := []) (kl := []) (by decide +kernel) (by decide +kernel) (by decide +kernel) (fun _ h => absurd h List.not_mem_nil) (fun _ h => absurd h List.not_mem_nil) (fun _ h => absurd h List.not_mem_nil) (fun _ h => absurd h List.not_mem_nil)
  obtain ⟨hx, hbb, hml, hown, hts, hKK, hZ, hO, hr, hlk, hnm⟩ := hb
  refine hK.1 [5] 20 0 _ _ _ _ _ ?_
  show mz_V g p e s m args below meth c 5 n 1 (d + 1) Q 5 [some (.ref 0), some (.int a0), some (.int a1), some (.ref 98), none] [.int a1, .int a0, .ref 0, .int 0, .ref 98] n M L
  refine mv_try (own := RL) (q := 0) (as := [.int a0, .int a1]) (r := [.int 0, .ref 98]) (y := yA_input) (hs := mw_tab hhL_input) (T := TA) (N := 10) (ci := 0) (a := 2) (d' := d) hx hbb hml hr hlk hown hts hKK hZ hO rfl htab nw_ok wl_ok (wl_t (tb_3 4 rfl) rfl) (wl_t (tb_3 1 rfl) rfl) (wl_t (tb_1 1 rfl) rfl) (wl_t (tb_3 2 rfl) rfl) (wl_t (tb_3 3 rfl) rfl) ⟨by decide +kernel, by decide +kernel, by decide +kernel⟩ ⟨Nat.le_refl _, by decide⟩ rfl rfl rfl (by decide +kernel) (by decide) (Nat.le_refl _) (mc_CX_mono (fun rv M' L' z => ?_) (fun k M' L' z => ?_) h)
  · obtain ⟨r, rfl, z⟩ := z
    exact hK.1 [] 20 8 _ _ _ _ _ ⟨vp_in_nI (n := 0) (N := 1) (by decide) (by decide), Nat.le_refl _, z⟩
  · obtain ⟨rfl, z⟩ := z
    exact ⟨(⟨0, 10, 13, 13⟩ : ExceptionTableEntry), 1, mw_r1 hg hO (by decide) (by decide) (by decide) (wl_t (tb_2 80 rfl) rfl), Or.inl ⟨4, 1, by decide +kernel, by decide, by decide +kernel, rfl, by decide +kernel⟩, z⟩
theorem cL_run (hg : mc_S2 g) {a0 : Int32} (h : cxA_run g d [.ref 0, .int a0] n M L (fun rv M' L' => ∃ r, rv = some (.int r) ∧ (r = 0 ∨ r = 1) ∧ Q (some (.int 0)) M' (mc_putL L' 98 0 r.toInt64)) (fun k M' L' => (k = 2 ∧ Q (some (.int 1)) M' L'))) : ctL_run g (d + 1) [.ref 0, .int a0, .ref 98] n M L Q := by
  refine mw_intro rfl (Nat.le_of_ble_eq_true rfl) (fun p e s m args below meth c hb htab => ?_)
  have hK := mz_closed (e := e) (below := below) (n0 := n) (dn := 1) (d := d + 1) (Qr := Q) hb (tb := tbL_run) (fg := []) (fp := []) (cal := []) (kl := []) (by decide +kernel) (by decide +kernel) (by decide +kernel) (fun _ h => absurd h List.not_mem_nil) (fun _ h => absurd h List.not_mem_nil) (fun _ h => absurd h List.not_mem_nil) (fun _ h => absurd h List.not_mem_nil)
  obtain ⟨hx, hbb, hml, hown, hts, hKK, hZ, hO, hr, hlk, hnm⟩ := hb
  refine hK.1 [4] 20 0 _ _ _ _ _ ?_
  show mz_V g p e s m args below meth c 4 n 1 (d + 1) Q 4 [some (.ref 0), some (.int a0), some (.ref 98), none] [.int a0, .ref 0, .int 0, .ref 98] n M L
  refine mv_try (own := RL) (q := 0) (as := [.int a0]) (r := [.int 0, .ref 98]) (y := yA_run) (hs := mw_tab hhL_run) (T := TA) (N := 10) (ci := 0) (a := 1) (d' := d) hx hbb hml hr hlk hown hts hKK hZ hO rfl htab nw_ok wl_ok (wl_t (tb_3 13 rfl) rfl) (wl_t (tb_3 10 rfl) rfl) (wl_t (tb_1 1 rfl) rfl) (wl_t (tb_3 11 rfl) rfl) (wl_t (tb_3 12 rfl) rfl) ⟨by decide +kernel, by decide +kernel, by decide +kernel⟩ ⟨Nat.le_refl _, by decide⟩ rfl rfl rfl (by decide +kernel) (by decide) (Nat.le_refl _) (mc_CX_mono (fun rv M' L' z => ?_) (fun k M' L' z => ?_) h)
  · obtain ⟨r, rfl, hr01, z⟩ := z
    rcases hr01 with rfl | rfl
    · exact hK.1 [] 20 7 _ _ _ _ _ ⟨fun _ => ⟨vp_in_nI (n := 0) (N := 1) (by decide) (by decide), Nat.le_refl _, z⟩, fun w => absurd rfl w⟩
    · exact hK.1 [] 20 7 _ _ _ _ _ ⟨fun w => absurd w (by decide), fun _ => ⟨vp_in_nI (n := 0) (N := 1) (by decide) (by decide), Nat.le_refl _, z⟩⟩
  · obtain ⟨rfl, z⟩ := z
    exact ⟨(⟨0, 16, 19, 36⟩ : ExceptionTableEntry), 1, mw_r1 hg hO (by decide) (by decide) (by decide) (wl_t (tb_3 9 rfl) rfl), Or.inr ⟨3, 1, by decide +kernel, by decide, by decide +kernel, rfl, by decide +kernel⟩, z⟩
theorem cL_follow (hg : mc_S2 g) {a0 : Int32} (h : cxA_follow g d [.ref 0, .int a0] n M L (fun rv M' L' => ∃ r, rv = some (.int r) ∧ (r = 0 ∨ r = 1) ∧ Q (some (.int 0)) M' (mc_putL L' 98 0 r.toInt64)) (fun k M' L' => (k = 2 ∧ Q (some (.int 1)) M' L') ∨ (k = 1 ∧ Q (some (.int 2)) M' L'))) : ctL_follow g (d + 1) [.ref 0, .int a0, .ref 98] n M L Q := by
  refine mw_intro rfl (Nat.le_of_ble_eq_true rfl) (fun p e s m args below meth c hb htab => ?_)
  have hK := mz_closed (e := e) (below := below) (n0 := n) (dn := 1) (d := d + 1) (Qr := Q) hb (tb := tbL_follow) (fg := []) (fp := []) (cal := []) (kl := []) (by decide +kernel) (by decide +kernel) (by decide +kernel) (fun _ h => absurd h List.not_mem_nil) (fun _ h => absurd h List.not_mem_nil) (fun _ h => absurd h List.not_mem_nil) (fun _ h => absurd h List.not_mem_nil)
  obtain ⟨hx, hbb, hml, hown, hts, hKK, hZ, hO, hr, hlk, hnm⟩ := hb
  refine hK.1 [4] 20 0 _ _ _ _ _ ?_
  show mz_V g p e s m args below meth c 4 n 1 (d + 1) Q 4 [some (.ref 0), some (.int a0), some (.ref 98), none] [.int a0, .ref 0, .int 0, .ref 98] n M L
  refine mv_try (own := RL) (q := 0) (as := [.int a0]) (r := [.int 0, .ref 98]) (y := yA_follow) (hs := mw_tab hhL_follow) (T := TA) (N := 10) (ci := 0) (a := 1) (d' := d) hx hbb hml hr hlk hown hts hKK hZ hO rfl htab nw_ok wl_ok (wl_t (tb_3 67 rfl) rfl) (wl_t (tb_3 64 rfl) rfl) (wl_t (tb_1 1 rfl) rfl) (wl_t (tb_3 65 rfl) rfl) (wl_t (tb_3 66 rfl) rfl) ⟨by decide +kernel, by decide +kernel, by decide +kernel⟩ ⟨Nat.le_refl _, by decide⟩ rfl rfl rfl (by decide +kernel) (by decide) (Nat.le_refl _) (mc_CX_mono (fun rv M' L' z => ?_) (fun k M' L' z => ?_) h)
  · obtain ⟨r, rfl, hr01, z⟩ := z
    rcases hr01 with rfl | rfl
    · exact hK.1 [] 20 7 _ _ _ _ _ ⟨fun _ => ⟨vp_in_nI (n := 0) (N := 1) (by decide) (by decide), Nat.le_refl _, z⟩, fun w => absurd rfl w⟩
    · exact hK.1 [] 20 7 _ _ _ _ _ ⟨fun w => absurd w (by decide), fun _ => ⟨vp_in_nI (n := 0) (N := 1) (by decide) (by decide), Nat.le_refl _, z⟩⟩
  · rcases z with ⟨rfl, z⟩ | ⟨rfl, z⟩
    · exact ⟨(⟨0, 16, 19, 36⟩ : ExceptionTableEntry), 1, mw_r1 hg hO (by decide) (by decide) (by decide) (wl_t (tb_3 9 rfl) rfl), Or.inr ⟨3, 1, by decide +kernel, by decide, by decide +kernel, rfl, by decide +kernel⟩, z⟩
    · exact ⟨(⟨0, 16, 22, 15⟩ : ExceptionTableEntry), 2, mw_r2 (x1 := (⟨0, 16, 19, 36⟩ : ExceptionTableEntry)) (j := 2) hg hO (by decide) (by decide) (by decide) (by decide) (by decide) (by decide) (wl_t (tb_2 81 rfl) rfl) (by decide) (by decide) (wl_t (tb_3 9 rfl) rfl), Or.inr ⟨3, 2, by decide +kernel, by decide, by decide +kernel, rfl, by decide +kernel⟩, z⟩
theorem cL_result (hg : mc_S2 g) {a0 : Int32} (h : cxA_result g d [.ref 0, .int a0] n M L (fun rv M' L' => ∃ r, rv = some (.int r) ∧ Q (some (.int 0)) M' (mc_putL L' 98 0 r.toInt64)) (fun k M' L' => (k = 2 ∧ Q (some (.int 1)) M' L'))) : ctL_result g (d + 1) [.ref 0, .int a0, .ref 98] n M L Q := by
  refine mw_intro rfl (Nat.le_of_ble_eq_true rfl) (fun p e s m args below meth c hb htab => ?_)
  have hK := mz_closed (e := e) (below := below) (n0 := n) (dn := 1) (d := d + 1) (Qr := Q) hb (tb := tbL_result) (fg := []) (fp := []) (cal := []) (kl := []) (by decide +kernel) (by decide +kernel) (by decide +kernel) (fun _ h => absurd h List.not_mem_nil) (fun _ h => absurd h List.not_mem_nil) (fun _ h => absurd h List.not_mem_nil) (fun _ h => absurd h List.not_mem_nil)
  obtain ⟨hx, hbb, hml, hown, hts, hKK, hZ, hO, hr, hlk, hnm⟩ := hb
  refine hK.1 [4] 20 0 _ _ _ _ _ ?_
  show mz_V g p e s m args below meth c 4 n 1 (d + 1) Q 4 [some (.ref 0), some (.int a0), some (.ref 98), none] [.int a0, .ref 0, .int 0, .ref 98] n M L
  refine mv_try (own := RL) (q := 0) (as := [.int a0]) (r := [.int 0, .ref 98]) (y := yA_result) (hs := mw_tab hhL_result) (T := TA) (N := 10) (ci := 0) (a := 1) (d' := d) hx hbb hml hr hlk hown hts hKK hZ hO rfl htab nw_ok wl_ok (wl_t (tb_3 75 rfl) rfl) (wl_t (tb_3 72 rfl) rfl) (wl_t (tb_1 1 rfl) rfl) (wl_t (tb_3 73 rfl) rfl) (wl_t (tb_3 74 rfl) rfl) ⟨by decide +kernel, by decide +kernel, by decide +kernel⟩ ⟨Nat.le_refl _, by decide⟩ rfl rfl rfl (by decide +kernel) (by decide) (Nat.le_refl _) (mc_CX_mono (fun rv M' L' z => ?_) (fun k M' L' z => ?_) h)
  · obtain ⟨r, rfl, z⟩ := z
    exact hK.1 [] 20 7 _ _ _ _ _ ⟨vp_in_nI (n := 0) (N := 1) (by decide) (by decide), Nat.le_refl _, z⟩
  · obtain ⟨rfl, z⟩ := z
    exact ⟨(⟨0, 9, 12, 36⟩ : ExceptionTableEntry), 1, mw_r1 hg hO (by decide) (by decide) (by decide) (wl_t (tb_3 9 rfl) rfl), Or.inr ⟨3, 1, by decide +kernel, by decide, by decide +kernel, rfl, by decide +kernel⟩, z⟩
theorem cL_divide (hg : mc_S2 g) {a0 : Int32} (h : cxA_divide g d [.ref 0, .int a0] n M L (fun rv M' L' => ∃ r, rv = some (.int r) ∧ Q (some (.int 0)) M' (mc_putL L' 98 0 r.toInt64)) (fun k M' L' => (k = 2 ∧ Q (some (.int 1)) M' L'))) : ctL_divide g (d + 1) [.ref 0, .int a0, .ref 98] n M L Q := by
  refine mw_intro rfl (Nat.le_of_ble_eq_true rfl) (fun p e s m args below meth c hb htab => ?_)
  have hK := mz_closed (e := e) (below := below) (n0 := n) (dn := 1) (d := d + 1) (Qr := Q) hb (tb := tbL_divide) (fg := []) (fp := []) (cal := []) (kl := []) (by decide +kernel) (by decide +kernel) (by decide +kernel) (fun _ h => absurd h List.not_mem_nil) (fun _ h => absurd h List.not_mem_nil) (fun _ h => absurd h List.not_mem_nil) (fun _ h => absurd h List.not_mem_nil)
  obtain ⟨hx, hbb, hml, hown, hts, hKK, hZ, hO, hr, hlk, hnm⟩ := hb
  refine hK.1 [4] 20 0 _ _ _ _ _ ?_
  show mz_V g p e s m args below meth c 4 n 1 (d + 1) Q 4 [some (.ref 0), some (.int a0), some (.ref 98), none] [.int a0, .ref 0, .int 0, .ref 98] n M L
  refine mv_try (own := RL) (q := 0) (as := [.int a0]) (r := [.int 0, .ref 98]) (y := yA_divide) (hs := mw_tab hhL_divide) (T := TA) (N := 10) (ci := 0) (a := 1) (d' := d) hx hbb hml hr hlk hown hts hKK hZ hO rfl htab nw_ok wl_ok (wl_t (tb_3 83 rfl) rfl) (wl_t (tb_3 80 rfl) rfl) (wl_t (tb_1 1 rfl) rfl) (wl_t (tb_3 81 rfl) rfl) (wl_t (tb_3 82 rfl) rfl) ⟨by decide +kernel, by decide +kernel, by decide +kernel⟩ ⟨Nat.le_refl _, by decide⟩ rfl rfl rfl (by decide +kernel) (by decide) (Nat.le_refl _) (mc_CX_mono (fun rv M' L' z => ?_) (fun k M' L' z => ?_) h)
  · obtain ⟨r, rfl, z⟩ := z
    exact hK.1 [] 20 7 _ _ _ _ _ ⟨vp_in_nI (n := 0) (N := 1) (by decide) (by decide), Nat.le_refl _, z⟩
  · obtain ⟨rfl, z⟩ := z
    exact ⟨(⟨0, 9, 12, 36⟩ : ExceptionTableEntry), 1, mw_r1 hg hO (by decide) (by decide) (by decide) (wl_t (tb_3 9 rfl) rfl), Or.inr ⟨3, 1, by decide +kernel, by decide, by decide +kernel, rfl, by decide +kernel⟩, z⟩
theorem cL_live (hg : mc_S2 g) {a0 : Int32} (h : cxA_live g d [.ref 0, .int a0] n M L (fun rv M' L' => ∃ r, rv = some (.int r) ∧ Q (some (.int 0)) M' (mc_putL L' 98 0 r.toInt64)) (fun k M' L' => (k = 0 ∧ Q (some (.int 1)) M' L'))) : ctL_live g (d + 1) [.ref 0, .int a0, .ref 98] n M L Q := by
  refine mw_intro rfl (Nat.le_of_ble_eq_true rfl) (fun p e s m args below meth c hb htab => ?_)
  have hK := mz_closed (e := e) (below := below) (n0 := n) (dn := 1) (d := d + 1) (Qr := Q) hb (tb := tbL_live) (fg := []) (fp := []) (cal := []) (kl := []) (by decide +kernel) (by decide +kernel) (by decide +kernel) (fun _ h => absurd h List.not_mem_nil) (fun _ h => absurd h List.not_mem_nil) (fun _ h => absurd h List.not_mem_nil) (fun _ h => absurd h List.not_mem_nil)
  obtain ⟨hx, hbb, hml, hown, hts, hKK, hZ, hO, hr, hlk, hnm⟩ := hb
  refine hK.1 [4] 20 0 _ _ _ _ _ ?_
  show mz_V g p e s m args below meth c 4 n 1 (d + 1) Q 4 [some (.ref 0), some (.int a0), some (.ref 98), none] [.int a0, .ref 0, .int 0, .ref 98] n M L
  refine mv_try (own := RL) (q := 0) (as := [.int a0]) (r := [.int 0, .ref 98]) (y := yA_live) (hs := mw_tab hhL_live) (T := TA) (N := 10) (ci := 0) (a := 1) (d' := d) hx hbb hml hr hlk hown hts hKK hZ hO rfl htab nw_ok wl_ok (wl_t (tb_3 101 rfl) rfl) (wl_t (tb_3 98 rfl) rfl) (wl_t (tb_1 1 rfl) rfl) (wl_t (tb_3 99 rfl) rfl) (wl_t (tb_3 100 rfl) rfl) ⟨by decide +kernel, by decide +kernel, by decide +kernel⟩ ⟨Nat.le_refl _, by decide⟩ rfl rfl rfl (by decide +kernel) (by decide) (Nat.le_refl _) (mc_CX_mono (fun rv M' L' z => ?_) (fun k M' L' z => ?_) h)
  · obtain ⟨r, rfl, z⟩ := z
    exact hK.1 [] 20 7 _ _ _ _ _ ⟨vp_in_nI (n := 0) (N := 1) (by decide) (by decide), Nat.le_refl _, z⟩
  · obtain ⟨rfl, z⟩ := z
    exact ⟨(⟨0, 9, 12, 13⟩ : ExceptionTableEntry), 1, mw_r1 hg hO (by decide) (by decide) (by decide) (wl_t (tb_2 80 rfl) rfl), Or.inr ⟨3, 1, by decide +kernel, by decide, by decide +kernel, rfl, by decide +kernel⟩, z⟩
theorem cL_mix (hg : mc_S2 g) {a0 : Int32} (h : cxA_mix g d [.ref 0, .int a0] n M L (fun rv M' L' => ∃ r, rv = some (.int r) ∧ Q (some (.int 0)) M' (mc_putL L' 98 0 r.toInt64)) (fun k M' L' => (k = 2 ∧ Q (some (.int 1)) M' L'))) : ctL_mix g (d + 1) [.ref 0, .int a0, .ref 98] n M L Q := by
  refine mw_intro rfl (Nat.le_of_ble_eq_true rfl) (fun p e s m args below meth c hb htab => ?_)
  have hK := mz_closed (e := e) (below := below) (n0 := n) (dn := 1) (d := d + 1) (Qr := Q) hb (tb := tbL_mix) (fg := []) (fp := []) (cal := []) (kl := []) (by decide +kernel) (by decide +kernel) (by decide +kernel) (fun _ h => absurd h List.not_mem_nil) (fun _ h => absurd h List.not_mem_nil) (fun _ h => absurd h List.not_mem_nil) (fun _ h => absurd h List.not_mem_nil)
  obtain ⟨hx, hbb, hml, hown, hts, hKK, hZ, hO, hr, hlk, hnm⟩ := hb
  refine hK.1 [4] 20 0 _ _ _ _ _ ?_
  show mz_V g p e s m args below meth c 4 n 1 (d + 1) Q 4 [some (.ref 0), some (.int a0), some (.ref 98), none] [.int a0, .ref 0, .int 0, .ref 98] n M L
  refine mv_try (own := RL) (q := 0) (as := [.int a0]) (r := [.int 0, .ref 98]) (y := yA_mix) (hs := mw_tab hhL_mix) (T := TA) (N := 10) (ci := 0) (a := 1) (d' := d) hx hbb hml hr hlk hown hts hKK hZ hO rfl htab nw_ok wl_ok (wl_t (tb_3 124 rfl) rfl) (wl_t (tb_3 121 rfl) rfl) (wl_t (tb_1 1 rfl) rfl) (wl_t (tb_3 122 rfl) rfl) (wl_t (tb_3 123 rfl) rfl) ⟨by decide +kernel, by decide +kernel, by decide +kernel⟩ ⟨Nat.le_refl _, by decide⟩ rfl rfl rfl (by decide +kernel) (by decide) (Nat.le_refl _) (mc_CX_mono (fun rv M' L' z => ?_) (fun k M' L' z => ?_) h)
  · obtain ⟨r, rfl, z⟩ := z
    exact hK.1 [] 20 7 _ _ _ _ _ ⟨vp_in_nI (n := 0) (N := 1) (by decide) (by decide), Nat.le_refl _, z⟩
  · obtain ⟨rfl, z⟩ := z
    exact ⟨(⟨0, 9, 12, 36⟩ : ExceptionTableEntry), 1, mw_r1 hg hO (by decide) (by decide) (by decide) (wl_t (tb_3 9 rfl) rfl), Or.inr ⟨3, 1, by decide +kernel, by decide, by decide +kernel, rfl, by decide +kernel⟩, z⟩
theorem cL_compress (hg : mc_S2 g) (h : cxA_compress g d [.ref 0] n M L (fun rv M' L' => ∃ r, rv = some (.int r) ∧ Q (some (.int 0)) M' (mc_putL L' 98 0 r.toInt64)) (fun k M' L' => (k = 1 ∧ Q (some (.int 1)) M' L'))) : ctL_compress g (d + 1) [.ref 0, .ref 98] n M L Q := by
  refine mw_intro rfl (Nat.le_of_ble_eq_true rfl) (fun p e s m args below meth c hb htab => ?_)
  have hK := mz_closed (e := e) (below := below) (n0 := n) (dn := 1) (d := d + 1) (Qr := Q) hb (tb := tbL_compress) (fg := []) (fp := []) (cal := []) (kl := []) (by decide +kernel) (by decide +kernel) (by decide +kernel) (fun _ h => absurd h List.not_mem_nil) (fun _ h => absurd h List.not_mem_nil) (fun _ h => absurd h List.not_mem_nil) (fun _ h => absurd h List.not_mem_nil)
  obtain ⟨hx, hbb, hml, hown, hts, hKK, hZ, hO, hr, hlk, hnm⟩ := hb
  refine hK.1 [3] 20 0 _ _ _ _ _ ?_
  show mz_V g p e s m args below meth c 3 n 1 (d + 1) Q 3 [some (.ref 0), some (.ref 98), none] [.ref 0, .int 0, .ref 98] n M L
  refine mv_try (own := RL) (q := 0) (as := []) (r := [.int 0, .ref 98]) (y := yA_compress) (hs := mw_tab hhL_compress) (T := TA) (N := 10) (ci := 0) (a := 0) (d' := d) hx hbb hml hr hlk hown hts hKK hZ hO rfl htab nw_ok wl_ok (wl_t (tb_3 163 rfl) rfl) (wl_t (tb_3 160 rfl) rfl) (wl_t (tb_1 1 rfl) rfl) (wl_t (tb_3 161 rfl) rfl) (wl_t (tb_3 162 rfl) rfl) ⟨by decide +kernel, by decide +kernel, by decide +kernel⟩ ⟨Nat.le_refl _, by decide⟩ rfl rfl rfl (by decide +kernel) (by decide) (Nat.le_refl _) (mc_CX_mono (fun rv M' L' z => ?_) (fun k M' L' z => ?_) h)
  · obtain ⟨r, rfl, z⟩ := z
    exact hK.1 [] 20 6 _ _ _ _ _ ⟨vp_in_nI (n := 0) (N := 1) (by decide) (by decide), Nat.le_refl _, z⟩
  · obtain ⟨rfl, z⟩ := z
    exact ⟨(⟨0, 8, 11, 15⟩ : ExceptionTableEntry), 1, mw_r1 hg hO (by decide) (by decide) (by decide) (wl_t (tb_2 81 rfl) rfl), Or.inr ⟨2, 1, by decide +kernel, by decide, by decide +kernel, rfl, by decide +kernel⟩, z⟩
theorem cL_about (hg : mc_S2 g) {a0 a1 : Int32} (h : cxA_about g d [.ref 0, .int a0, .int a1] n M L (fun rv M' L' => ∃ r, rv = some (.int r) ∧ Q (some (.int 0)) M' (mc_putL L' 98 0 r.toInt64)) (fun k M' L' => (k = 0 ∧ Q (some (.int 1)) M' L') ∨ (k = 2 ∧ Q (some (.int 2)) M' L'))) : ctL_about g (d + 1) [.ref 0, .int a0, .int a1, .ref 98] n M L Q := by
  refine mw_intro rfl (Nat.le_of_ble_eq_true rfl) (fun p e s m args below meth c hb htab => ?_)
  have hK := mz_closed (e := e) (below := below) (n0 := n) (dn := 1) (d := d + 1) (Qr := Q) hb (tb := tbL_about) (fg := []) (fp := []) (cal := []) (kl := []) (by decide +kernel) (by decide +kernel) (by decide +kernel) (fun _ h => absurd h List.not_mem_nil) (fun _ h => absurd h List.not_mem_nil) (fun _ h => absurd h List.not_mem_nil) (fun _ h => absurd h List.not_mem_nil)
  obtain ⟨hx, hbb, hml, hown, hts, hKK, hZ, hO, hr, hlk, hnm⟩ := hb
  refine hK.1 [5] 20 0 _ _ _ _ _ ?_
  show mz_V g p e s m args below meth c 5 n 1 (d + 1) Q 5 [some (.ref 0), some (.int a0), some (.int a1), some (.ref 98), none] [.int a1, .int a0, .ref 0, .int 0, .ref 98] n M L
  refine mv_try (own := RL) (q := 0) (as := [.int a0, .int a1]) (r := [.int 0, .ref 98]) (y := yA_about) (hs := mw_tab hhL_about) (T := TA) (N := 10) (ci := 0) (a := 2) (d' := d) hx hbb hml hr hlk hown hts hKK hZ hO rfl htab nw_ok wl_ok (wl_t (tb_3 200 rfl) rfl) (wl_t (tb_3 197 rfl) rfl) (wl_t (tb_1 1 rfl) rfl) (wl_t (tb_3 198 rfl) rfl) (wl_t (tb_3 199 rfl) rfl) ⟨by decide +kernel, by decide +kernel, by decide +kernel⟩ ⟨Nat.le_refl _, by decide⟩ rfl rfl rfl (by decide +kernel) (by decide) (Nat.le_refl _) (mc_CX_mono (fun rv M' L' z => ?_) (fun k M' L' z => ?_) h)
  · obtain ⟨r, rfl, z⟩ := z
    exact hK.1 [] 20 8 _ _ _ _ _ ⟨vp_in_nI (n := 0) (N := 1) (by decide) (by decide), Nat.le_refl _, z⟩
  · rcases z with ⟨rfl, z⟩ | ⟨rfl, z⟩
    · exact ⟨(⟨0, 10, 13, 13⟩ : ExceptionTableEntry), 1, mw_r1 hg hO (by decide) (by decide) (by decide) (wl_t (tb_2 80 rfl) rfl), Or.inl ⟨4, 1, by decide +kernel, by decide, by decide +kernel, rfl, by decide +kernel⟩, z⟩
    · exact ⟨(⟨0, 10, 17, 36⟩ : ExceptionTableEntry), 2, mw_r2 (x1 := (⟨0, 10, 13, 13⟩ : ExceptionTableEntry)) (j := 0) hg hO (by decide) (by decide) (by decide) (by decide) (by decide) (by decide) (wl_t (tb_3 9 rfl) rfl) (by decide) (by decide) (wl_t (tb_2 80 rfl) rfl), Or.inl ⟨4, 2, by decide +kernel, by decide, by decide +kernel, rfl, by decide +kernel⟩, z⟩
theorem cL_sign (hg : mc_S2 g) {a0 : Int32} (h : cxA_sign g d [.ref 0, .int a0] n M L (fun rv M' L' => ∃ r, rv = some (.int r) ∧ Q (some (.int 0)) M' (mc_putL L' 98 0 r.toInt64)) (fun k M' L' => (k = 0 ∧ Q (some (.int 1)) M' L'))) : ctL_sign g (d + 1) [.ref 0, .int a0, .ref 98] n M L Q := by
  refine mw_intro rfl (Nat.le_of_ble_eq_true rfl) (fun p e s m args below meth c hb htab => ?_)
  have hK := mz_closed (e := e) (below := below) (n0 := n) (dn := 1) (d := d + 1) (Qr := Q) hb (tb := tbL_sign) (fg := []) (fp := []) (cal := []) (kl := []) (by decide +kernel) (by decide +kernel) (by decide +kernel) (fun _ h => absurd h List.not_mem_nil) (fun _ h => absurd h List.not_mem_nil) (fun _ h => absurd h List.not_mem_nil) (fun _ h => absurd h List.not_mem_nil)
  obtain ⟨hx, hbb, hml, hown, hts, hKK, hZ, hO, hr, hlk, hnm⟩ := hb
  refine hK.1 [4] 20 0 _ _ _ _ _ ?_
  show mz_V g p e s m args below meth c 4 n 1 (d + 1) Q 4 [some (.ref 0), some (.int a0), some (.ref 98), none] [.int a0, .ref 0, .int 0, .ref 98] n M L
  refine mv_try (own := RL) (q := 0) (as := [.int a0]) (r := [.int 0, .ref 98]) (y := yA_sign) (hs := mw_tab hhL_sign) (T := TA) (N := 10) (ci := 0) (a := 1) (d' := d) hx hbb hml hr hlk hown hts hKK hZ hO rfl htab nw_ok wl_ok (wl_t (tb_3 209 rfl) rfl) (wl_t (tb_3 206 rfl) rfl) (wl_t (tb_1 1 rfl) rfl) (wl_t (tb_3 207 rfl) rfl) (wl_t (tb_3 208 rfl) rfl) ⟨by decide +kernel, by decide +kernel, by decide +kernel⟩ ⟨Nat.le_refl _, by decide⟩ rfl rfl rfl (by decide +kernel) (by decide) (Nat.le_refl _) (mc_CX_mono (fun rv M' L' z => ?_) (fun k M' L' z => ?_) h)
  · obtain ⟨r, rfl, z⟩ := z
    exact hK.1 [] 20 7 _ _ _ _ _ ⟨vp_in_nI (n := 0) (N := 1) (by decide) (by decide), Nat.le_refl _, z⟩
  · obtain ⟨rfl, z⟩ := z
    exact ⟨(⟨0, 9, 12, 13⟩ : ExceptionTableEntry), 1, mw_r1 hg hO (by decide) (by decide) (by decide) (wl_t (tb_2 80 rfl) rfl), Or.inr ⟨3, 1, by decide +kernel, by decide, by decide +kernel, rfl, by decide +kernel⟩, z⟩
theorem cL_count (hg : mc_S2 g) {a0 : Int32} (h : cxA_count g d [.ref 0, .int a0] n M L (fun rv M' L' => ∃ r, rv = some (.int r) ∧ Q (some (.int 0)) M' (mc_putL L' 98 0 r.toInt64)) (fun k M' L' => (k = 2 ∧ Q (some (.int 1)) M' L'))) : ctL_count g (d + 1) [.ref 0, .int a0, .ref 98] n M L Q := by
  refine mw_intro rfl (Nat.le_of_ble_eq_true rfl) (fun p e s m args below meth c hb htab => ?_)
  have hK := mz_closed (e := e) (below := below) (n0 := n) (dn := 1) (d := d + 1) (Qr := Q) hb (tb := tbL_count) (fg := []) (fp := []) (cal := []) (kl := []) (by decide +kernel) (by decide +kernel) (by decide +kernel) (fun _ h => absurd h List.not_mem_nil) (fun _ h => absurd h List.not_mem_nil) (fun _ h => absurd h List.not_mem_nil) (fun _ h => absurd h List.not_mem_nil)
  obtain ⟨hx, hbb, hml, hown, hts, hKK, hZ, hO, hr, hlk, hnm⟩ := hb
  refine hK.1 [4] 20 0 _ _ _ _ _ ?_
  show mz_V g p e s m args below meth c 4 n 1 (d + 1) Q 4 [some (.ref 0), some (.int a0), some (.ref 98), none] [.int a0, .ref 0, .int 0, .ref 98] n M L
  refine mv_try (own := RL) (q := 0) (as := [.int a0]) (r := [.int 0, .ref 98]) (y := yA_count) (hs := mw_tab hhL_count) (T := TA) (N := 10) (ci := 0) (a := 1) (d' := d) hx hbb hml hr hlk hown hts hKK hZ hO rfl htab nw_ok wl_ok (wl_t (tb_4 55 rfl) rfl) (wl_t (tb_4 52 rfl) rfl) (wl_t (tb_1 1 rfl) rfl) (wl_t (tb_4 53 rfl) rfl) (wl_t (tb_4 54 rfl) rfl) ⟨by decide +kernel, by decide +kernel, by decide +kernel⟩ ⟨Nat.le_refl _, by decide⟩ rfl rfl rfl (by decide +kernel) (by decide) (Nat.le_refl _) (mc_CX_mono (fun rv M' L' z => ?_) (fun k M' L' z => ?_) h)
  · obtain ⟨r, rfl, z⟩ := z
    exact hK.1 [] 20 7 _ _ _ _ _ ⟨vp_in_nI (n := 0) (N := 1) (by decide) (by decide), Nat.le_refl _, z⟩
  · obtain ⟨rfl, z⟩ := z
    exact ⟨(⟨0, 9, 12, 36⟩ : ExceptionTableEntry), 1, mw_r1 hg hO (by decide) (by decide) (by decide) (wl_t (tb_3 9 rfl) rfl), Or.inr ⟨3, 1, by decide +kernel, by decide, by decide +kernel, rfl, by decide +kernel⟩, z⟩
end MWL
