/-! The throws of FlowMixer: 0 NoSuchElementException, 1 IllegalStateException, 2 IllegalArgumentException (wip/whole/throws.py). -/
def exn0 (k : Nat) : String := match k with
  | 0 => "java/util/NoSuchElementException"
  | 1 => "java/lang/IllegalStateException"
  | _ => "java/lang/IllegalArgumentException"
def exc0 (k : Nat) : Nat := match k with
  | 0 => 78
  | 1 => 93
  | _ => 144
def exA : List (Nat × Nat) := [(74, 0), (89, 1), (140, 2)]
def strA : List Nat := [76, 91, 107, 112, 121, 130, 135, 142, 152, 163, 168, 195, 212, 220, 229]
def mx_good (w : Cond) : Bool := goodWord w || match w with
  | .declares _ => true
  | .laysStatic .. => true
  | _ => false
/-- what holds at the start -/
def mc_S0 (g : mc_G) : Prop := g.1.flags = flags0 ∧ g.2.2.2.2.heap.size ≤ g.2.2.1 ∧ ∃ args0 : Array Value, (∀ w ∈ tables_1, w.before args0 g.2.2.2.2 = true) ∧ (Cond.isRef (.static Bundle.tN "UNASSIGNED_STACK" Bundle.steD)).before args0 g.2.2.2.2 = true ∧ (Cond.isRef (.static Bundle.tN "SUPPRESSED_SENTINEL" Bundle.listD)).before args0 g.2.2.2.2 = true
theorem mx_ok {g : mc_G} (hg : mc_S0 g) {args : Array Value} {s : State} (hts : ∀ w ∈ WL0, w.before args s = true) (hO : mc_O g.2.2.2.2 g.2.2.1 s) {w : Cond} (h : w ∈ tables_1) (hw : mx_good w = true) : w.before args s = true := by
  obtain ⟨-, hsz, args0, h0, -, -⟩ := hg
  by_cases hgw : goodWord w = true
  · exact hts w (wl_t h hgw)
  · have hb := h0 w h
    have hal := hO.1.alike
    cases w with
    | declares x => exact va_Nw.use rfl (va_Nw.warmD hO.1 (va_Nw.of rfl hb))
    | laysStatic o n d =>
      obtain ⟨c, k, i, f, a, cell, hc, hi, hst, ha, hcell, hs, hcls, hlt, hty⟩ := Cond.laysStatic_spec hb
      obtain ⟨k', hi', hek⟩ := State.fieldFound?_setVm (s := g.2.2.2.2) (vm' := s.vm) hal hi
      have hi2 : s.fieldFound? o n d = some (c, k', i, f) := hi'
      refine Cond.laysStatic_of (by rw [hal.findClass]; exact hc) hi2 hst (by rw [hek]; exact ha) ?_ hs hcls hlt (by rw [hek]; exact hty)
      rw [hO.2.2 a (Nat.lt_of_lt_of_le (Array.getElem?_eq_some_iff.mp hcell).1 hsz)]
      exact hcell
    | _ => simp [mx_good, hgw] at hw
theorem mx_sref {g : mc_G} (hg : mc_S0 g) {args : Array Value} {s : State} (hO : mc_O g.2.2.2.2 g.2.2.1 s) {o n d : String} (hl : Cond.laysStatic o n d ∈ tables_1) (hini : Cond.initialized o ∈ tables_1) (h : ∃ args0 : Array Value, (∀ w ∈ tables_1, w.before args0 g.2.2.2.2 = true) ∧ (Cond.isRef (.static o n d)).before args0 g.2.2.2.2 = true) : (Cond.isRef (.static o n d)).before args s = true := by
  obtain ⟨args0, h0, h1⟩ := h
  have hal := hO.1.alike
  have hZ : va_Zq o n d (fun q => g.2.2.2.2.heap.size ≤ q) g.2.2.2.2 g.2.2.2.2.heap := va_Zqof (h0 _ hl) (h0 _ hini) h1 (fun a ha => Nat.not_le.mpr ha)
  have hZ2 : va_Zq o n d (fun q => g.2.2.2.2.heap.size ≤ q) s s.heap := (hZ.moved hal).kept (fun a ha _ => hO.2.2 a (Nat.lt_of_lt_of_le ha hg.2.1))
  rcases hZ2 with ⟨cf, kf, fi, f, a, cell, z1, z2, z3, z4, z5, z6, z7, z8⟩ | ⟨t, cf, kf, fi, f, a, cell, z1, z2, z3, z4, z5, z6, z7, z8⟩
  · simp [Cond.before, Cond.holds, Cond.value, Term.eval, State.fieldNamed?, z1, z2, z4, z5, z6, z7]
  · simp [Cond.before, Cond.holds, Cond.value, Term.eval, State.fieldNamed?, z1, z2, z4, z5, z6, z7]
theorem mx_str {g : mc_G} (hg : mc_S0 g) {s : State} (hO : mc_O g.2.2.2.2 g.2.2.1 s) {own tx : String} {k : Nat} (h : Cond.stringRef own k tx ∈ tables_1) : ∃ q, vk_R own k tx q s := by
  obtain ⟨-, -, args0, h0, -, -⟩ := hg
  have hb := h0 _ h
  obtain ⟨cur, hcur⟩ : ∃ cur, g.2.2.2.2.vm.findClass own = some cur := by
    have h1 := hb
    simp only [Cond.before, Cond.holds, Cond.value] at h1
    cases hc : g.2.2.2.2.vm.findClass own with
    | none => simp [hc] at h1
    | some cur => exact ⟨cur, rfl⟩
  obtain ⟨k1, cf, i, a, -, -, -, -, -, hev⟩ := Cond.stringRef_spec hcur hb
  exact ⟨a, vk_R.warm hO.1 (vk_R.of hb hev)⟩
theorem mx_at0 {g : mc_G} (hg : mc_S0 g) {args : Array Value} {s : State} (hts : ∀ w ∈ WL0, w.before args s = true) (hO : mc_O g.2.2.2.2 g.2.2.1 s) : ∀ a ∈ mx_atoms RA 78 (exn0 0) 13 prog_22_method_4_code, a.before args s = true :=
  List.forall_mem_cons.mpr ⟨mx_ok hg hts hO (tb_1 10 rfl) rfl, List.forall_mem_cons.mpr ⟨mx_ok hg hts hO (tb_2 119 rfl) rfl, List.forall_mem_cons.mpr ⟨mx_ok hg hts hO (tb_2 128 rfl) rfl, List.forall_mem_cons.mpr ⟨mx_ok hg hts hO (tb_2 132 rfl) rfl, List.forall_mem_cons.mpr ⟨mx_ok hg hts hO (tb_2 135 rfl) rfl, List.forall_mem_cons.mpr ⟨mx_ok hg hts hO (tb_2 137 rfl) rfl, List.forall_mem_cons.mpr ⟨mx_ok hg hts hO (tb_2 120 rfl) rfl, List.forall_mem_cons.mpr ⟨mx_ok hg hts hO (tb_2 121 rfl) rfl, List.forall_mem_cons.mpr ⟨mx_ok hg hts hO (tb_1 29 rfl) rfl, List.forall_mem_cons.mpr ⟨mx_ok hg hts hO (tb_1 30 rfl) rfl, List.forall_mem_cons.mpr ⟨mx_ok hg hts hO (tb_2 122 rfl) rfl, List.forall_mem_cons.mpr ⟨mx_ok hg hts hO (tb_2 127 rfl) rfl, List.forall_mem_cons.mpr ⟨mx_ok hg hts hO (tb_2 133 rfl) rfl, List.forall_mem_cons.mpr ⟨mx_ok hg hts hO (tb_2 153 rfl) rfl, List.forall_mem_cons.mpr ⟨mx_ok hg hts hO (tb_2 109 rfl) rfl, List.forall_mem_cons.mpr ⟨mx_ok hg hts hO (tb_2 154 rfl) rfl, List.forall_mem_cons.mpr ⟨mx_ok hg hts hO (tb_2 111 rfl) rfl, List.forall_mem_cons.mpr ⟨mx_ok hg hts hO (tb_2 155 rfl) rfl, List.forall_mem_cons.mpr ⟨mx_ok hg hts hO (tb_2 113 rfl) rfl, List.forall_mem_cons.mpr ⟨mx_ok hg hts hO (tb_2 123 rfl) rfl, List.forall_mem_cons.mpr ⟨mx_ok hg hts hO (tb_2 124 rfl) rfl, List.forall_mem_cons.mpr ⟨mx_ok hg hts hO (tb_2 125 rfl) rfl, List.forall_mem_cons.mpr ⟨mx_ok hg hts hO (tb_2 126 rfl) rfl, List.forall_mem_cons.mpr ⟨mx_ok hg hts hO (tb_2 115 rfl) rfl, List.forall_mem_cons.mpr ⟨mx_ok hg hts hO (tb_2 149 rfl) rfl, List.forall_mem_cons.mpr ⟨mx_ok hg hts hO (tb_2 150 rfl) rfl, List.forall_mem_cons.mpr ⟨mx_ok hg hts hO (tb_2 152 rfl) rfl, List.forall_mem_cons.mpr ⟨mx_ok hg hts hO (tb_2 115 rfl) rfl, List.forall_mem_cons.mpr ⟨mx_ok hg hts hO (tb_2 140 rfl) rfl, List.forall_mem_cons.mpr ⟨mx_ok hg hts hO (tb_2 141 rfl) rfl, List.forall_mem_cons.mpr ⟨mx_ok hg hts hO (tb_2 142 rfl) rfl, List.forall_mem_cons.mpr ⟨mx_ok hg hts hO (tb_2 143 rfl) rfl, List.forall_mem_cons.mpr ⟨mx_ok hg hts hO (tb_2 101 rfl) rfl, List.forall_mem_cons.mpr ⟨mx_ok hg hts hO (tb_2 143 rfl) rfl, List.forall_mem_cons.mpr ⟨mx_ok hg hts hO (tb_2 144 rfl) rfl, List.forall_mem_cons.mpr ⟨mx_ok hg hts hO (tb_2 145 rfl) rfl, List.forall_mem_cons.mpr ⟨mx_ok hg hts hO (tb_2 146 rfl) rfl, List.forall_mem_cons.mpr ⟨mx_ok hg hts hO (tb_2 103 rfl) rfl, List.forall_mem_cons.mpr ⟨mx_ok hg hts hO (tb_2 146 rfl) rfl, List.forall_mem_cons.mpr ⟨mx_ok hg hts hO (tb_2 147 rfl) rfl, List.forall_mem_cons.mpr ⟨mx_ok hg hts hO (tb_2 148 rfl) rfl, List.forall_mem_cons.mpr ⟨mx_ok hg hts hO (tb_2 149 rfl) rfl, List.forall_mem_cons.mpr ⟨mx_ok hg hts hO (tb_2 105 rfl) rfl, List.forall_mem_cons.mpr ⟨mx_ok hg hts hO (tb_2 139 rfl) rfl, List.forall_mem_cons.mpr ⟨mx_ok hg hts hO (tb_2 98 rfl) rfl, List.forall_mem_cons.mpr ⟨mx_ok hg hts hO (tb_2 106 rfl) rfl, List.forall_mem_cons.mpr ⟨mx_ok hg hts hO (tb_2 107 rfl) rfl, List.forall_mem_cons.mpr ⟨mx_ok hg hts hO (tb_2 108 rfl) rfl, List.forall_mem_cons.mpr ⟨mx_ok hg hts hO (tb_2 110 rfl) rfl, List.forall_mem_cons.mpr ⟨mx_ok hg hts hO (tb_2 112 rfl) rfl, List.forall_mem_cons.mpr ⟨mx_ok hg hts hO (tb_2 114 rfl) rfl, List.forall_mem_cons.mpr ⟨mx_ok hg hts hO (tb_2 118 rfl) rfl, List.forall_mem_cons.mpr ⟨mx_ok hg hts hO (tb_2 117 rfl) rfl, List.forall_mem_cons.mpr ⟨mx_ok hg hts hO (tb_2 116 rfl) rfl, fun _ h => absurd h List.not_mem_nil⟩⟩⟩⟩⟩⟩⟩⟩⟩⟩⟩⟩⟩⟩⟩⟩⟩⟩⟩⟩⟩⟩⟩⟩⟩⟩⟩⟩⟩⟩⟩⟩⟩⟩⟩⟩⟩⟩⟩⟩⟩⟩⟩⟩⟩⟩⟩⟩⟩⟩⟩⟩⟩⟩
theorem mx_at1 {g : mc_G} (hg : mc_S0 g) {args : Array Value} {s : State} (hts : ∀ w ∈ WL0, w.before args s = true) (hO : mc_O g.2.2.2.2 g.2.2.1 s) : ∀ a ∈ mx_atoms RA 93 (exn0 1) 7 prog_13_method_2_code, a.before args s = true :=
  List.forall_mem_cons.mpr ⟨mx_ok hg hts hO (tb_1 10 rfl) rfl, List.forall_mem_cons.mpr ⟨mx_ok hg hts hO (tb_2 119 rfl) rfl, List.forall_mem_cons.mpr ⟨mx_ok hg hts hO (tb_2 128 rfl) rfl, List.forall_mem_cons.mpr ⟨mx_ok hg hts hO (tb_2 132 rfl) rfl, List.forall_mem_cons.mpr ⟨mx_ok hg hts hO (tb_2 135 rfl) rfl, List.forall_mem_cons.mpr ⟨mx_ok hg hts hO (tb_2 137 rfl) rfl, List.forall_mem_cons.mpr ⟨mx_ok hg hts hO (tb_2 120 rfl) rfl, List.forall_mem_cons.mpr ⟨mx_ok hg hts hO (tb_2 121 rfl) rfl, List.forall_mem_cons.mpr ⟨mx_ok hg hts hO (tb_1 29 rfl) rfl, List.forall_mem_cons.mpr ⟨mx_ok hg hts hO (tb_1 30 rfl) rfl, List.forall_mem_cons.mpr ⟨mx_ok hg hts hO (tb_2 122 rfl) rfl, List.forall_mem_cons.mpr ⟨mx_ok hg hts hO (tb_2 127 rfl) rfl, List.forall_mem_cons.mpr ⟨mx_ok hg hts hO (tb_2 133 rfl) rfl, List.forall_mem_cons.mpr ⟨mx_ok hg hts hO (tb_2 153 rfl) rfl, List.forall_mem_cons.mpr ⟨mx_ok hg hts hO (tb_2 109 rfl) rfl, List.forall_mem_cons.mpr ⟨mx_ok hg hts hO (tb_2 154 rfl) rfl, List.forall_mem_cons.mpr ⟨mx_ok hg hts hO (tb_2 111 rfl) rfl, List.forall_mem_cons.mpr ⟨mx_ok hg hts hO (tb_2 155 rfl) rfl, List.forall_mem_cons.mpr ⟨mx_ok hg hts hO (tb_2 113 rfl) rfl, List.forall_mem_cons.mpr ⟨mx_ok hg hts hO (tb_2 123 rfl) rfl, List.forall_mem_cons.mpr ⟨mx_ok hg hts hO (tb_2 124 rfl) rfl, List.forall_mem_cons.mpr ⟨mx_ok hg hts hO (tb_2 125 rfl) rfl, List.forall_mem_cons.mpr ⟨mx_ok hg hts hO (tb_2 126 rfl) rfl, List.forall_mem_cons.mpr ⟨mx_ok hg hts hO (tb_2 115 rfl) rfl, List.forall_mem_cons.mpr ⟨mx_ok hg hts hO (tb_2 149 rfl) rfl, List.forall_mem_cons.mpr ⟨mx_ok hg hts hO (tb_2 150 rfl) rfl, List.forall_mem_cons.mpr ⟨mx_ok hg hts hO (tb_2 152 rfl) rfl, List.forall_mem_cons.mpr ⟨mx_ok hg hts hO (tb_2 115 rfl) rfl, List.forall_mem_cons.mpr ⟨mx_ok hg hts hO (tb_2 180 rfl) rfl, List.forall_mem_cons.mpr ⟨mx_ok hg hts hO (tb_2 181 rfl) rfl, List.forall_mem_cons.mpr ⟨mx_ok hg hts hO (tb_2 182 rfl) rfl, List.forall_mem_cons.mpr ⟨mx_ok hg hts hO (tb_2 143 rfl) rfl, List.forall_mem_cons.mpr ⟨mx_ok hg hts hO (tb_2 101 rfl) rfl, List.forall_mem_cons.mpr ⟨mx_ok hg hts hO (tb_2 143 rfl) rfl, List.forall_mem_cons.mpr ⟨mx_ok hg hts hO (tb_2 144 rfl) rfl, List.forall_mem_cons.mpr ⟨mx_ok hg hts hO (tb_2 145 rfl) rfl, List.forall_mem_cons.mpr ⟨mx_ok hg hts hO (tb_2 146 rfl) rfl, List.forall_mem_cons.mpr ⟨mx_ok hg hts hO (tb_2 103 rfl) rfl, List.forall_mem_cons.mpr ⟨mx_ok hg hts hO (tb_2 146 rfl) rfl, List.forall_mem_cons.mpr ⟨mx_ok hg hts hO (tb_2 147 rfl) rfl, List.forall_mem_cons.mpr ⟨mx_ok hg hts hO (tb_2 148 rfl) rfl, List.forall_mem_cons.mpr ⟨mx_ok hg hts hO (tb_2 149 rfl) rfl, List.forall_mem_cons.mpr ⟨mx_ok hg hts hO (tb_2 105 rfl) rfl, List.forall_mem_cons.mpr ⟨mx_ok hg hts hO (tb_2 179 rfl) rfl, List.forall_mem_cons.mpr ⟨mx_ok hg hts hO (tb_2 170 rfl) rfl, List.forall_mem_cons.mpr ⟨mx_ok hg hts hO (tb_2 172 rfl) rfl, List.forall_mem_cons.mpr ⟨mx_ok hg hts hO (tb_2 131 rfl) rfl, List.forall_mem_cons.mpr ⟨mx_ok hg hts hO (tb_2 173 rfl) rfl, List.forall_mem_cons.mpr ⟨mx_ok hg hts hO (tb_2 174 rfl) rfl, List.forall_mem_cons.mpr ⟨mx_ok hg hts hO (tb_2 175 rfl) rfl, List.forall_mem_cons.mpr ⟨mx_ok hg hts hO (tb_2 176 rfl) rfl, List.forall_mem_cons.mpr ⟨mx_ok hg hts hO (tb_2 118 rfl) rfl, List.forall_mem_cons.mpr ⟨mx_ok hg hts hO (tb_2 117 rfl) rfl, List.forall_mem_cons.mpr ⟨mx_ok hg hts hO (tb_2 177 rfl) rfl, fun _ h => absurd h List.not_mem_nil⟩⟩⟩⟩⟩⟩⟩⟩⟩⟩⟩⟩⟩⟩⟩⟩⟩⟩⟩⟩⟩⟩⟩⟩⟩⟩⟩⟩⟩⟩⟩⟩⟩⟩⟩⟩⟩⟩⟩⟩⟩⟩⟩⟩⟩⟩⟩⟩⟩⟩⟩⟩⟩⟩
theorem mx_at2 {g : mc_G} (hg : mc_S0 g) {args : Array Value} {s : State} (hts : ∀ w ∈ WL0, w.before args s = true) (hO : mc_O g.2.2.2.2 g.2.2.1 s) : ∀ a ∈ mx_atoms RA 144 (exn0 2) 7 prog_12_method_2_code, a.before args s = true :=
  List.forall_mem_cons.mpr ⟨mx_ok hg hts hO (tb_1 10 rfl) rfl, List.forall_mem_cons.mpr ⟨mx_ok hg hts hO (tb_2 119 rfl) rfl, List.forall_mem_cons.mpr ⟨mx_ok hg hts hO (tb_2 128 rfl) rfl, List.forall_mem_cons.mpr ⟨mx_ok hg hts hO (tb_2 132 rfl) rfl, List.forall_mem_cons.mpr ⟨mx_ok hg hts hO (tb_2 135 rfl) rfl, List.forall_mem_cons.mpr ⟨mx_ok hg hts hO (tb_2 137 rfl) rfl, List.forall_mem_cons.mpr ⟨mx_ok hg hts hO (tb_2 120 rfl) rfl, List.forall_mem_cons.mpr ⟨mx_ok hg hts hO (tb_2 121 rfl) rfl, List.forall_mem_cons.mpr ⟨mx_ok hg hts hO (tb_1 29 rfl) rfl, List.forall_mem_cons.mpr ⟨mx_ok hg hts hO (tb_1 30 rfl) rfl, List.forall_mem_cons.mpr ⟨mx_ok hg hts hO (tb_2 122 rfl) rfl, List.forall_mem_cons.mpr ⟨mx_ok hg hts hO (tb_2 127 rfl) rfl, List.forall_mem_cons.mpr ⟨mx_ok hg hts hO (tb_2 133 rfl) rfl, List.forall_mem_cons.mpr ⟨mx_ok hg hts hO (tb_2 153 rfl) rfl, List.forall_mem_cons.mpr ⟨mx_ok hg hts hO (tb_2 109 rfl) rfl, List.forall_mem_cons.mpr ⟨mx_ok hg hts hO (tb_2 154 rfl) rfl, List.forall_mem_cons.mpr ⟨mx_ok hg hts hO (tb_2 111 rfl) rfl, List.forall_mem_cons.mpr ⟨mx_ok hg hts hO (tb_2 155 rfl) rfl, List.forall_mem_cons.mpr ⟨mx_ok hg hts hO (tb_2 113 rfl) rfl, List.forall_mem_cons.mpr ⟨mx_ok hg hts hO (tb_2 123 rfl) rfl, List.forall_mem_cons.mpr ⟨mx_ok hg hts hO (tb_2 124 rfl) rfl, List.forall_mem_cons.mpr ⟨mx_ok hg hts hO (tb_2 125 rfl) rfl, List.forall_mem_cons.mpr ⟨mx_ok hg hts hO (tb_2 126 rfl) rfl, List.forall_mem_cons.mpr ⟨mx_ok hg hts hO (tb_2 115 rfl) rfl, List.forall_mem_cons.mpr ⟨mx_ok hg hts hO (tb_2 149 rfl) rfl, List.forall_mem_cons.mpr ⟨mx_ok hg hts hO (tb_2 150 rfl) rfl, List.forall_mem_cons.mpr ⟨mx_ok hg hts hO (tb_2 152 rfl) rfl, List.forall_mem_cons.mpr ⟨mx_ok hg hts hO (tb_2 115 rfl) rfl, List.forall_mem_cons.mpr ⟨mx_ok hg hts hO (tb_3 28 rfl) rfl, List.forall_mem_cons.mpr ⟨mx_ok hg hts hO (tb_3 29 rfl) rfl, List.forall_mem_cons.mpr ⟨mx_ok hg hts hO (tb_3 30 rfl) rfl, List.forall_mem_cons.mpr ⟨mx_ok hg hts hO (tb_2 143 rfl) rfl, List.forall_mem_cons.mpr ⟨mx_ok hg hts hO (tb_2 101 rfl) rfl, List.forall_mem_cons.mpr ⟨mx_ok hg hts hO (tb_2 143 rfl) rfl, List.forall_mem_cons.mpr ⟨mx_ok hg hts hO (tb_2 144 rfl) rfl, List.forall_mem_cons.mpr ⟨mx_ok hg hts hO (tb_2 145 rfl) rfl, List.forall_mem_cons.mpr ⟨mx_ok hg hts hO (tb_2 146 rfl) rfl, List.forall_mem_cons.mpr ⟨mx_ok hg hts hO (tb_2 103 rfl) rfl, List.forall_mem_cons.mpr ⟨mx_ok hg hts hO (tb_2 146 rfl) rfl, List.forall_mem_cons.mpr ⟨mx_ok hg hts hO (tb_2 147 rfl) rfl, List.forall_mem_cons.mpr ⟨mx_ok hg hts hO (tb_2 148 rfl) rfl, List.forall_mem_cons.mpr ⟨mx_ok hg hts hO (tb_2 149 rfl) rfl, List.forall_mem_cons.mpr ⟨mx_ok hg hts hO (tb_2 105 rfl) rfl, List.forall_mem_cons.mpr ⟨mx_ok hg hts hO (tb_3 27 rfl) rfl, List.forall_mem_cons.mpr ⟨mx_ok hg hts hO (tb_3 18 rfl) rfl, List.forall_mem_cons.mpr ⟨mx_ok hg hts hO (tb_3 20 rfl) rfl, List.forall_mem_cons.mpr ⟨mx_ok hg hts hO (tb_2 130 rfl) rfl, List.forall_mem_cons.mpr ⟨mx_ok hg hts hO (tb_3 21 rfl) rfl, List.forall_mem_cons.mpr ⟨mx_ok hg hts hO (tb_3 22 rfl) rfl, List.forall_mem_cons.mpr ⟨mx_ok hg hts hO (tb_3 23 rfl) rfl, List.forall_mem_cons.mpr ⟨mx_ok hg hts hO (tb_3 24 rfl) rfl, List.forall_mem_cons.mpr ⟨mx_ok hg hts hO (tb_2 118 rfl) rfl, List.forall_mem_cons.mpr ⟨mx_ok hg hts hO (tb_2 117 rfl) rfl, List.forall_mem_cons.mpr ⟨mx_ok hg hts hO (tb_3 25 rfl) rfl, fun _ h => absurd h List.not_mem_nil⟩⟩⟩⟩⟩⟩⟩⟩⟩⟩⟩⟩⟩⟩⟩⟩⟩⟩⟩⟩⟩⟩⟩⟩⟩⟩⟩⟩⟩⟩⟩⟩⟩⟩⟩⟩⟩⟩⟩⟩⟩⟩⟩⟩⟩⟩⟩⟩⟩⟩⟩⟩⟩⟩
def mx_exok (tb : List mc_R) : Bool := tb.all fun q => match q.2.1 with
  | .new i => match mc_lk exA i with
    | some k => decide ((mc_lk tb (q.1 + 3)).map (fun r => (r.1, r.2.1)) = some (.dup, 1)) && (match ((mc_lk tb (q.1 + 4)).map (fun r => (r.1, r.2.1)) : Option (Instr × Nat)) with
      | some (Instr.ldc s, 2) => strA.contains s
      | _ => false) && decide ((mc_lk tb (q.1 + 6)).map (fun r => (r.1, r.2.1)) = some (.invokespecial (exc0 k), 3)) && decide ((mc_lk tb (q.1 + 9)).map (fun r => (r.1, r.2.1)) = some (.athrow, 1))
    | none => true
  | _ => true
theorem mx_strs {g : mc_G} (hg : mc_S0 g) {s : State} (hO : mc_O g.2.2.2.2 g.2.2.1 s) : ∀ k ∈ strA, ∃ tx q, vk_R RA k tx q s :=
  List.forall_mem_cons.mpr ⟨⟨_, mx_str hg hO (tb_2 138 rfl)⟩, List.forall_mem_cons.mpr ⟨⟨_, mx_str hg hO (tb_2 178 rfl)⟩, List.forall_mem_cons.mpr ⟨⟨_, mx_str hg hO (tb_2 209 rfl)⟩, List.forall_mem_cons.mpr ⟨⟨_, mx_str hg hO (tb_2 210 rfl)⟩, List.forall_mem_cons.mpr ⟨⟨_, mx_str hg hO (tb_2 226 rfl)⟩, List.forall_mem_cons.mpr ⟨⟨_, mx_str hg hO (tb_2 236 rfl)⟩, List.forall_mem_cons.mpr ⟨⟨_, mx_str hg hO (tb_3 5 rfl)⟩, List.forall_mem_cons.mpr ⟨⟨_, mx_str hg hO (tb_3 26 rfl)⟩, List.forall_mem_cons.mpr ⟨⟨_, mx_str hg hO (tb_3 68 rfl)⟩, List.forall_mem_cons.mpr ⟨⟨_, mx_str hg hO (tb_3 76 rfl)⟩, List.forall_mem_cons.mpr ⟨⟨_, mx_str hg hO (tb_3 87 rfl)⟩, List.forall_mem_cons.mpr ⟨⟨_, mx_str hg hO (tb_3 201 rfl)⟩, List.forall_mem_cons.mpr ⟨⟨_, mx_str hg hO (tb_3 202 rfl)⟩, List.forall_mem_cons.mpr ⟨⟨_, mx_str hg hO (tb_4 48 rfl)⟩, List.forall_mem_cons.mpr ⟨⟨_, mx_str hg hO (tb_4 56 rfl)⟩, fun _ h => absurd h List.not_mem_nil⟩⟩⟩⟩⟩⟩⟩⟩⟩⟩⟩⟩⟩⟩⟩
theorem mx_tbat {cc : ByteArray} {nL : Nat} {tb : List mc_R} (htb : mc_tbok cc nL tb = true) {pc : Nat} {x : Instr} {len : Nat} (h : (mc_lk tb pc).map (fun r => (r.1, r.2.1)) = some (x, len)) : decode cc pc = .ok (x, len) := by
  cases hq : mc_lk tb pc with
  | none => rw [hq] at h; cases h
  | some r =>
    rw [hq] at h
    have hrow := List.all_eq_true.mp htb _ (mc_lk_mem hq)
    simp only [Bool.and_eq_true, decide_eq_true_eq] at hrow
    have h2 : (r.1, r.2.1) = (x, len) := Option.some.inj h
    rw [← h2]
    exact hrow.1
theorem mx_eo {g : mc_G} (hg : mc_S0 g) {d : Nat} (hd : 6 ≤ d) {cc : ByteArray} {nL0 : Nat} {tb : List mc_R} (htb : mc_tbok cc nL0 tb = true) (hex : mx_exok tb = true) : mc_EO g.2.2.2.2 g.1 g.2.1 cl0 g.2.2.1 g.2.2.2.1 tab0 WL0 NW0 exn0 d RA cc tb exA := by
  intro p e R s m args below meth c Qr Qt nL n0 dn c0 hx hb hml hown hts hO hR hlocks hempty hw0 hf0 i k hk pc len tgt v ls n M L hlk hn hq
  have hrow := List.all_eq_true.mp htb _ (mc_lk_mem hlk)
  simp only [mc_ok, Bool.and_eq_true, decide_eq_true_eq, beq_iff_eq] at hrow
  obtain ⟨hd0, hlen⟩ := hrow
  subst hlen
  have h1 := List.all_eq_true.mp hex _ (mc_lk_mem hlk)
  simp only [hk, Bool.and_eq_true, decide_eq_true_eq] at h1
  obtain ⟨⟨⟨e1, e2⟩, e3⟩, e4⟩ := h1
  have hts' : ∀ w ∈ WL0, w.before args s = true := fun w hw => hts w (List.mem_cons_of_mem _ hw)
  have hs1 : ∃ args0 : Array Value, (∀ w ∈ tables_1, w.before args0 g.2.2.2.2 = true) ∧ (Cond.isRef (.static Bundle.tN "UNASSIGNED_STACK" Bundle.steD)).before args0 g.2.2.2.2 = true := by
    obtain ⟨-, -, a0, b0, b1, b2⟩ := hg
    exact ⟨a0, b0, b1⟩
  have hs2 : ∃ args0 : Array Value, (∀ w ∈ tables_1, w.before args0 g.2.2.2.2 = true) ∧ (Cond.isRef (.static Bundle.tN "SUPPRESSED_SENTINEL" Bundle.listD)).before args0 g.2.2.2.2 = true := by
    obtain ⟨-, -, a0, b0, b1, b2⟩ := hg
    exact ⟨a0, b0, b2⟩
  have hsU : (Cond.isRef (.static Bundle.tN "UNASSIGNED_STACK" Bundle.steD)).before args s = true := mx_sref hg hO (tb_2 124 rfl) (tb_1 10 rfl) hs1
  have hsS : (Cond.isRef (.static Bundle.tN "SUPPRESSED_SENTINEL" Bundle.listD)).before args s = true := mx_sref hg hO (tb_2 126 rfl) (tb_1 10 rfl) hs2
  revert e2
  split
  · next ks e2 =>
    intro hst
    obtain ⟨tx, q, hstr⟩ := mx_strs hg hO ks (by simpa using hst)
    have hmem := mc_lk_mem hk
    simp only [exA, List.mem_cons, Prod.mk.injEq, List.not_mem_nil, or_false] at hmem
    rcases hmem with ⟨rfl, rfl⟩ | ⟨rfl, rfl⟩ | ⟨rfl, rfl⟩
    · exact mv_throw (exn := exn0) (ix := 13) (bts := prog_22_method_4_code) hx hb hml hlocks hempty hg.1 hown (by decide +kernel) (by decide +kernel) (by decide +kernel) (by decide +kernel) (by decide +kernel) (mx_at0 hg hts' hO) (hts' _ (wl_t (tb_2 97 rfl) rfl)) (hts' _ (wl_t (tb_1 13 rfl) rfl)) hstr hsU hsS hR hd hw0 hd0 (mx_tbat htb e1) (mx_tbat htb e2) (mx_tbat htb e3) (mx_tbat htb e4) hn hf0 hq
    · exact mv_throw (exn := exn0) (ix := 7) (bts := prog_13_method_2_code) hx hb hml hlocks hempty hg.1 hown (by decide +kernel) (by decide +kernel) (by decide +kernel) (by decide +kernel) (by decide +kernel) (mx_at1 hg hts' hO) (hts' _ (wl_t (tb_2 169 rfl) rfl)) (hts' _ (wl_t (tb_1 14 rfl) rfl)) hstr hsU hsS hR hd hw0 hd0 (mx_tbat htb e1) (mx_tbat htb e2) (mx_tbat htb e3) (mx_tbat htb e4) hn hf0 hq
    · exact mv_throw (exn := exn0) (ix := 7) (bts := prog_12_method_2_code) hx hb hml hlocks hempty hg.1 hown (by decide +kernel) (by decide +kernel) (by decide +kernel) (by decide +kernel) (by decide +kernel) (mx_at2 hg hts' hO) (hts' _ (wl_t (tb_3 17 rfl) rfl)) (hts' _ (wl_t (tb_1 16 rfl) rfl)) hstr hsU hsS hR hd hw0 hd0 (mx_tbat htb e1) (mx_tbat htb e2) (mx_tbat htb e3) (mx_tbat htb e4) hn hf0 hq
  · intro h9
    cases h9
