/-! The machine over the abstract memory: a state of a walk is a place, the known locals, the stack, how many cells the world has, and the memory. -/
abbrev mc_K : Type := Nat → List (Option Value) → List Value → Nat → mc_M → mc_L → Prop
abbrev mc_PT : Type := List Value → Nat → mc_M → mc_L → (Option Value → mc_M → mc_L → Prop) → Prop
def mc_ty (cA : Nat → ClassId) : List (ClassId × FieldType) := [(cA 0, .int), (cA 1, .long), (cA 2, .char), (cA 3, .boolean)]
def mc_V (p : Program) (l : Launch) (e : Env) (R : Room) (s : State) (m : MethodId) (args : Array Value) (below : List Frame) (meth : Method) (c : Code) (Q : State → Prop) (D : va_G) (cl : List vw_C) (b : Nat) (cA : Nat → ClassId) (md : Bool) (tab : List mc_D) (nL n0 dn : Nat) : mc_K := fun pc ls st n M L =>
  (n0 ≤ n ∧ n ≤ n0 + dn) → (md = true → tab.length ≤ n) → ∀ (H : Heap) (locs : List Loc) (lsC : Array Slot), va_P D cl (mc_wd b cA md tab n M L) H → (md = false → H.size = b + n) → va_S (mc_A md b tab.length) s.heap H locs → mc_lv b nL ls lsC →
    W p l e R s m args below meth c H locs (n - n0) (mc_sl tab n - mc_sl tab n0) Q (F0 m pc lsC (st.map (mc_ga b)))
def mc_lk {α : Type} : List (Nat × α) → Nat → Option α
  | [], _ => none
  | (k, a) :: r, i => match Nat.beq k i with
    | true => some a
    | false => mc_lk r i
theorem mc_lk_mem {α : Type} : ∀ {l : List (Nat × α)} {i : Nat} {a : α}, mc_lk l i = some a → (i, a) ∈ l
  | [], i, a, h => by cases h
  | (k, x) :: r, i, a, h => by
    unfold mc_lk at h
    split at h
    · next hk =>
      have hk' := Nat.eq_of_beq_eq_true hk
      subst hk'
      cases h
      exact List.mem_cons_self
    · exact List.mem_cons_of_mem _ (mc_lk_mem h)
/-! taking values from the stack -/
def mc_pi (st : List Value) (k : Int32 → List Value → Prop) : Prop := match st with
  | .int x :: r => k x r
  | _ => False
def mc_pii (st : List Value) (k : Int32 → Int32 → List Value → Prop) : Prop := match st with
  | .int y :: .int x :: r => k x y r
  | _ => False
def mc_pl (st : List Value) (k : Int64 → List Value → Prop) : Prop := match st with
  | .long x :: r => k x r
  | _ => False
def mc_pll (st : List Value) (k : Int64 → Int64 → List Value → Prop) : Prop := match st with
  | .long y :: .long x :: r => k x y r
  | _ => False
def mc_pr (st : List Value) (k : Nat → List Value → Prop) : Prop := match st with
  | .ref a :: r => k a r
  | _ => False
def mc_pir (st : List Value) (k : Int32 → Nat → List Value → Prop) : Prop := match st with
  | .int i :: .ref a :: r => k i a r
  | _ => False
def mc_piir (st : List Value) (k : Int32 → Int32 → Nat → List Value → Prop) : Prop := match st with
  | .int x :: .int i :: .ref a :: r => k x i a r
  | _ => False
def mc_plir (st : List Value) (k : Int64 → Int32 → Nat → List Value → Prop) : Prop := match st with
  | .long x :: .int i :: .ref a :: r => k x i a r
  | _ => False
def mc_pvr (st : List Value) (k : Value → Nat → List Value → Prop) : Prop := match st with
  | v :: .ref a :: r => k v a r
  | _ => False
theorem mc_pi_e {st : List Value} {k : Int32 → List Value → Prop} (h : mc_pi st k) : ∃ x r, st = .int x :: r ∧ k x r := by
  unfold mc_pi at h; split at h
  · exact ⟨_, _, rfl, h⟩
  · exact h.elim
theorem mc_pii_e {st : List Value} {k : Int32 → Int32 → List Value → Prop} (h : mc_pii st k) : ∃ x y r, st = .int y :: .int x :: r ∧ k x y r := by
  unfold mc_pii at h; split at h
  · exact ⟨_, _, _, rfl, h⟩
  · exact h.elim
theorem mc_pl_e {st : List Value} {k : Int64 → List Value → Prop} (h : mc_pl st k) : ∃ x r, st = .long x :: r ∧ k x r := by
  unfold mc_pl at h; split at h
  · exact ⟨_, _, rfl, h⟩
  · exact h.elim
theorem mc_pll_e {st : List Value} {k : Int64 → Int64 → List Value → Prop} (h : mc_pll st k) : ∃ x y r, st = .long y :: .long x :: r ∧ k x y r := by
  unfold mc_pll at h; split at h
  · exact ⟨_, _, _, rfl, h⟩
  · exact h.elim
theorem mc_pr_e {st : List Value} {k : Nat → List Value → Prop} (h : mc_pr st k) : ∃ a r, st = .ref a :: r ∧ k a r := by
  unfold mc_pr at h; split at h
  · exact ⟨_, _, rfl, h⟩
  · exact h.elim
theorem mc_pir_e {st : List Value} {k : Int32 → Nat → List Value → Prop} (h : mc_pir st k) : ∃ i a r, st = .int i :: .ref a :: r ∧ k i a r := by
  unfold mc_pir at h; split at h
  · exact ⟨_, _, _, rfl, h⟩
  · exact h.elim
theorem mc_piir_e {st : List Value} {k : Int32 → Int32 → Nat → List Value → Prop} (h : mc_piir st k) : ∃ x i a r, st = .int x :: .int i :: .ref a :: r ∧ k x i a r := by
  unfold mc_piir at h; split at h
  · exact ⟨_, _, _, _, rfl, h⟩
  · exact h.elim
theorem mc_plir_e {st : List Value} {k : Int64 → Int32 → Nat → List Value → Prop} (h : mc_plir st k) : ∃ x i a r, st = .long x :: .int i :: .ref a :: r ∧ k x i a r := by
  unfold mc_plir at h; split at h
  · exact ⟨_, _, _, _, rfl, h⟩
  · exact h.elim
theorem mc_pvr_e {st : List Value} {k : Value → Nat → List Value → Prop} (h : mc_pvr st k) : ∃ v a r, st = v :: .ref a :: r ∧ k v a r := by
  unfold mc_pvr at h; split at h
  · exact ⟨_, _, _, rfl, h⟩
  · exact h.elim
/-- a local -/
def mc_li (ls : List (Option Value)) (i : Nat) (k : Int32 → Prop) : Prop := match mc_at ls i with
  | some (some (.int x)) => k x
  | _ => False
def mc_ll (ls : List (Option Value)) (i : Nat) (k : Int64 → Prop) : Prop := match mc_at ls i with
  | some (some (.long x)) => k x
  | _ => False
def mc_lr (ls : List (Option Value)) (i : Nat) (k : Value → Prop) : Prop := match mc_at ls i with
  | some (some (.ref x)) => k (.ref x)
  | some (some (.retAddr x)) => k (.retAddr x)
  | _ => False
theorem mc_li_e {ls : List (Option Value)} {i : Nat} {k : Int32 → Prop} (h : mc_li ls i k) : ∃ x, mc_at ls i = some (some (.int x)) ∧ k x := by
  unfold mc_li at h; split at h
  · next hx => exact ⟨_, hx, h⟩
  · exact h.elim
theorem mc_ll_e {ls : List (Option Value)} {i : Nat} {k : Int64 → Prop} (h : mc_ll ls i k) : ∃ x, mc_at ls i = some (some (.long x)) ∧ k x := by
  unfold mc_ll at h; split at h
  · next hx => exact ⟨_, hx, h⟩
  · exact h.elim
theorem mc_lr_e {ls : List (Option Value)} {i : Nat} {k : Value → Prop} (h : mc_lr ls i k) (b : Nat) : ∃ v x, mc_at ls i = some (some v) ∧ mc_ga b v = .ref x ∧ k v := by
  unfold mc_lr at h; split at h
  · next x hx => exact ⟨.ref x, b + x, hx, rfl, h⟩
  · next x hx => exact ⟨.retAddr x, x, hx, rfl, h⟩
  · exact h.elim
/-- a cell that is there -/
def mc_in (md : Bool) (a n : Nat) (P : Prop) : Prop := match md with
  | true => P
  | false => a < n ∧ P
theorem mc_in_e {md : Bool} {a n : Nat} {P : Prop} {tab : List mc_D} {d : mc_D} (h : mc_in md a n P) (hf : md = true → tab.length ≤ n) (hd : tab[a]? = some d) : a < n ∧ P := by
  have hl : a < tab.length := (List.getElem?_eq_some_iff.mp hd).1
  cases md with
  | true => exact ⟨Nat.lt_of_lt_of_le hl (hf rfl), h⟩
  | false => exact h
/-- an array; an object of a class -/
def mc_ar (md : Bool) (tab : List mc_D) (a n t : Nat) (k : Nat → Prop) : Prop := match mc_at tab a with
  | some (.inl (t', len)) => match Nat.beq t t' with
    | true => mc_in md a n (k len)
    | false => False
  | _ => False
theorem mc_ar_e {md : Bool} {tab : List mc_D} {a n t : Nat} {k : Nat → Prop} (h : mc_ar md tab a n t k) (hf : md = true → tab.length ≤ n) : ∃ len, tab[a]? = some (.inl (t, len)) ∧ a < n ∧ k len := by
  unfold mc_ar at h; split at h
  · next t' len hd =>
    rw [mc_at_eq] at hd
    split at h
    · next hb =>
      have := Nat.eq_of_beq_eq_true hb
      subst this
      obtain ⟨h1, h2⟩ := mc_in_e h hf hd
      exact ⟨len, hd, h1, h2⟩
    · exact h.elim
  · exact h.elim
def mc_ob (md : Bool) (tab : List mc_D) (a n ci k : Nat) (kk : Nat → Prop) : Prop := match mc_at tab a with
  | some (.inr (ci', fds)) => match Nat.beq ci ci' with
    | true => match mc_at fds k with
      | some fd => mc_in md a n (kk fd)
      | none => False
    | false => False
  | _ => False
theorem mc_ob_e {md : Bool} {tab : List mc_D} {a n ci k : Nat} {kk : Nat → Prop} (h : mc_ob md tab a n ci k kk) (hf : md = true → tab.length ≤ n) : ∃ fds fd, tab[a]? = some (.inr (ci, fds)) ∧ fds[k]? = some fd ∧ a < n ∧ kk fd := by
  unfold mc_ob at h; split at h
  · next ci' fds hd =>
    rw [mc_at_eq] at hd
    split at h
    · next hb =>
      have := Nat.eq_of_beq_eq_true hb
      subst this
      split at h
      · next fd hk =>
        rw [mc_at_eq] at hk
        obtain ⟨h1, h2⟩ := mc_in_e h hf hd
        exact ⟨fds, fd, hd, hk, h1, h2⟩
      · exact h.elim
    · exact h.elim
  · exact h.elim
/-- what a field gives -/
def mc_gf (md : Bool) (M : mc_M) (i k fd : Nat) (kk : Value → Prop) : Prop := match fd with
  | 0 => kk (.int (M i k))
  | 1 => M i k ≠ 0 ∧ kk (.ref (M i k).toNatClampNeg)
  | 2 => kk (.int (M i k))
  | r + 3 => match md with
    | true => kk (.ref r)
    | false => M i k ≠ 0 ∧ kk (.ref r)
theorem mc_gf_e {md : Bool} {M : mc_M} {i k fd : Nat} {kk : Value → Prop} (h : mc_gf md M i k fd kk) : kk (mc_fv md M i k fd) := by
  match fd, h with
  | 0, h => exact h
  | 1, h =>
    show kk (if M i k = 0 then .null else .ref (M i k).toNatClampNeg)
    rw [if_neg h.1]
    exact h.2
  | 2, h => exact h
  | r + 3, h =>
    show kk (if md = true then .ref r else if M i k = 0 then .null else .ref r)
    cases md with
    | true => exact h
    | false =>
      rw [if_neg (by decide), if_neg h.1]
      exact h.2
/-- what a field takes: an int; a reference to a cell, as its number; a boolean; the one reference that it may hold -/
def mc_pf (M : mc_M) (i k fd : Nat) (v : Value) (kk : Int32 → Prop) : Prop := match fd with
  | 0 => match v with
    | .int x => kk x
    | _ => False
  | 1 => match v with
    | .ref r => Int32.ofNat r ≠ 0 ∧ (Int32.ofNat r).toNatClampNeg = r ∧ kk (Int32.ofNat r)
    | _ => False
  | 2 => match v with
    | .int x => (x = 0 ∨ x = 1) ∧ kk x
    | _ => False
  | r + 3 => match v with
    | .ref r' => match Nat.beq r r' with
      | true => kk 1
      | false => False
    | _ => False
theorem mc_pf_e {md : Bool} {M : mc_M} {i k fd : Nat} {v : Value} {kk : Int32 → Prop} (h : mc_pf M i k fd v kk) : ∃ x, kk x ∧ mc_fv md (mc_put M i k x) i k fd = v ∧ ((∃ z, v = .int z ∧ (fd = 0 ∨ (fd = 2 ∧ (z = 0 ∨ z = 1)))) ∨ (∃ r, v = .ref r ∧ fd ≠ 0 ∧ fd ≠ 2)) := by
  have hp : ∀ x, mc_put M i k x i k = x := fun x => by
    show mc_set M i (upd (M i) k x) i k = x
    rw [mc_set_s, pk_us]
  match fd, h with
  | 0, h =>
    cases v with
    | int x => exact ⟨x, h, by show Value.int _ = _; rw [hp], Or.inl ⟨x, rfl, Or.inl rfl⟩⟩
    | _ => exact False.elim h
  | 1, h =>
    cases v with
    | ref r =>
      obtain ⟨h1, h2, h3⟩ : Int32.ofNat r ≠ 0 ∧ (Int32.ofNat r).toNatClampNeg = r ∧ kk (Int32.ofNat r) := h
      refine ⟨Int32.ofNat r, h3, ?_, Or.inr ⟨r, rfl, by decide, by decide⟩⟩
      show (if mc_put M i k (Int32.ofNat r) i k = 0 then Value.null else .ref (mc_put M i k (Int32.ofNat r) i k).toNatClampNeg) = _
      rw [hp, if_neg h1, h2]
    | _ => exact False.elim h
  | 2, h =>
    cases v with
    | int x =>
      obtain ⟨h1, h2⟩ : (x = 0 ∨ x = 1) ∧ kk x := h
      exact ⟨x, h2, by show Value.int _ = _; rw [hp], Or.inl ⟨x, rfl, Or.inr ⟨rfl, h1⟩⟩⟩
    | _ => exact False.elim h
  | r + 3, h =>
    cases v with
    | ref r' =>
      have h' : (match Nat.beq r r' with
        | true => kk 1
        | false => False) := h
      split at h'
      · next hb =>
        have := Nat.eq_of_beq_eq_true hb
        subst this
        refine ⟨1, h', ?_, Or.inr ⟨r, rfl, by omega, by omega⟩⟩
        show (if md = true then Value.ref r else if mc_put M i k 1 i k = 0 then .null else .ref r) = _
        rw [hp]
        split
        · rfl
        · rw [if_neg (by decide)]
      · exact h'.elim
    | _ => exact False.elim h
/-- the arguments of a call -/
def mc_tk : Nat → List Value → List Value → Option (List Value × List Value)
  | 0, st, acc => some (acc, st)
  | k + 1, v :: r, acc => mc_tk k r (v :: acc)
  | _ + 1, [], _ => none
theorem mc_tk_e : ∀ (k : Nat) (st acc av r : List Value), mc_tk k st acc = some (av, r) → ∃ a1, av = a1 ++ acc ∧ st = a1.reverse ++ r ∧ a1.length = k
  | 0, st, acc, av, r, h => by
    cases h
    exact ⟨[], rfl, rfl, rfl⟩
  | k + 1, v :: r0, acc, av, r, h => by
    obtain ⟨a1, h1, h2, h3⟩ := mc_tk_e k r0 (v :: acc) av r h
    exact ⟨a1 ++ [v], by simp [h1], by simp [h2], by simp [h3]⟩
  | k + 1, [], acc, av, r, h => by cases h
def mc_w (st : List Value) : Nat := match st with
  | [] => 0
  | v :: r => v.category + mc_w r
theorem mc_w_eq (b : Nat) : ∀ st : List Value, ((st.map (mc_ga b)).map fun v => v.category).sum = mc_w st
  | [] => rfl
  | v :: r => by
    have h := mc_w_eq b r
    simp only [List.map_cons, List.sum_cons, mc_w, mc_ga_cat, h]
/-- a switch -/
def mc_sw (x : Int32) (cs : List (Int32 × Nat)) (d : Nat) (k : Nat → Prop) : Prop := match cs with
  | [] => True ∧ k d
  | (v, t) :: r => (x = v → k t) ∧ (¬ x = v → mc_sw x r d k)
def mc_fi (x : Int32) (cs : List (Int32 × Nat)) (d : Nat) : Nat := match cs with
  | [] => d
  | (v, t) :: r => if x = v then t else mc_fi x r d
theorem mc_sw_e {x : Int32} {d : Nat} {k : Nat → Prop} : ∀ {cs : List (Int32 × Nat)}, mc_sw x cs d k → k (mc_fi x cs d)
  | [], h => h.2
  | (v, t) :: r, h => by
    unfold mc_fi
    split
    · next e => exact h.1 e
    · next e => exact mc_sw_e (h.2 e)
