/-! The abstract memory: cell i of the world lies at address b + i; its row M i holds its ints (an array's elements, an object's fields), L i its longs. -/
abbrev mc_M : Type := Nat → Nat → Int32
abbrev mc_L : Type := Nat → Nat → Int64
/-- what a cell is: an array (its type's number: 0 int, 1 long, 2 char, 3 boolean; its length), or an object (its class's number; its fields: 0 int, 1 a reference that M tells, 2 boolean, r + 3 the reference to cell r) -/
abbrev mc_D : Type := (Nat × Nat) ⊕ (Nat × List Nat)
/-- .ref i is cell i of the world; .retAddr a stands for the reference a itself (an array outside the world: the script) -/
def mc_ga (b : Nat) (v : Value) : Value := match v with
  | .ref i => .ref (b + i)
  | .retAddr a => .ref a
  | w => w
theorem mc_ga_cat (b : Nat) (v : Value) : (mc_ga b v).category = v.category := by cases v <;> rfl
def mc_fv (md : Bool) (M : mc_M) (i k : Nat) (fd : Nat) : Value := match fd with
  | 0 => .int (M i k)
  | 1 => if M i k = 0 then .null else .ref (M i k).toNatClampNeg
  | 2 => .int (M i k)
  | r + 3 => if md = true then .ref r else if M i k = 0 then .null else .ref r
def mc_cell (md : Bool) (M : mc_M) (L : mc_L) (i : Nat) (d : mc_D) : va_E := match d with
  | .inl (t, n) => if t = 1 then .inl (t, n, .inr (.inl (L i))) else .inl (t, n, .inl (M i))
  | .inr (ci, fds) => .inr (ci, fds.mapIdx (fun k fd => mc_fv md M i k fd))
def mc_gE (b : Nat) (cA : Nat → ClassId) (x : va_E) : va_E := match x with
  | .inl (t, a) => .inl (cA t, a)
  | .inr (ci, fs) => .inr (ci, fs.map (mc_ga b))
def mc_wd (b : Nat) (cA : Nat → ClassId) (md : Bool) (tab : List mc_D) (n : Nat) (M : mc_M) (L : mc_L) : va_W :=
  (tab.take n).mapIdx (fun i d => (b + i, mc_gE b cA (mc_cell md M L i d)))
def mc_set (M : mc_M) (i : Nat) (f : Nat → Int32) : mc_M := fun j => if j = i then f else M j
def mc_put (M : mc_M) (i k : Nat) (x : Int32) : mc_M := mc_set M i (upd (M i) k x)
def mc_setL (L : mc_L) (i : Nat) (f : Nat → Int64) : mc_L := fun j => if j = i then f else L j
def mc_putL (L : mc_L) (i k : Nat) (x : Int64) : mc_L := mc_setL L i (vp_updL (L i) k x)
def mc_A (md : Bool) (b N : Nat) : Nat → Prop := fun q => b ≤ q ∧ (md = true → q < b + N)
/-- how many slots the first n cells take (a cell behind the world is a thrown object: 6) -/
def mc_sz (d : mc_D) : Nat := match d with
  | .inl (_, n) => n
  | .inr (_, fds) => fds.length
def mc_sl : List mc_D → Nat → Nat
  | _, 0 => 0
  | [], n + 1 => 6 + mc_sl [] n
  | d :: r, n + 1 => mc_sz d + mc_sl r n
section MCW
variable {b : Nat} {cA : Nat → ClassId} {md : Bool} {tab : List mc_D} {n : Nat} {M M' : mc_M} {L L' : mc_L} {i : Nat}
theorem mc_set_s {f : Nat → Int32} : mc_set M i f i = f := by simp [mc_set]
theorem mc_set_n {f : Nat → Int32} {j : Nat} (h : j ≠ i) : mc_set M i f j = M j := by simp [mc_set, h]
theorem mc_setL_s {f : Nat → Int64} : mc_setL L i f i = f := by simp [mc_setL]
theorem mc_setL_n {f : Nat → Int64} {j : Nat} (h : j ≠ i) : mc_setL L i f j = L j := by simp [mc_setL, h]
theorem mc_fv_congr {k fd : Nat} (h : M i k = M' i k) : mc_fv md M i k fd = mc_fv md M' i k fd := by
  unfold mc_fv
  split <;> simp [h]
theorem mc_cell_congr {d : mc_D} (h : M i = M' i) (hL : L i = L' i) : mc_cell md M L i d = mc_cell md M' L' i d := by
  unfold mc_cell
  split
  · rw [h, hL]
  · congr 2
    apply List.ext_getElem?
    intro j
    rw [List.getElem?_mapIdx, List.getElem?_mapIdx]
    congr 1
    funext fd
    exact mc_fv_congr (by rw [h])
theorem mc_wd_at (i : Nat) : (mc_wd b cA md tab n M L)[i]? = if i < n then (tab[i]?).map (fun d => (b + i, mc_gE b cA (mc_cell md M L i d))) else none := by
  unfold mc_wd
  rw [List.getElem?_mapIdx, List.getElem?_take]
  split <;> rfl
theorem mc_wd_some {q : Nat × va_E} (h : (mc_wd b cA md tab n M L)[i]? = some q) : i < n ∧ ∃ d, tab[i]? = some d ∧ q = (b + i, mc_gE b cA (mc_cell md M L i d)) := by
  rw [mc_wd_at] at h
  split at h
  · next hi =>
    cases hd : tab[i]? with
    | none => rw [hd] at h; cases h
    | some d =>
      rw [hd] at h
      exact ⟨hi, d, rfl, (Option.some.inj h).symm⟩
  · cases h
theorem mc_wd_in {d : mc_D} (hi : i < n) (hd : tab[i]? = some d) : (mc_wd b cA md tab n M L)[i]? = some (b + i, mc_gE b cA (mc_cell md M L i d)) := by
  rw [mc_wd_at, if_pos hi, hd]
  rfl
theorem mc_wd_D : va_D (mc_A md b tab.length) (mc_wd b cA md tab n M L) := by
  refine ⟨fun i j p q hp hq e => ?_, fun k q hq => ?_⟩
  · obtain ⟨-, d, -, rfl⟩ := mc_wd_some hp
    obtain ⟨-, d', -, rfl⟩ := mc_wd_some hq
    have e' : b + i = b + j := e
    omega
  · obtain ⟨-, d, hd, rfl⟩ := mc_wd_some hq
    have hl : k < tab.length := (List.getElem?_eq_some_iff.mp hd).1
    exact ⟨Nat.le_add_right _ _, fun _ => Nat.add_lt_add_left hl _⟩
theorem mc_wd_full {n' : Nat} (h : tab.length ≤ n) (h' : tab.length ≤ n') : mc_wd b cA md tab n M L = mc_wd b cA md tab n' M L := by
  unfold mc_wd
  rw [List.take_of_length_le h, List.take_of_length_le h']
theorem mc_wd_set {d : mc_D} {x : va_E} (hi : i < n) (hd : tab[i]? = some d) (hx : mc_gE b cA (mc_cell md M' L' i d) = x) (hM : ∀ j, j ≠ i → M' j = M j) (hL : ∀ j, j ≠ i → L' j = L j) :
    (mc_wd b cA md tab n M L).set i (b + i, x) = mc_wd b cA md tab n M' L' := by
  apply List.ext_getElem?
  intro j
  rw [List.getElem?_set]
  by_cases hj : i = j
  · subst hj
    have hlen : i < (mc_wd b cA md tab n M L).length := (List.getElem?_eq_some_iff.mp (mc_wd_in hi hd)).1
    rw [if_pos rfl, if_pos hlen, mc_wd_in hi hd, hx]
  · rw [if_neg hj, mc_wd_at, mc_wd_at]
    by_cases hn : j < n
    · rw [if_pos hn, if_pos hn]
      congr 1
      funext d'
      rw [mc_cell_congr (hM j (Ne.symm hj)).symm (hL j (Ne.symm hj)).symm]
    · rw [if_neg hn, if_neg hn]
theorem mc_set_arr {t len : Nat} {f : Nat → Int32} (hi : i < n) (hd : tab[i]? = some (.inl (t, len))) (ht : t ≠ 1) : (mc_wd b cA md tab n M L).set i (b + i, .inl (cA t, len, .inl f)) = mc_wd b cA md tab n (mc_set M i f) L :=
  mc_wd_set hi hd (by simp [mc_cell, ht, mc_gE, mc_set_s]) (fun j hj => mc_set_n hj) (fun _ _ => rfl)
theorem mc_set_arrL {len : Nat} {f : Nat → Int64} (hi : i < n) (hd : tab[i]? = some (.inl (1, len))) : (mc_wd b cA md tab n M L).set i (b + i, .inl (cA 1, len, .inr (.inl f))) = mc_wd b cA md tab n M (mc_setL L i f) :=
  mc_wd_set hi hd (by simp [mc_cell, mc_gE, mc_setL_s]) (fun _ _ => rfl) (fun j hj => mc_setL_n hj)
theorem mc_set_fld {ci k fd : Nat} {fds : List Nat} {x : Int32} {v : Value} (hi : i < n) (hd : tab[i]? = some (.inr (ci, fds))) (hk : fds[k]? = some fd) (hv : mc_fv md (mc_put M i k x) i k fd = v) :
    (mc_wd b cA md tab n M L).set i (b + i, .inr (ci, ((fds.mapIdx (fun k fd => mc_fv md M i k fd)).map (mc_ga b)).set k (mc_ga b v))) = mc_wd b cA md tab n (mc_put M i k x) L := by
  refine mc_wd_set hi hd ?_ (fun j hj => mc_set_n hj) (fun _ _ => rfl)
  show (Sum.inr (ci, ((fds.mapIdx (fun j fd => mc_fv md (mc_put M i k x) i j fd)).map (mc_ga b))) : va_E) = _
  congr 2
  apply List.ext_getElem?
  intro j
  rw [List.getElem?_set]
  have hkl : k < fds.length := (List.getElem?_eq_some_iff.mp hk).1
  by_cases hj : k = j
  · subst hj
    rw [if_pos rfl, if_pos (by simpa using hkl), List.getElem?_map, List.getElem?_mapIdx, hk]
    simp [hv]
  · rw [if_neg hj, List.getElem?_map, List.getElem?_mapIdx, List.getElem?_map, List.getElem?_mapIdx]
    congr 2
    funext fd'
    refine mc_fv_congr ?_
    show mc_set M i (upd (M i) k x) i j = M i j
    rw [mc_set_s, pk_un (Ne.symm hj)]
end MCW
/-! locals -/
def mc_at {α : Type} : List α → Nat → Option α
  | [], _ => none
  | a :: _, 0 => some a
  | _ :: r, i + 1 => mc_at r i
theorem mc_at_eq {α : Type} : ∀ (l : List α) (i : Nat), mc_at l i = l[i]?
  | [], i => by simp [mc_at]
  | a :: r, 0 => by simp [mc_at]
  | a :: r, i + 1 => by simp [mc_at, mc_at_eq r i]
def mc_k (o : Option Value) : Option Value := match o with
  | some (.long _) => none
  | some (.double _) => none
  | o => o
theorem mc_k_some {o : Option Value} {w : Value} (h : mc_k o = some w) : o = some w ∧ w.category = 1 := by
  unfold mc_k at h
  split at h
  · cases h
  · cases h
  · subst h
    refine ⟨rfl, ?_⟩
    cases w with
    | long x => next h1 h2 => exact absurd rfl (h1 x)
    | double x => next h1 h2 => exact absurd rfl (h2 x)
    | _ => rfl
def mc_st1 : List (Option Value) → Nat → Value → List (Option Value)
  | [], _, _ => []
  | _ :: r, 0, v => some v :: r
  | o :: r, 1, v => mc_k o :: mc_st1 r 0 v
  | o :: r, i + 2, v => o :: mc_st1 r (i + 1) v
def mc_st2 : List (Option Value) → Nat → Value → List (Option Value)
  | [], _, _ => []
  | [_], 0, v => [some v]
  | _ :: _ :: r, 0, v => some v :: none :: r
  | o :: r, 1, v => mc_k o :: mc_st2 r 0 v
  | o :: r, i + 2, v => o :: mc_st2 r (i + 1) v
theorem mc_st1_at : ∀ (ls : List (Option Value)) (i : Nat) (v : Value) (j : Nat) (w : Value), (mc_st1 ls i v)[j]? = some (some w) → (j = i ∧ w = v) ∨ (j ≠ i ∧ ls[j]? = some (some w) ∧ ¬ (j + 1 = i ∧ w.category = 2))
  | [], i, v, j, w, h => by simp [mc_st1] at h
  | o :: r, 0, v, 0, w, h => by
    simp [mc_st1] at h
    exact Or.inl ⟨rfl, h.symm⟩
  | o :: r, 0, v, j + 1, w, h => by
    simp [mc_st1] at h
    exact Or.inr ⟨by omega, by simpa using h, by omega⟩
  | o :: r, 1, v, 0, w, h => by
    simp [mc_st1] at h
    obtain ⟨h1, h2⟩ := mc_k_some h
    exact Or.inr ⟨by omega, by simp [h1], fun h => by omega⟩
  | o :: r, 1, v, j + 1, w, h => by
    simp only [mc_st1, List.getElem?_cons_succ] at h
    rcases mc_st1_at r 0 v j w h with ⟨h1, h2⟩ | ⟨h1, h2, h3⟩
    · exact Or.inl ⟨by omega, h2⟩
    · exact Or.inr ⟨by omega, by simpa using h2, by omega⟩
  | o :: r, i + 2, v, 0, w, h => by
    simp [mc_st1] at h
    exact Or.inr ⟨by omega, by simp [h], by omega⟩
  | o :: r, i + 2, v, j + 1, w, h => by
    simp only [mc_st1, List.getElem?_cons_succ] at h
    rcases mc_st1_at r (i + 1) v j w h with ⟨h1, h2⟩ | ⟨h1, h2, h3⟩
    · exact Or.inl ⟨by omega, h2⟩
    · exact Or.inr ⟨by omega, by simpa using h2, by omega⟩
theorem mc_st2_at : ∀ (ls : List (Option Value)) (i : Nat) (v : Value) (j : Nat) (w : Value), (mc_st2 ls i v)[j]? = some (some w) → (j = i ∧ w = v) ∨ (j ≠ i ∧ j ≠ i + 1 ∧ ls[j]? = some (some w) ∧ ¬ (j + 1 = i ∧ w.category = 2))
  | [], i, v, j, w, h => by simp [mc_st2] at h
  | [o], 0, v, 0, w, h => by
    simp [mc_st2] at h
    exact Or.inl ⟨rfl, h.symm⟩
  | [o], 0, v, j + 1, w, h => by simp [mc_st2] at h
  | o :: o2 :: r, 0, v, 0, w, h => by
    simp [mc_st2] at h
    exact Or.inl ⟨rfl, h.symm⟩
  | o :: o2 :: r, 0, v, 1, w, h => by simp [mc_st2] at h
  | o :: o2 :: r, 0, v, j + 2, w, h => by
    simp [mc_st2] at h
    exact Or.inr ⟨by omega, by omega, by simpa using h, by omega⟩
  | o :: r, 1, v, 0, w, h => by
    simp [mc_st2] at h
    obtain ⟨h1, h2⟩ := mc_k_some h
    exact Or.inr ⟨by omega, by omega, by simp [h1], fun h => by omega⟩
  | o :: r, 1, v, j + 1, w, h => by
    simp only [mc_st2, List.getElem?_cons_succ] at h
    rcases mc_st2_at r 0 v j w h with ⟨h1, h2⟩ | ⟨h1, h2, h3, h4⟩
    · exact Or.inl ⟨by omega, h2⟩
    · exact Or.inr ⟨by omega, by omega, by simpa using h3, by omega⟩
  | o :: r, i + 2, v, 0, w, h => by
    simp [mc_st2] at h
    exact Or.inr ⟨by omega, by omega, by simp [h], by omega⟩
  | o :: r, i + 2, v, j + 1, w, h => by
    simp only [mc_st2, List.getElem?_cons_succ] at h
    rcases mc_st2_at r (i + 1) v j w h with ⟨h1, h2⟩ | ⟨h1, h2, h3, h4⟩
    · exact Or.inl ⟨by omega, h2⟩
    · exact Or.inr ⟨by omega, by omega, by simpa using h3, by omega⟩
def mc_lst (b : Nat) (ls : List (Option Value)) : List (Nat × Value) := ls.zipIdx.filterMap (fun q => q.1.map (fun v => (q.2, mc_ga b v)))
theorem mc_lst_mem {b : Nat} {ls : List (Option Value)} {q : Nat × Value} : q ∈ mc_lst b ls ↔ ∃ v, ls[q.1]? = some (some v) ∧ q.2 = mc_ga b v := by
  unfold mc_lst
  rw [List.mem_filterMap]
  constructor
  · rintro ⟨⟨o, i⟩, hm, hq⟩
    have hi := List.mem_zipIdx_iff_getElem?.mp hm
    cases o with
    | none => cases hq
    | some v =>
      have hq' := Option.some.inj hq
      subst hq'
      exact ⟨v, hi, rfl⟩
  · rintro ⟨v, h1, h2⟩
    refine ⟨(some v, q.1), List.mem_zipIdx_iff_getElem?.mpr h1, ?_⟩
    show some (q.1, mc_ga b v) = some q
    rw [← h2]
def mc_lv (b nL : Nat) (ls : List (Option Value)) (lsC : Array Slot) : Prop := lv_has lsC nL (mc_lst b ls)
theorem mc_lv_at {b nL i : Nat} {ls : List (Option Value)} {lsC : Array Slot} {v : Value} (h : mc_lv b nL ls lsC) (hi : mc_at ls i = some (some v)) : lsC[i]? = some (.val (mc_ga b v)) :=
  h.2.2 (i, mc_ga b v) (mc_lst_mem.mpr ⟨v, by rw [← mc_at_eq]; exact hi, rfl⟩)
theorem mc_lv_st1 {b nL i : Nat} {ls : List (Option Value)} {lsC : Array Slot} {v : Value} (h : lv_has lsC nL ((i, mc_ga b v) :: (mc_lst b ls).filter (fun q => !(q.1 == i) && !(q.1 + 1 == i && q.2.category == 2)))) : mc_lv b nL (mc_st1 ls i v) lsC := by
  refine ⟨h.1, h.2.1, fun q hq => ?_⟩
  obtain ⟨w, h1, h2⟩ := mc_lst_mem.mp hq
  rcases mc_st1_at ls i v q.1 w h1 with ⟨e1, e2⟩ | ⟨e1, e2, e3⟩
  · rw [e1, h2, e2]
    exact h.2.2 _ List.mem_cons_self
  · refine h.2.2 q (List.mem_cons_of_mem _ (List.mem_filter.mpr ⟨mc_lst_mem.mpr ⟨w, e2, h2⟩, ?_⟩))
    have hc : q.2.category = w.category := by rw [h2, mc_ga_cat]
    rw [hc]
    by_cases hx : q.1 + 1 = i
    · have : ¬ w.category = 2 := fun z => e3 ⟨hx, z⟩
      simp [e1, this]
    · simp [e1, hx]
theorem mc_lv_st2 {b nL i : Nat} {ls : List (Option Value)} {lsC : Array Slot} {v : Value} (h : lv_has lsC nL ((i, mc_ga b v) :: (mc_lst b ls).filter (fun q => !(q.1 == i) && (!(q.1 == i + 1) && !(q.1 + 1 == i && q.2.category == 2))))) : mc_lv b nL (mc_st2 ls i v) lsC := by
  refine ⟨h.1, h.2.1, fun q hq => ?_⟩
  obtain ⟨w, h1, h2⟩ := mc_lst_mem.mp hq
  rcases mc_st2_at ls i v q.1 w h1 with ⟨e1, e2⟩ | ⟨e1, e0, e2, e3⟩
  · rw [e1, h2, e2]
    exact h.2.2 _ List.mem_cons_self
  · refine h.2.2 q (List.mem_cons_of_mem _ (List.mem_filter.mpr ⟨mc_lst_mem.mpr ⟨w, e2, h2⟩, ?_⟩))
    have hc : q.2.category = w.category := by rw [h2, mc_ga_cat]
    rw [hc]
    by_cases hx : q.1 + 1 = i
    · have : ¬ w.category = 2 := fun z => e3 ⟨hx, z⟩
      simp [e1, e0, this]
    · simp [e1, e0, hx]
/-- fewer locals: what is not kept is forgotten -/
def mc_kp : List Bool → List (Option Value) → List (Option Value)
  | true :: ks, o :: r => o :: mc_kp ks r
  | false :: ks, _ :: r => none :: mc_kp ks r
  | _, _ => []
theorem mc_kp_at : ∀ (ks : List Bool) (ls : List (Option Value)) (i : Nat) (v : Value), (mc_kp ks ls)[i]? = some (some v) → ls[i]? = some (some v)
  | true :: ks, o :: r, 0, v, h => by simpa [mc_kp] using h
  | true :: ks, o :: r, i + 1, v, h => by
    simp only [mc_kp, List.getElem?_cons_succ] at h ⊢
    exact mc_kp_at ks r i v h
  | false :: ks, _ :: r, 0, v, h => by simp [mc_kp] at h
  | false :: ks, _ :: r, i + 1, v, h => by
    simp only [mc_kp, List.getElem?_cons_succ] at h ⊢
    exact mc_kp_at ks r i v h
  | [], _, i, v, h => by simp [mc_kp] at h
  | true :: _, [], i, v, h => by simp [mc_kp] at h
  | false :: _, [], i, v, h => by simp [mc_kp] at h
theorem mc_lv_kp {b nL : Nat} {ls : List (Option Value)} {lsC : Array Slot} (ks : List Bool) (h : mc_lv b nL ls lsC) : mc_lv b nL (mc_kp ks ls) lsC := by
  refine ⟨h.1, h.2.1, fun q hq => h.2.2 q ?_⟩
  obtain ⟨w, h1, h2⟩ := mc_lst_mem.mp hq
  exact mc_lst_mem.mpr ⟨w, mc_kp_at ks ls _ _ h1, h2⟩
/-- the locals with which a method begins -/
def mc_args : List Value → Nat → List (Option Value)
  | [], n => List.replicate n none
  | .long x :: vs, n => some (.long x) :: none :: mc_args vs (n - 2)
  | .double x :: vs, n => some (.double x) :: none :: mc_args vs (n - 2)
  | v :: vs, n => some v :: mc_args vs (n - 1)
theorem mc_args_at (b : Nat) : ∀ (av : List Value) (k o i : Nat) (v : Value), (mc_args av k)[i]? = some (some v) → (o + i, mc_ga b v) ∈ lv_args o (av.map (mc_ga b))
  | [], k, o, i, v, h => by
    simp [mc_args, List.getElem?_replicate] at h
  | w :: vs, k, o, i, v, h => by
    by_cases hw : ∃ x, w = .long x
    · obtain ⟨x, rfl⟩ := hw
      show (o + i, mc_ga b v) ∈ (o, Value.long x) :: lv_args (if (Value.long x).category = 2 then o + 2 else o + 1) (vs.map (mc_ga b))
      rw [if_pos (show (Value.long x).category = 2 from rfl)]
      match i, h with
      | 0, h =>
        have h' : some (some (Value.long x)) = some (some v) := h
        cases h'
        exact List.mem_cons_self
      | 1, h =>
        have h' : some (none : Option Value) = some (some v) := h
        cases h'
      | i + 2, h =>
        have h' : (mc_args vs (k - 2))[i]? = some (some v) := h
        have := mc_args_at b vs (k - 2) (o + 2) i v h'
        rw [show o + (i + 2) = o + 2 + i by omega]
        exact List.mem_cons_of_mem _ this
    · by_cases hd : ∃ x, w = .double x
      · obtain ⟨x, rfl⟩ := hd
        show (o + i, mc_ga b v) ∈ (o, Value.double x) :: lv_args (if (Value.double x).category = 2 then o + 2 else o + 1) (vs.map (mc_ga b))
        rw [if_pos (show (Value.double x).category = 2 from rfl)]
        match i, h with
        | 0, h =>
          have h' : some (some (Value.double x)) = some (some v) := h
          cases h'
          exact List.mem_cons_self
        | 1, h =>
          have h' : some (none : Option Value) = some (some v) := h
          cases h'
        | i + 2, h =>
          have h' : (mc_args vs (k - 2))[i]? = some (some v) := h
          have := mc_args_at b vs (k - 2) (o + 2) i v h'
          rw [show o + (i + 2) = o + 2 + i by omega]
          exact List.mem_cons_of_mem _ this
      · have hc : (mc_ga b w).category = 1 := by
          rw [mc_ga_cat]
          cases w with
          | long x => exact absurd ⟨x, rfl⟩ hw
          | double x => exact absurd ⟨x, rfl⟩ hd
          | _ => rfl
        have e : mc_args (w :: vs) k = some w :: mc_args vs (k - 1) := by
          cases w with
          | long x => exact absurd ⟨x, rfl⟩ hw
          | double x => exact absurd ⟨x, rfl⟩ hd
          | _ => rfl
        rw [e] at h
        show (o + i, mc_ga b v) ∈ (o, mc_ga b w) :: lv_args (if (mc_ga b w).category = 2 then o + 2 else o + 1) (vs.map (mc_ga b))
        rw [if_neg (by omega)]
        match i, h with
        | 0, h =>
          have h' : some (some w) = some (some v) := h
          cases h'
          exact List.mem_cons_self
        | i + 1, h =>
          have h' : (mc_args vs (k - 1))[i]? = some (some v) := h
          have := mc_args_at b vs (k - 1) (o + 1) i v h'
          rw [show o + (i + 1) = o + 1 + i by omega]
          exact List.mem_cons_of_mem _ this
theorem mc_lv_entry {b nL : Nat} {av : List Value} {lsC : Array Slot} (h : lv_has lsC nL (lv_args 0 (av.map (mc_ga b)))) : mc_lv b nL (mc_args av nL) lsC := by
  refine ⟨h.1, h.2.1, fun q hq => h.2.2 q ?_⟩
  obtain ⟨w, h1, h2⟩ := mc_lst_mem.mp hq
  have := mc_args_at b av nL 0 q.1 w h1
  rw [Nat.zero_add, ← h2] at this
  exact this
