/-! calls of the JDK that are rows of the kit: Object's constructor, System.arraycopy -/
section MCJ
variable {s0 : State} {l : Launch} {D : va_G} {cl : List vw_C} {b : Nat} {cA : Nat → ClassId} {md : Bool} {tab : List mc_D} {WL NW : List Cond} {d : Nat} {own : String} {idx : Nat}
def mc_fobj : mc_PT := fun av _ M L Q => match av with
  | [.ref _] => Q none M L
  | _ => False
theorem co_obj (hl : Cond.methodLink own idx Lib.objectInit ∈ WL) (hinst : Cond.instanceMethod Lib.objectInit ∈ WL) (hcode : Cond.code Lib.objectInit ⟨#[0xb1]⟩ 1 none ∈ WL) (hd : 1 ≤ d) : mc_CO s0 l D cl b cA md tab WL NW d own idx 2 1 0 mc_fobj := by
  refine ⟨fun av n M L Q Q' hQ h => ?_, ?_⟩
  · match av, h with
    | [.ref _], h => exact hQ _ _ _ h
  · intro p e R s m args below meth c Q nL n0 dn cc c0 hx hb hml hown hts hK hZ hO hR x hxk pc ls av r n M L hdg hw8 hlen hroom h
    have hxe : x = .invokespecial idx := by
      rcases hxk with ⟨h, _⟩ | ⟨h, _⟩ | ⟨_, h⟩
      · cases h
      · cases h
      · exact h
    subst hxe
    match av, hlen, h with
    | [.ref q], hlen, h =>
      intro h0 hf H locs lsC hP hz hS hl0
      refine W.objInit hx hb hown (hts _ (List.mem_cons_of_mem _ hl)) (hts _ (List.mem_cons_of_mem _ hinst)) (hts _ (List.mem_cons_of_mem _ hcode)) rfl (by rw [hml]; exact hl0.1) (a := b + q) (rest := r.map (mc_ga b)) rfl hdg (by rw [hR]; exact hd) (by rw [hR, mc_w_eq b r]; show 2 * 0 + _ + 12 ≤ 40 * d; omega) ?_
      exact h h0 hf H locs lsC hP hz hS hl0
def mc_fcopy (tab : List mc_D) : mc_PT := fun av n M L Q => match av with
  | [.ref a0, .int sp, .ref a1, .int dp, .int k] => mc_ar true tab a0 n 0 fun l0 => mc_ar true tab a1 n 0 fun l1 => ¬ sp < 0 ∧ ¬ dp < 0 ∧ ¬ k < 0 ∧ sp.toNatClampNeg + k.toNatClampNeg ≤ l0 ∧ dp.toNatClampNeg + k.toNatClampNeg ≤ l1 ∧ Q none (mc_set M a1 (va_cpy (M a0) (M a1) sp.toNatClampNeg dp.toNatClampNeg k.toNatClampNeg)) L
  | _ => False
theorem mc_ar_mono {md : Bool} {tab : List mc_D} {a n t : Nat} {k k' : Nat → Prop} (hk : ∀ l, k l → k' l) (h : mc_ar md tab a n t k) : mc_ar md tab a n t k' := by
  unfold mc_ar at h ⊢
  revert h
  cases mc_at tab a with
  | none => exact fun h => h
  | some d =>
    cases d with
    | inr q => exact fun h => h
    | inl q =>
      obtain ⟨t', len⟩ := q
      dsimp only
      cases Nat.beq t t' with
      | false => exact fun h => h
      | true =>
        cases md with
        | true => exact fun h => hk _ h
        | false => exact fun h => ⟨h.1, hk _ h.2⟩
theorem co_copy (hl : Cond.methodLink own idx arraycopyName ∈ WL) (hnat : Cond.native arraycopyName ∈ WL) (hst : Cond.static arraycopyName ∈ WL) (hini : Cond.initialized "java/lang/System" ∈ WL) (hd : 1 ≤ d) : mc_CO s0 l D cl b cA true tab WL NW d own idx 1 5 0 (mc_fcopy tab) := by
  refine ⟨fun av n M L Q Q' hQ h => ?_, ?_⟩
  · match av, h with
    | [.ref a0, .int sp, .ref a1, .int dp, .int k], h => exact mc_ar_mono (fun l0 h => mc_ar_mono (fun l1 h => ⟨h.1, h.2.1, h.2.2.1, h.2.2.2.1, h.2.2.2.2.1, hQ _ _ _ h.2.2.2.2.2⟩) h) h
  · intro p e R s m args below meth c Q nL n0 dn cc c0 hx hb hml hown hts hK hZ hO hR x hxk pc ls av r n M L hdg hw8 hlen hroom h
    have hxe : x = .invokestatic idx := by
      rcases hxk with ⟨h, _⟩ | ⟨_, h⟩ | ⟨h, _⟩
      · cases h
      · exact h
      · cases h
    subst hxe
    match av, hlen, h with
    | [.ref a0, .int sp, .ref a1, .int dp, .int k], hlen, h =>
      intro h0 hf H locs lsC hP hz hS hl0
      obtain ⟨l0, g1, g2, h⟩ := mc_ar_e h hf
      obtain ⟨l1, g3, g4, i1, i2, i3, i4, i5, i6⟩ := mc_ar_e h hf
      have he0 : (mc_wd b cA true tab n M L)[a0]? = some (b + a0, .inl (cA 0, l0, .inl (M a0))) := mc_wd_in g2 g1
      have he1 : (mc_wd b cA true tab n M L)[a1]? = some (b + a1, .inl (cA 0, l1, .inl (M a1))) := mc_wd_in g4 g3
      refine va_copyi (ls := lsC) (rest := r.map (mc_ga b)) (ty := .int) hx hb (by rw [hml]; exact hl0.1.symm) hown (hts _ (List.mem_cons_of_mem _ hl)) (hts _ (List.mem_cons_of_mem _ hnat)) (hts _ (List.mem_cons_of_mem _ hst)) (hts _ (List.mem_cons_of_mem _ hini)) hK hP mc_wd_D hS a0 a1 0 0 he0 he1 rfl rfl rfl i1 i2 i3 i4 i5 (fun _ _ => rfl) (by rw [hR]; exact hd) (by rw [hR, mc_w_eq b r]; show mc_w r + (_ + 11) ≤ 40 * d; have : nativeFrameWords "java/lang/System" "arraycopy" 5 ≤ 20 := (by decide +kernel); omega) hdg (fun H1 locs1 hP1 hD1 hS1 => ?_)
      rw [mc_set_arr g4 g3 (by decide)] at hP1
      exact i6 h0 hf H1 locs1 lsC hP1 (fun z => by cases z) hS1 hl0
def mc_fmax : mc_PT := fun av _ M L Q => match av with
  | [.int x, .int y] => Q (some (.int (if x < y then y else x))) M L
  | _ => False
theorem co_max (hl : Cond.methodLink own idx Lib.Math.max.name ∈ WL) (hst : Cond.static Lib.Math.max.name ∈ WL) (hini : Cond.initialized "java/lang/Math" ∈ WL) (hcode : Cond.code Lib.Math.max.name Lib.Math.max.code 2 (some .int) ∈ WL) (hd : 1 ≤ d) : mc_CO s0 l D cl b cA md tab WL NW d own idx 1 2 0 mc_fmax := by
  refine ⟨fun av n M L Q Q' hQ h => ?_, ?_⟩
  · match av, h with
    | [.int x, .int y], h => exact hQ _ _ _ h
  · intro p e R s m args below meth c Q nL n0 dn cc c0 hx hb hml hown hts hK hZ hO hR x hxk pc ls av r n M L hdg hw8 hlen hroom h
    have hxe : x = .invokestatic idx := by
      rcases hxk with ⟨h, _⟩ | ⟨_, h⟩ | ⟨h, _⟩
      · cases h
      · exact h
      · cases h
    subst hxe
    match av, hlen, h with
    | [.int x, .int y], hlen, h =>
      intro h0 hf H locs lsC hP hz hS hl0
      obtain ⟨r1, r2⟩ := mc_roomle (tab := tab) (d := d) (dn' := 0) h0.1 (by omega)
      exact va_mmax (ls := lsC) (rest := r.map (mc_ga b)) hx hb (by rw [hml]; exact hl0.1.symm) hown (hts _ (List.mem_cons_of_mem _ hl)) (hts _ (List.mem_cons_of_mem _ hst)) (hts _ (List.mem_cons_of_mem _ hini)) (hts _ (List.mem_cons_of_mem _ hcode)) (by rw [hR]; exact hd) (by rw [hR, mc_w_eq b r]; show mc_w r + 13 ≤ 40 * d; omega) (by rw [hR]; exact Nat.le_trans (Nat.le_add_right _ _) r1) (by rw [hR]; exact Nat.le_trans (Nat.le_add_right _ _) r2) hdg (h h0 hf H locs lsC hP hz hS hl0)
end MCJ
