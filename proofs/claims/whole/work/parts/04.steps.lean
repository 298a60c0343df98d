/-- a method's table: place, instruction, its length, the target of a jump, the constant -/
abbrev mc_R : Type := Nat × Instr × Nat × Nat × Int32
/-- a class's sheet: fields read and fields written (pool number: class, slot); calls (pool number: 0 virtual, 1 static, 2 special; how many values it takes, how many cells it makes, what it does); classes made; classes thrown; int and long constants; switches by their place; the law's script: where it is, its length, its ints -/
abbrev mc_SH : Type := (List (Nat × Nat × Nat) × List (Nat × Nat × Nat)) × List (Nat × Nat × Nat × Nat × mc_PT) × List (Nat × Nat) × List (Nat × Nat) × List (Nat × Int32) × List (Nat × Int64) × List (Nat × List (Int32 × Nat) × Nat) × Option (Nat × Nat × (Nat → Int32))
def mc_ri (ret : Option FieldType) (x : Int32) (P : Prop) : Prop := match ret with
  | some .int => P
  | some .boolean => (x = 0 ∨ x = 1) ∧ P
  | _ => False
def mc_en (md : Bool) (n n0 dn : Nat) (P : Prop) : Prop := match md with
  | true => n ≤ n0 + dn ∧ P
  | false => n = n0 + dn ∧ P
def mc_cd (cd : Jvm.ClassFile.Cond) (x y : Int32) (kt kf : Prop) : Prop := match cd with
  | .eq => (x = y → kt) ∧ (¬ x = y → kf)
  | .ne => (¬ x = y → kt) ∧ (x = y → kf)
  | .lt => (x < y → kt) ∧ (¬ x < y → kf)
  | .ge => (y ≤ x → kt) ∧ (¬ y ≤ x → kf)
  | .gt => (y < x → kt) ∧ (¬ y < x → kf)
  | .le => (x ≤ y → kt) ∧ (¬ x ≤ y → kf)
def mc_rm (n n0 dn dn' : Nat) (P : Prop) : Prop := match dn' with
  | 0 => P
  | k + 1 => n + (k + 1) ≤ n0 + dn ∧ P
theorem mc_rm_e {n n0 dn dn' : Nat} {P : Prop} (h : mc_rm n n0 dn dn' P) (hn : n ≤ n0 + dn) : n + dn' ≤ n0 + dn ∧ P := by
  cases dn' with
  | zero => exact ⟨hn, h⟩
  | succ k => exact h
def mc_call (kd n0 dn : Nat) (cal : List (Nat × Nat × Nat × Nat × mc_PT)) (idx : Nat) (st : List Value) (n : Nat) (M : mc_M) (L : mc_L) (k : List Value → Nat → mc_M → mc_L → Prop) : Prop := match mc_lk cal idx with
  | some (kd', a, dn', F) => match mc_tk a st [] with
    | some (av, r) => match Nat.beq kd kd' && Nat.ble (mc_w r) 8 with
      | true => mc_rm n n0 dn dn' (F av n M L (fun rv M' L' => k (rv.toList ++ r) (n + dn') M' L'))
      | false => False
    | none => False
  | none => False
def mc_step (md : Bool) (tab : List mc_D) (n0 dn : Nat) (ret : Option FieldType) (sh : mc_SH) (Qr : Option Value → mc_M → mc_L → Prop) (Qt : Nat → mc_M → mc_L → Prop) (K : mc_K) (x : Instr) (tgt : Nat) (v : Int32) (pc : Nat) (ls : List (Option Value)) (st : List Value) (n : Nat) (M : mc_M) (L : mc_L) : Prop := match x with
  | .aload i => mc_lr ls i fun a => K (pc + 2) ls (a :: st) n M L
  | .aload_n i => mc_lr ls i fun a => K (pc + 1) ls (a :: st) n M L
  | .iload i => mc_li ls i fun a => K (pc + 2) ls (.int a :: st) n M L
  | .iload_n i => mc_li ls i fun a => K (pc + 1) ls (.int a :: st) n M L
  | .lload i => mc_ll ls i fun a => K (pc + 2) ls (.long a :: st) n M L
  | .lload_n i => mc_ll ls i fun a => K (pc + 1) ls (.long a :: st) n M L
  | .istore i => mc_pi st fun a r => K (pc + 2) (mc_st1 ls i (.int a)) r n M L
  | .istore_n i => mc_pi st fun a r => K (pc + 1) (mc_st1 ls i (.int a)) r n M L
  | .astore i => mc_pr st fun a r => K (pc + 2) (mc_st1 ls i (.ref a)) r n M L
  | .astore_n i => mc_pr st fun a r => K (pc + 1) (mc_st1 ls i (.ref a)) r n M L
  | .lstore i => mc_pl st fun a r => K (pc + 2) (mc_st2 ls i (.long a)) r n M L
  | .lstore_n i => mc_pl st fun a r => K (pc + 1) (mc_st2 ls i (.long a)) r n M L
  | .iinc i _ => mc_li ls i fun a => K (pc + 3) (mc_st1 ls i (.int (a + v))) st n M L
  | .iconst _ => K (pc + 1) ls (.int v :: st) n M L
  | .bipush _ => K (pc + 2) ls (.int v :: st) n M L
  | .sipush _ => K (pc + 3) ls (.int v :: st) n M L
  | .lconst i => match i.val with
    | 0 => K (pc + 1) ls (.long 0 :: st) n M L
    | _ => K (pc + 1) ls (.long 1 :: st) n M L
  | .ldc i => match mc_lk sh.2.2.2.2.1 i with
    | some w => K (pc + 2) ls (.int w :: st) n M L
    | none => False
  | .ldc2_w i => match mc_lk sh.2.2.2.2.2.1 i with
    | some w => K (pc + 3) ls (.long w :: st) n M L
    | none => False
  | .iadd => mc_pii st fun x y r => K (pc + 1) ls (.int (x + y) :: r) n M L
  | .isub => mc_pii st fun x y r => K (pc + 1) ls (.int (x - y) :: r) n M L
  | .imul => mc_pii st fun x y r => K (pc + 1) ls (.int (x * y) :: r) n M L
  | .iand => mc_pii st fun x y r => K (pc + 1) ls (.int (x &&& y) :: r) n M L
  | .ior => mc_pii st fun x y r => K (pc + 1) ls (.int (x ||| y) :: r) n M L
  | .ixor => mc_pii st fun x y r => K (pc + 1) ls (.int (x ^^^ y) :: r) n M L
  | .ishl => mc_pii st fun x y r => K (pc + 1) ls (.int (x <<< (y &&& 31)) :: r) n M L
  | .ishr => mc_pii st fun x y r => K (pc + 1) ls (.int (x >>> (y &&& 31)) :: r) n M L
  | .idiv => mc_pii st fun x y r => ¬ y = 0 ∧ K (pc + 1) ls (.int (x / y) :: r) n M L
  | .irem => mc_pii st fun x y r => ¬ y = 0 ∧ K (pc + 1) ls (.int (x - x / y * y) :: r) n M L
  | .ineg => mc_pi st fun x r => K (pc + 1) ls (.int (-x) :: r) n M L
  | .ladd => mc_pll st fun x y r => K (pc + 1) ls (.long (x + y) :: r) n M L
  | .lsub => mc_pll st fun x y r => K (pc + 1) ls (.long (x - y) :: r) n M L
  | .lmul => mc_pll st fun x y r => K (pc + 1) ls (.long (x * y) :: r) n M L
  | .ldiv => mc_pll st fun x y r => ¬ y = 0 ∧ K (pc + 1) ls (.long (x / y) :: r) n M L
  | .lrem => mc_pll st fun x y r => ¬ y = 0 ∧ K (pc + 1) ls (.long (x - x / y * y) :: r) n M L
  | .lneg => mc_pl st fun x r => K (pc + 1) ls (.long (-x) :: r) n M L
  | .lcmp => mc_pll st fun x y r => K (pc + 1) ls (.int (lg_cmp x y) :: r) n M L
  | .i2l => mc_pi st fun x r => K (pc + 1) ls (.long x.toInt64 :: r) n M L
  | .l2i => mc_pl st fun x r => K (pc + 1) ls (.int x.toInt32 :: r) n M L
  | .i2c => mc_pi st fun x r => K (pc + 1) ls (.int (x.toUInt32 % 65536).toInt32 :: r) n M L
  | .dup => match st with
    | .int x :: r => K (pc + 1) ls (.int x :: .int x :: r) n M L
    | .ref x :: r => K (pc + 1) ls (.ref x :: .ref x :: r) n M L
    | _ => False
  | .dup2 => match st with
    | .int x :: .ref y :: r => K (pc + 1) ls (.int x :: .ref y :: .int x :: .ref y :: r) n M L
    | .long x :: r => K (pc + 1) ls (.long x :: .long x :: r) n M L
    | _ => False
  | .dup_x1 => match st with
    | .int x :: .ref y :: r => K (pc + 1) ls (.int x :: .ref y :: .int x :: r) n M L
    | _ => False
  | .pop => match st with
    | .int _ :: r => K (pc + 1) ls r n M L
    | .ref _ :: r => K (pc + 1) ls r n M L
    | _ => False
  | .ifCond cd _ => mc_pi st fun x r => mc_cd cd x 0 (K tgt ls r n M L) (K (pc + 3) ls r n M L)
  | .if_icmp cd _ => mc_pii st fun x y r => mc_cd cd x y (K tgt ls r n M L) (K (pc + 3) ls r n M L)
  | .goto _ => K tgt ls st n M L
  | .tableswitch .. => match mc_lk sh.2.2.2.2.2.2.1 pc with
    | some (cs, d) => mc_pi st fun x r => mc_sw x cs d fun t => K t ls r n M L
    | none => False
  | .lookupswitch .. => match mc_lk sh.2.2.2.2.2.2.1 pc with
    | some (cs, d) => mc_pi st fun x r => mc_sw x cs d fun t => K t ls r n M L
    | none => False
  | .getfield i => match mc_lk sh.1.1 i with
    | some (ci, k) => mc_pr st fun a r => mc_ob md tab a n ci k fun fd => mc_gf md M a k fd fun w => K (pc + 3) ls (w :: r) n M L
    | none => False
  | .putfield i => match mc_lk sh.1.2 i with
    | some (ci, k) => mc_pvr st fun w a r => mc_ob md tab a n ci k fun fd => mc_pf M a k fd w fun x => K (pc + 3) ls r n (mc_put M a k x) L
    | none => False
  | .arraylength => match st with
    | .retAddr a :: r => match sh.2.2.2.2.2.2.2 with
      | some (sa, len, _) => a = sa ∧ K (pc + 1) ls (.int (Int32.ofNat len) :: r) n M L
      | none => False
    | .ref a :: r => match mc_at tab a with
      | some (.inl (_, len)) => mc_in md a n (K (pc + 1) ls (.int (Int32.ofNat len) :: r) n M L)
      | _ => False
    | _ => False
  | .iaload => match st with
    | .int i :: .retAddr a :: r => match sh.2.2.2.2.2.2.2 with
      | some (sa, len, xs) => a = sa ∧ vp_in i len ∧ K (pc + 1) ls (.int (xs i.toNatClampNeg) :: r) n M L
      | none => False
    | st => mc_pir st fun i a r => mc_ar md tab a n 0 fun len => vp_in i len ∧ K (pc + 1) ls (.int (M a i.toNatClampNeg) :: r) n M L
  | .caload => mc_pir st fun i a r => mc_ar md tab a n 2 fun len => vp_in i len ∧ K (pc + 1) ls (.int (M a i.toNatClampNeg) :: r) n M L
  | .baload => mc_pir st fun i a r => mc_ar md tab a n 3 fun len => vp_in i len ∧ K (pc + 1) ls (.int (M a i.toNatClampNeg) :: r) n M L
  | .laload => mc_pir st fun i a r => mc_ar md tab a n 1 fun len => vp_in i len ∧ K (pc + 1) ls (.long (L a i.toNatClampNeg) :: r) n M L
  | .iastore => mc_piir st fun x i a r => mc_ar md tab a n 0 fun len => vp_in i len ∧ K (pc + 1) ls r n (mc_put M a i.toNatClampNeg x) L
  | .castore => mc_piir st fun x i a r => mc_ar md tab a n 2 fun len => vp_in i len ∧ K (pc + 1) ls r n (mc_put M a i.toNatClampNeg (vp_nar .char x)) L
  | .bastore => mc_piir st fun x i a r => mc_ar md tab a n 3 fun len => vp_in i len ∧ K (pc + 1) ls r n (mc_put M a i.toNatClampNeg (vp_nar .boolean x)) L
  | .lastore => mc_plir st fun x i a r => mc_ar md tab a n 1 fun len => vp_in i len ∧ K (pc + 1) ls r n M (mc_putL L a i.toNatClampNeg x)
  | .invokevirtual i => mc_call 0 n0 dn sh.2.1 i st n M L fun st' n' M' L' => K (pc + 3) ls st' n' M' L'
  | .invokestatic i => mc_call 1 n0 dn sh.2.1 i st n M L fun st' n' M' L' => K (pc + 3) ls st' n' M' L'
  | .invokespecial i => mc_call 2 n0 dn sh.2.1 i st n M L fun st' n' M' L' => K (pc + 3) ls st' n' M' L'
  | .ireturn => match st with
    | [.int x] => mc_ri ret x (mc_en md n n0 dn (Qr (some (.int x)) M L))
    | _ => False
  | .return_ => match st, ret with
    | [], none => mc_en md n n0 dn (Qr none M L)
    | _, _ => False
  | .new i => match mc_lk sh.2.2.1 i with
    | some ci => match md with
      | true => False
      | false => match mc_at tab n with
        | some (.inr (ci', _)) => match Nat.beq ci ci' with
          | true => n < n0 + dn ∧ K (pc + 3) ls (.ref n :: st) (n + 1) (mc_set M n (fun _ => 0)) L
          | false => False
        | _ => False
    | none => match mc_lk sh.2.2.2.1 i with
      | some k => match md, st with
        | true, [] => n < n0 + dn ∧ Qt k M L
        | _, _ => False
      | none => False
  | .newarray _ => mc_pi st fun x r => match md with
    | true => False
    | false => match mc_at tab n with
      | some (.inl (t, len)) => match Nat.beq t tgt with
        | true => x = Int32.ofNat len ∧ n < n0 + dn ∧ K (pc + 2) ls (.ref n :: r) (n + 1) (mc_set M n (fun _ => 0)) (mc_setL L n (fun _ => 0))
        | false => False
      | _ => False
  | _ => False
theorem mc_call_e {kd n0 dn : Nat} {cal : List (Nat × Nat × Nat × Nat × mc_PT)} {idx : Nat} {st : List Value} {n : Nat} {M : mc_M} {L : mc_L} {k : List Value → Nat → mc_M → mc_L → Prop} (h : mc_call kd n0 dn cal idx st n M L k) (hn : n ≤ n0 + dn) :
    ∃ a dn' F av r, mc_lk cal idx = some (kd, a, dn', F) ∧ st = av.reverse ++ r ∧ av.length = a ∧ mc_w r ≤ 8 ∧ n + dn' ≤ n0 + dn ∧ F av n M L (fun rv M' L' => k (rv.toList ++ r) (n + dn') M' L') := by
  unfold mc_call at h
  split at h
  · next kd' a dn' F hk =>
    split at h
    · next av r ht =>
      split at h
      · next hb =>
        obtain ⟨h1, h2⟩ := (Bool.and_eq_true _ _).mp hb
        have h1 := Nat.eq_of_beq_eq_true h1
        subst h1
        obtain ⟨a1, e1, e2, e3⟩ := mc_tk_e a st [] av r ht
        rw [List.append_nil] at e1
        subst e1
        obtain ⟨h3, h4⟩ := mc_rm_e h hn
        exact ⟨a, dn', F, av, r, hk, e2, e3, Nat.le_of_ble_eq_true h2, h3, h4⟩
      · exact h.elim
    · exact h.elim
  · exact h.elim
