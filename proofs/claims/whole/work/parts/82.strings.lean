/-! The text of the operators' signs, and String.charAt over it -/
def sgn (j : Nat) : Int32 := [43, 45, 42, 61, 60].getD j 0
abbrev mz_A0 (g : mc_G) : Nat → Prop := fun q => g.2.2.1 ≤ q
/-- what holds of the String constant, and of the two statics -/
def mz_st (g : mc_G) (A : Nat → Prop) (aK aV : Nat) (U : State) (H : Heap) : Prop :=
  va_O "java/lang/String" aK A U H ∧ va_OF "java/lang/String" "coder" "B" (.int 0) aK A U H ∧ va_OF "java/lang/String" "value" "[B" (.ref aV) aK A U H ∧ va_T .byte aV 5 (fun j => .int (sgn j)) A U H ∧ va_Z "java/lang/String" "COMPACT_STRINGS" "Z" (.int 1) A U H ∧ va_Zq "jdk/internal/util/Preconditions" "SIOOBE_FORMATTER" "Ljava/util/function/BiFunction;" A U H
def mc_S1 (g : mc_G) : Prop := mc_S0 g ∧ ∃ aK aV, vk_R RT 104 "+-*=<" aK g.2.2.2.2 ∧ mz_st g (mz_A0 g) aK aV g.2.2.2.2 g.2.2.2.2.heap
theorem mz_st_to {g : mc_G} {aK aV : Nat} {s : State} (h0 : g.2.2.2.2.heap.size ≤ g.2.2.1) (h : mz_st g (mz_A0 g) aK aV g.2.2.2.2 g.2.2.2.2.heap) (hO : mc_O g.2.2.2.2 g.2.2.1 s) : mz_st g (mc_A true g.2.2.1 tab0.length) aK aV s s.heap := by
  obtain ⟨h1, h2, h3, h4, h5, h6⟩ := h
  have hk : ∀ a : Nat, a < g.2.2.2.2.heap.size → ¬ mz_A0 g a → s.heap[a]? = g.2.2.2.2.heap[a]? := fun a ha hb => hO.2.2 a (Nat.lt_of_not_le hb)
  have hn : ∀ q, mc_A true g.2.2.1 tab0.length q → mz_A0 g q := fun q hq => hq.1
  have hal := hO.1.alike
  refine ⟨((h1.moved hal).kept hk).narrow hn, ((h2.moved hal).kept hk).narrow hn, ((h3.moved hal).kept hk).narrow hn, ((h4.moved hal).kept hk).narrow hn, ((h5.moved hal).kept hk).narrow hn, ((h6.moved hal).kept hk).narrow hn⟩
def ySP : MethodName := ⟨"jdk/internal/util/Preconditions", "checkIndex", "(IILjava/util/function/BiFunction;)I"⟩
def ySK : MethodName := ⟨"java/lang/String", "checkIndex", "(II)V"⟩
def ySL : MethodName := ⟨"java/lang/StringLatin1", "charAt", "([BI)C"⟩
def ySI : MethodName := ⟨"java/lang/String", "isLatin1", "()Z"⟩
def ySC : MethodName := ⟨"java/lang/String", "charAt", "(I)C"⟩
abbrev ctSP (g : mc_G) (d : Nat) : mc_PT := mc_CT g.2.2.2.2 g.1 g.2.1 cl0 g.2.2.1 g.2.2.2.1 true tab0 WL0 NW0 ySP prog_23_method_11_code 3 (some .int) d 0
abbrev ctSK (g : mc_G) (d : Nat) : mc_PT := mc_CT g.2.2.2.2 g.1 g.2.1 cl0 g.2.2.1 g.2.2.2.1 true tab0 WL0 NW0 ySK prog_16_method_155_code 2 none d 0
abbrev ctSL (g : mc_G) (d : Nat) : mc_PT := mc_CT g.2.2.2.2 g.1 g.2.1 cl0 g.2.2.1 g.2.2.2.1 true tab0 WL0 NW0 ySL prog_17_method_2_code 2 (some .char) d 0
abbrev ctSI (g : mc_G) (d : Nat) : mc_PT := mc_CT g.2.2.2.2 g.1 g.2.1 cl0 g.2.2.1 g.2.2.2.1 true tab0 WL0 NW0 ySI prog_16_method_154_code 1 (some .boolean) d 0
abbrev ctSC (g : mc_G) (d : Nat) : mc_PT := mc_CT g.2.2.2.2 g.1 g.2.1 cl0 g.2.2.1 g.2.2.2.1 true tab0 WL0 NW0 ySC prog_16_method_56_code 2 (some .char) d 0
def tbSP : List mc_R := [(0, .iload_n 0, 1, 0, 0), (1, .ifCond .lt 8, 3, 9, 0), (4, .iload_n 0, 1, 0, 0), (5, .iload_n 1, 1, 0, 0), (6, .if_icmp .lt 10, 3, 16, 0), (16, .iload_n 0, 1, 0, 0), (17, .ireturn, 1, 0, 0)]
def tbSK : List mc_R := [(0, .iload_n 0, 1, 0, 0), (1, .iload_n 1, 1, 0, 0), (5, .invokestatic 1059, 3, 0, 0), (8, .pop, 1, 0, 0), (9, .return_, 1, 0, 0)]
def tbSL : List mc_R := [(0, .iload_n 1, 1, 0, 0), (1, .aload_n 0, 1, 0, 0), (3, .invokestatic 9, 3, 0, 0), (6, .aload_n 0, 1, 0, 0), (7, .iload_n 1, 1, 0, 0), (9, .sipush 255, 3, 0, 255), (12, .iand, 1, 0, 0), (13, .i2c, 1, 0, 0)]
def tbSI : List mc_R := [(3, .ifCond .eq 14, 3, 17, 0), (6, .aload_n 0, 1, 0, 0), (10, .ifCond .ne 7, 3, 17, 0), (13, .iconst 1, 1, 0, 1), (14, .goto 4, 3, 18, 0), (17, .iconst 0, 1, 0, 0), (18, .ireturn, 1, 0, 0)]
def tbSC : List mc_R := [(0, .aload_n 0, 1, 0, 0), (1, .invokevirtual 492, 3, 0, 0), (4, .ifCond .eq 12, 3, 16, 0), (7, .aload_n 0, 1, 0, 0), (11, .iload_n 1, 1, 0, 0), (12, .invokestatic 495, 3, 0, 0)]
section MZS
variable {g : mc_G} {d n : Nat} {M : mc_M} {L : mc_L} {Q : Option Value → mc_M → mc_L → Prop}
theorem cSP {i k : Nat} {v : Value} (hv : v = .null ∨ ∃ t, v = .retAddr t) (hi : i < k) (hk : k < 2 ^ 31) (h : Q (some (.int (nI i))) M L) : ctSP g (d + 1) [.int (nI i), .int (nI k), v] n M L Q := by
  refine mz_intro rfl (by rcases hv with rfl | ⟨t, rfl⟩ <;> exact Nat.le_of_ble_eq_true rfl) (fun p e s m args below meth c hb => ?_)
  have hK := mz_closed (e := e) (below := below) (n0 := n) (dn := 0) (d := d + 1) (Qr := Q) hb (tb := tbSP) (fg := []) (fp := []) (cal := []) (kl := []) (by decide +kernel) (by decide +kernel) (by decide +kernel) (fun _ h => absurd h List.not_mem_nil) (fun _ h => absurd h List.not_mem_nil) (fun _ h => absurd h List.not_mem_nil) (fun _ h => absurd h List.not_mem_nil)
  have ha : mc_args [.int (nI i), .int (nI k), v] 3 = [some (.int (nI i)), some (.int (nI k)), some v] := by rcases hv with rfl | ⟨t, rfl⟩ <;> rfl
  rw [ha]
  exact hK.1 [] 20 0 _ _ _ _ _ ⟨fun z => absurd z (nI_pos (by omega)), fun _ => ⟨fun _ => ⟨Nat.le_refl _, h⟩, fun z => absurd (nI_lt hi hk) z⟩⟩
end MZS
