/-! The model's work, without writing -/
def stfr (M M' : mc_M) : Prop := (∀ c, c ≠ 64 → c ≠ 80 → c ≠ 81 → M' c = M c) ∧ ∀ i, i ≠ 18 → M' 64 i = M 64 i
def w0fr (M M' : mc_M) : Prop := (∀ c, c ≠ 64 → c ≠ 78 → c ≠ 79 → c ≠ 80 → c ≠ 81 → M' c = M c) ∧ ∀ i, i ≠ 18 → M' 64 i = M 64 i
theorem and1_01 (x : Int32) : x &&& 1 = 0 ∨ x &&& 1 = 1 := by
  have h : (x &&& 1).toBitVec = (BitVec.ofBool (x.toBitVec.getLsbD 0)).setWidth 32 := by
    rw [Int32.toBitVec_and]
    exact BitVec.and_one_eq_setWidth_ofBool_getLsbD
  cases hb : x.toBitVec.getLsbD 0 with
  | false =>
    rw [hb] at h
    exact Or.inl (Int32.toBitVec_inj.mp h)
  | true =>
    rw [hb] at h
    exact Or.inr (Int32.toBitVec_inj.mp h)
theorem fl_bit_t {D : Int32} {v : Nat} : fl_bit D v = true ↔ (D >>> (nI v &&& 31)) &&& 1 = 1 := by
  rw [fl_bit_1]
  rcases and1_01 (D >>> (nI v &&& 31)) with h | h
  · rw [h]
    constructor
    · intro z
      exact absurd rfl z
    · intro z
      exact absurd z (by decide)
  · rw [h]
    constructor
    · intro _
      rfl
    · intro _
      decide
theorem t4_known {T : Nat → Nat → Int32} {m : Nat} (hT : nt_ok T m) (D : Int32) (k : Nat) : T 4 k &&& ((255 &&& (D ^^^ (-1))) ^^^ (-1)) = T 4 k &&& D := by
  refine low8_ext (low8_and (low8_T hT k) _) (low8_and (low8_T hT k) _) (fun v hv => ?_)
  rw [fl_bit_and _ _ hv, fl_bit_and _ _ hv, fl_bit_not _ hv, st_bit D hv]
  cases fl_bit D v <;> rfl
section RWK
variable {g : mc_G} {d n : Nat} {M : mc_M} {L : mc_L} {Q : Option Value → mc_M → mc_L → Prop} {T : Nat → Nat → Int32} {m : Nat} {P : Nat → Blk}
theorem cR_stateC {kept : Nat → Int32} {q : Stt} {s b : Nat} {E : Nat → Int32} {x : Int32} (hx : x = nI b) (hb : b < 16) (hs : s ≤ 100) (h18 : M 64 18 = nI s) (hk : ∀ v, v < 8 → fl_bit (M 82 b &&& (M 64 21 ^^^ (-1))) v = fl_bit (kept b) v) (hst : mst M kept q s) (hw : qwf kept q s) (hE : ∀ v, v < 8 → fl_bit (kept b) v = true → M 78 v = E v) (hd : 1 ≤ d)
    (h : (sp_come kept q s false E b).1.2.2 = false → ∀ r M', r = (sp_come kept q s false E b).2 → stfr M M' → M' 64 18 = nI (sp_come kept q s false E b).1.2.1 → mst M' kept (sp_come kept q s false E b).1.1 (sp_come kept q s false E b).1.2.1 → Q (some (.int r)) M' L)
    (ho : (sp_come kept q s false E b).1.2.2 = true → ∀ r M', stfr M M' → M' 64 18 = nI 101 → Q (some (.int r)) M' L) : ctR_state g d [.ref 64, .int x] n M L Q := by
  refine cR_stateG hx hb h18 (by omega) rfl hd (fun k hkm hm hno r hr => ?_) (fun z => by omega) (fun _ hno r M' hr f1 f2 f3 f4 => ?_)
  · rw [hx] at hm hno
    have e : sp_come kept q s false E b = ((q, s, false), nI k) := by
      unfold sp_come
      rw [look_some s 0 k (Nat.zero_le _) (by omega) ((mmat_iff hst hw hb hk hE hkm).mp hm) (fun j _ hj z => hno j hj ((mmat_iff hst hw hb hk hE (by omega)).mpr z))]
    rw [e] at h
    exact h rfl r M hr ⟨fun _ _ _ _ => rfl, fun _ _ => rfl⟩ h18 hst
  · rw [hx] at hno
    have ln := look_none (q := q) (b := b) (wv := sp_wt kept E b) s 0 (fun j _ hj z => hno j (by omega) ((mmat_iff hst hw hb hk hE (by omega)).mpr z))
    have fr : stfr M M' := ⟨f1, fun i hi => by rw [f2, if_neg hi]⟩
    by_cases hs1 : s < 100
    · have e : sp_come kept q s false E b = ((sp_add q s b (sp_wt kept E b), s + 1, false), nI s) := by
        unfold sp_come
        rw [ln]
        exact if_pos hs1
      rw [e] at h
      refine h rfl r M' hr fr (by rw [f2, if_pos rfl]) (fun k hk' => ?_)
      have ea : sp_add q s b (sp_wt kept E b) k = if k = s then (b, sp_wt kept E b) else q k := rfl
      show M' 80 k = nI (sp_add q s b (sp_wt kept E b) k).1 ∧ (sp_add q s b (sp_wt kept E b) k).1 < 16 ∧ ∀ v, v < 8 → fl_bit (kept (sp_add q s b (sp_wt kept E b) k).1) v = true → M' 81 (k * 8 + v) = (sp_add q s b (sp_wt kept E b) k).2 v
      rw [ea]
      by_cases ek : k = s
      · rw [if_pos ek]
        refine ⟨by rw [f3, if_pos ek]; exact hx, hb, fun v hv hbv => ?_⟩
        rw [f4 k v hv, if_pos ek, hE v hv hbv]
        show E v = sp_wt kept E b v
        unfold sp_wt
        rw [if_pos ⟨hv, hbv⟩]
      · rw [if_neg ek]
        have hk2 : k < s := by
          have : k < s + 1 := hk'
          omega
        obtain ⟨a1, a2, a3⟩ := hst k hk2
        refine ⟨by rw [f3, if_neg ek]; exact a1, a2, fun v hv hbv => ?_⟩
        rw [f4 k v hv, if_neg ek]
        exact a3 v hv hbv
    · have e : sp_come kept q s false E b = ((q, s, true), -1) := by
        unfold sp_come
        rw [ln]
        exact if_neg hs1
      rw [e] at ho
      have : s = 100 := by omega
      exact ho rfl r M' fr (by rw [f2, if_pos rfl, this])
/-- what mixing needs of the model's rows -/
def mxR (T : Nat → Nat → Int32) (m : Nat) (P : Nat → Blk) (D : Int32) (M : mc_M) : Prop := nt_R M T m ∧ pgR M m P ∧ pjR M m P ∧ M 64 21 = D ∧ ∀ b, b < 16 → M 82 b = sp_Y T P b
theorem mxR_to {D : Int32} {M' : mc_M} (h : mxR T m P D M) (h1 : M' 64 1 = M 64 1) (h21 : M' 64 21 = M 64 21) (hM : ∀ c, 65 ≤ c → c ≤ 82 → c ≠ 77 → c ≠ 78 → c ≠ 79 → c ≠ 80 → c ≠ 81 → M' c = M c) : mxR T m P D M' := by
  obtain ⟨a1, a2, a3, a4, a5⟩ := h
  refine ⟨nt_R_to a1 h1 (fun c _ _ => hM c (by omega) (by omega) (by omega) (by omega) (by omega) (by omega) (by omega)), pgR_to a2 (fun c _ _ => hM c (by omega) (by omega) (by omega) (by omega) (by omega) (by omega) (by omega)), pjR_to a3 (fun c _ _ => hM c (by omega) (by omega) (by omega) (by omega) (by omega) (by omega) (by omega)), h21.trans a4, fun b hb => ?_⟩
  rw [hM 82 (by decide) (by decide) (by decide) (by decide) (by decide) (by decide) (by decide)]
  exact a5 b hb
theorem kept_bit {kept : Nat → Int32} {D : Int32} (hk : ∀ b, b < 16 → kept b = (255 &&& (D ^^^ (-1))) &&& sp_Y T P b) (h : mxR T m P D M) {b : Nat} (hb : b < 16) : ∀ v, v < 8 → fl_bit (M 82 b &&& (M 64 21 ^^^ (-1))) v = fl_bit (kept b) v := fun v hv => by
  rw [h.2.2.2.1, h.2.2.2.2 b hb, hk b hb, fl_bit_and _ _ hv, fl_bit_and _ _ hv, fl_bit_not _ hv, st_bit D hv, Bool.and_comm]
/-- a block's lives, from behind -/
theorem Y_back (hT : nt_ok T m) (hP : ∀ b, b < 16 → ∀ a ∈ (P b).2.1, a.1 < 8) (hpt : pt_ok P 16) {b : Nat} (hb : b < 16) : sp_Y T P b = mback T (P b).2.1 (T 4 (P b).2.2.2.1.1 ||| sp_at (sp_Y T P) (P b).2.2.2.2.1 ||| sp_at (sp_Y T P) (P b).2.2.2.2.2) := by
  have h8 : ∀ b, low8 (sp_Y T P b) := low8_lit hT 16 _ (fun _ => low8_0)
  obtain ⟨h1, h2⟩ := mF_eq hT (B := P b) (hP b hb) h8
  refine Eq.trans ?_ h1.symm
  refine low8_ext (h8 b) h2 (fun v hv => (sp_lit_fixed hpt hv hb).symm)
theorem agr_at {S : Int32} {X : Nat → Int32} {W : Int32} {E E' : Nat → Int32} {t : Nat} (ht : t < 16) (h : agr S W E E') (hW : ∀ v, v < 8 → fl_bit (sp_at X (nI t)) v = true → fl_bit W v = true) {kt : Int32} (hk : kt = S &&& X t) : ∀ v, v < 8 → fl_bit kt v = true → E' v = E v := fun v hv hb => by
  rw [hk, fl_bit_and _ _ hv] at hb
  have hb' : fl_bit S v = true ∧ fl_bit (X t) v = true := by simpa using hb
  refine (h v hv hb'.1 (hW v hv ?_)).symm
  unfold sp_at
  rw [if_neg (nI_ne_m1 (by omega)), nI_clamp (by omega)]
  exact hb'.2
end RWK
