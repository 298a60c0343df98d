/-! Compressor.work, as the rest sees it -/
section CO
variable {g : mc_G} {d n f : Nat} {M : mc_M} {L : mc_L} {Q : Option Value → mc_M → mc_L → Prop} {T : Nat → Nat → Int32} {m : Nat} {S : Int32}
def ccf (f : Nat) (M M' : mc_M) : Prop := ∀ c, c ≠ 32 → c ≠ 33 → c ≠ 34 → (c < f ∨ f + 12 < c) → M' c = M c
theorem cC_comp (hf : rs_is f) {nb : Nat} {R : Nat → Blk} {SS : Nat → List Nat} {J : Nat → Nat} (hnb : nb ≤ 100) (hsz : M f 0 = nI nb) (hcr : crs T m S M f nb R (fun _ => false) SS J) (htg : tgs R (fun _ => false) nb) (hd : 3 ≤ d)
    (h : ∀ M' SS' J', ccf f M M' → M' f 0 = nI (sp_comp nb R).1 → M' f 1 = M f 1 → (sp_comp nb R).1 ≤ nb → crs T m S M' f (sp_comp nb R).1 (sp_comp nb R).2 (fun _ => false) SS' J' → tgs (sp_comp nb R).2 (fun _ => false) (sp_comp nb R).1 → Q none M' L) : ctC_work g d [.ref 31, .ref f] n M L Q := by
  have hf34 : 34 < f := by rcases hf with rfl | rfl <;> decide
  refine cC_work hf hnb hsz hcr htg hd (fun M0 M1 M2 SS' J' a1 a2 a3 a4 a5 => h _ _ _ (fun c b1 b2 b3 b4 => ?_) ?_ ?_ (nu_le _ _) (anew_crs a2 hf34 a4 a5) (tgs_rn hnb a3))
  · funext y
    rw [mc_put_at, if_neg (by omega), a5.1 c (by omega) (by omega) (by omega), a4 c b3, a1 c b1 b2 b3 (by omega) (by omega)]
  · rw [mc_put_at, if_pos ⟨rfl, rfl⟩]
    rfl
  · rw [mc_put_at, if_neg (by omega), a5.1 f (by omega) (by omega) (by omega), a4 f (by omega), a1 f (by omega) (by omega) (by omega) (by omega) (by omega)]
end CO
