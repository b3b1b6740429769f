/-! both -/
theorem both_in {p : Nat} {W : Mem} {N d : Nat} {s h : Nat → Nat} (g : GC p W N d s h) (k0 : POK N d s h) {l : Nat} (hl : l < 3) {k : Mem → Option (Int32 × Mem)} :
    ∀ (r j F : Nat), j + r = N → r < F → L_X6_both_14 p (nI l) k F (nI j) W = k W := by
  intro r
  have hN := k0.2.1
  induction r with
  | zero =>
    intro j F hj hF
    obtain ⟨F, rfl⟩ : ∃ F', F = F' + 1 := ⟨F - 1, by omega⟩
    rw [L_X6_both_14, g.1, if_pos (by rw [nI_lek (by omega) (by omega)]; omega)]
  | succ r ih =>
    intro j F hj hF
    obtain ⟨F, rfl⟩ : ∃ F', F = F' + 1 := ⟨F - 1, by omega⟩
    rw [L_X6_both_14, g.1, if_neg (by rw [nI_lek (by omega) (by omega)]; omega), isOn_up g k0 hl (by omega), bd_m, isOn_lo g k0 hl (by omega), bd_m, nI_p1, ih (j + 1) F (by omega) (by omega)]
    cases e : up N d (s l) (h l) j
    · rfl
    · rw [up_lo e]; rfl
theorem both_inM {V : Mem} {N d : Nat} {s h : Nat → Nat} (g : GM V N d s h) (k0 : POK N d s h) {l : Nat} (hl : l < 3) {k : Int32 → Mem → Option (Int32 × Mem)} :
    ∀ (r j F : Nat), j + r = N → r < F → L_X7_both_15 (nI l) k F 0 (nI j) V = k 0 V := by
  intro r
  have hN := k0.2.1
  induction r with
  | zero =>
    intro j F hj hF
    obtain ⟨F, rfl⟩ : ∃ F', F = F' + 1 := ⟨F - 1, by omega⟩
    rw [L_X7_both_15, g.1, if_pos (by rw [nI_lek (by omega) (by omega)]; omega)]
  | succ r ih =>
    intro j F hj hF
    obtain ⟨F, rfl⟩ : ∃ F', F = F' + 1 := ⟨F - 1, by omega⟩
    rw [L_X7_both_15, g.1, if_neg (by rw [nI_lek (by omega) (by omega)]; omega), upper_e g k0 hl (by omega), bd_m, lower_e g k0 hl (by omega), bd_m, nI_p1, show (0 : Int32) ||| 0 = 0 by decide, ih (j + 1) F (by omega) (by omega)]
    cases e : up N d (s l) (h l) j
    · rfl
    · rw [up_lo e]; rfl
theorem sim_both : S0 Rel F_X6_both F_X7_both := by
  intro wC wM h
  unfold F_X6_both F_X7_both
  obtain ⟨gc, -, -, hx⟩ := h.plan
  have gmm := GM_M h.InM
  have k0 := POK_M h.InM
  have hN := k0.2.1
  rw [planNow_e, bd_m, h.setPlan, bd_m, show (300 : Nat) = 296 + 1 + 1 + 1 + 1 from rfl]
  refine ⟨0, plW 1 wC, smW wM, ?_, ?_, h.pl⟩
  · rw [L_X6_both_7, if_neg (by decide), show (0 : Int32) = nI 0 from rfl, both_in gc k0 (by decide) (nN wM) 0 _ (by omega) (by omega), nI_p1, L_X6_both_7, if_neg (by decide), show (0 : Int32) = nI 0 from rfl, both_in gc k0 (by decide) (nN wM) 0 _ (by omega) (by omega), nI_p1, L_X6_both_7, if_neg (by decide), show (0 : Int32) = nI 0 from rfl, both_in gc k0 (by decide) (nN wM) 0 _ (by omega) (by omega), nI_p1, L_X6_both_7, if_pos (by decide)]
  · have st : ∀ {l : Nat} {k : Int32 → Mem → Option (Int32 × Mem)} {F : Nat}, l < 3 → L_X7_both_8 k (F + 1) 0 (nI l) (smW wM) = L_X7_both_8 k F 0 (nI (l + 1)) (smW wM) := by
      intro l k F hl
      rw [L_X7_both_8, if_neg (by rw [show (3 : Int32) = nI 3 from rfl, nI_lek (by omega) (by omega)]; omega)]
      have e : L_X7_both_15 (nI l) (fun (x14 : Int32) (w13 : Mem) => L_X7_both_8 k F x14 (nI l + 1) w13) 300 0 (nI 0) (smW wM) = L_X7_both_8 k F 0 (nI l + 1) (smW wM) := both_inM gmm k0 hl (nN wM) 0 300 (by omega) (by omega)
      rw [← nI_p1, ← e]
      rfl
    rw [show L_X7_both_8 (fun x17 w16 => some (x17, w16)) (296 + 1 + 1 + 1 + 1) 0 0 (smW wM) = L_X7_both_8 (fun x17 w16 => some (x17, w16)) (296 + 1 + 1 + 1 + 1) 0 (nI 0) (smW wM) from rfl, st (by decide), st (by decide), st (by decide), L_X7_both_8, if_pos (by decide)]
