/-! settled, or not -/
theorem far_e (x : Int32) (w : Mem) : F_X7_far x w = some (iabs x, w) := by
  unfold F_X7_far iabs
  rw [show 0 - x = -x by rw [Int32.sub_eq_add_neg, Int32.zero_add]]
  split <;> rfl
theorem is_step {q l : Nat} (hl : l < 3) {m : Int32} {k : Mem → Option (Int32 × Mem)} {F : Nat} {W : Mem} : L_X0_isSettled_2 q m k (F + 1) (nI l) W = if iabs (W (q + 3) l - W (q + 4) l) ≤ m then L_X0_isSettled_2 q m k F (nI (l + 1)) W else some (0, W) := by
  rw [L_X0_isSettled_2, if_neg (by rw [show (3 : Int32) = nI 3 from rfl, nI_lek (by omega) (by omega)]; omega)]
  simp only [inb_nI hl (by decide), gd_t, ix_nI (show l < 2 ^ 31 by omega), nI_p1]
theorem near_step {l : Nat} (hl : l < 3) {m v : Int32} {k : Int32 → Mem → Option (Int32 × Mem)} {F : Nat} {V : Mem} : L_X7_isNear_15 m k (F + 1) v (nI l) V = L_X7_isNear_15 m k F (if v = 0 then 0 else if iabs (V 3 l - V 5 l) ≤ m then 1 else 0) (nI (l + 1)) V := by
  rw [L_X7_isNear_15, if_neg (by rw [show (3 : Int32) = nI 3 from rfl, nI_lek (by omega) (by omega)]; omega)]
  simp only [inb_nI hl (by decide), gd_t, ix_nI (show l < 2 ^ 31 by omega), far_e, bd_m, nI_p1, nlt_le]
  by_cases z : v = 0
  · rw [if_pos z, if_pos z]
  · rw [if_neg z, if_neg z]
    by_cases y : iabs (V 3 l - V 5 l) ≤ m
    · rw [if_neg (by simpa using y), if_pos y]
    · rw [if_pos y, if_neg y]
theorem settled_e {W V : Mem} (h : RD 14 W V) (m : Int32) : ∃ b : Bool, F_X0_isSettled 14 m W = some (b32 b, W) ∧ F_X7_isNear m V = some (b32 b, V) := by
  have c : ∀ l, l < 3 → W 17 l = V 3 l := fun l hl => (h.2.1 l hl).2.1.1
  have d : ∀ l, l < 3 → W 18 l = V 5 l := fun l hl => (h.2.1 l hl).2.2.1.1
  obtain ⟨q, -, e1, e2, -⟩ := h.2.2.2.1
  have e : W 20 2 = V 0 7 := by rw [show W 20 2 = nI q from e1, e2]
  refine ⟨decide (V 0 7 = 0) && decide (iabs (V 3 0 - V 5 0) ≤ m) && decide (iabs (V 3 1 - V 5 1) ≤ m) && decide (iabs (V 3 2 - V 5 2) ≤ m), ?_, ?_⟩
  · unfold F_X0_isSettled
    rw [show (300 : Nat) = 296 + 1 + 1 + 1 + 1 from rfl, ← z0, is_step (by decide), is_step (by decide), is_step (by decide), L_X0_isSettled_2, if_pos (show (3 : Int32) ≤ nI (0 + 1 + 1 + 1) by decide), z0]
    simp only [Nat.reduceAdd]
    rw [c 0 (by decide), c 1 (by decide), c 2 (by decide), d 0 (by decide), d 1 (by decide), d 2 (by decide), e]
    by_cases p0 : iabs (V 3 0 - V 5 0) ≤ m <;> by_cases p1 : iabs (V 3 1 - V 5 1) ≤ m <;> by_cases p2 : iabs (V 3 2 - V 5 2) ≤ m <;> by_cases p3 : V 0 7 = 0 <;> simp [p0, p1, p2, p3, b32]
  · unfold F_X7_isNear
    rw [jn_ite, show (300 : Nat) = 296 + 1 + 1 + 1 + 1 from rfl, ← z0, near_step (by decide), near_step (by decide), near_step (by decide), L_X7_isNear_15, if_pos (show (3 : Int32) ≤ nI (0 + 1 + 1 + 1) by decide), z0]
    simp only [Nat.reduceAdd]
    by_cases p0 : iabs (V 3 0 - V 5 0) ≤ m <;> by_cases p1 : iabs (V 3 1 - V 5 1) ≤ m <;> by_cases p2 : iabs (V 3 2 - V 5 2) ≤ m <;> by_cases p3 : V 0 7 = 0 <;> simp [p0, p1, p2, p3, b32, bz, gd_t]
theorem FG.refl (V : Mem) : FG V V := ⟨fun _ _ _ _ _ _ _ _ _ _ _ _ _ _ => rfl, fun _ _ _ _ _ => rfl⟩
theorem settle_loop (m : Int32) {k : Int32 → Mem → Option (Int32 × Mem)} : ∀ (n v F : Nat) (W V : Mem), v + n = 61 → n < F → RD 14 W V →
    ∃ (r : Nat) (V' : Mem), L_X7_settlesIn_6 m k F (nI v) V = k (nI r) V' ∧ v ≤ r ∧ r ≤ 61 ∧ FG V V' ∧
      ∀ (lim : Int32) (F' : Nat), n < F' → lim.toInt ≤ 60 → ∃ W', L_X6_stepsToSettle_24 m lim (fun w => some (-1, w)) F' (nI v) W = some (if (r : Int) ≤ lim.toInt then nI r else -1, W') ∧ FD 14 W W' ∧ W' 20 0 = 12 := by
  intro n
  induction n with
  | zero =>
    intro v F W V hv hF h
    obtain ⟨F, rfl⟩ : ∃ F', F = F' + 1 := ⟨F - 1, by omega⟩
    obtain rfl : v = 61 := by omega
    refine ⟨61, V, ?_, Nat.le_refl _, Nat.le_refl _, FG.refl V, fun lim F' hF' hl => ⟨W, ?_, fun _ _ => rfl, h.2.2.2.2⟩⟩
    · rw [L_X7_settlesIn_6, if_pos (by decide)]
    · obtain ⟨F', rfl⟩ : ∃ F'', F' = F'' + 1 := ⟨F' - 1, by omega⟩
      rw [L_X6_stepsToSettle_24, if_pos (by rw [Int32.lt_iff_toInt_lt, i_nI (by omega)]; omega), if_neg (by omega)]
  | succ n ih =>
    intro v F W V hv hF h
    obtain ⟨F, rfl⟩ : ∃ F', F = F' + 1 := ⟨F - 1, by omega⟩
    obtain ⟨b, s1, s2⟩ := settled_e h m
    have hv' : ¬ (60 : Int32) < nI v := by rw [show (60 : Int32) = nI 60 from rfl, nI_ltk (by omega) (by omega)]; omega
    have lv : ∀ lim : Int32, (lim < nI v) = (lim.toInt < (v : Int)) := fun lim => by rw [Int32.lt_iff_toInt_lt, i_nI (by omega)]
    cases b with
    | true =>
      refine ⟨v, V, ?_, Nat.le_refl _, by omega, FG.refl V, fun lim F' hF' hl => ⟨W, ?_, fun _ _ => rfl, h.2.2.2.2⟩⟩
      · rw [L_X7_settlesIn_6, if_neg hv', s2, bd_m, if_neg (by decide)]
      · obtain ⟨F', rfl⟩ : ∃ F'', F' = F'' + 1 := ⟨F' - 1, by omega⟩
        rw [L_X6_stepsToSettle_24]
        simp only [lv]
        by_cases z : lim.toInt < (v : Int)
        · rw [if_pos z, if_neg (by omega)]
        · rw [if_neg z, s1, bd_m, if_neg (by decide), if_pos (by omega)]
    | false =>
      obtain ⟨b, W1, V1, f1, g1, -, r1, fd, fg⟩ := h.step rfl
      obtain ⟨r, V', q1, q2, q3, q4, q5⟩ := ih (v + 1) F W1 V1 (by omega) (by omega) r1
      refine ⟨r, V', ?_, by omega, q3, fg.trans q4, fun lim F' hF' hl => ?_⟩
      · rw [L_X7_settlesIn_6, if_neg hv', s2, bd_m, if_pos (by decide), g1, bd_m, nI_p1, q1]
      · obtain ⟨F', rfl⟩ : ∃ F'', F' = F'' + 1 := ⟨F' - 1, by omega⟩
        by_cases z : lim.toInt < (v : Int)
        · refine ⟨W, ?_, fun _ _ => rfl, h.2.2.2.2⟩
          rw [L_X6_stepsToSettle_24, if_pos (by rw [lv]; exact z), if_neg (by omega)]
        · obtain ⟨W', p1, p2, p3⟩ := q5 lim F' (by omega) hl
          refine ⟨W', ?_, fun i hi => by rw [p2 i hi, fd i hi], p3⟩
          rw [L_X6_stepsToSettle_24, if_neg (by rw [lv]; exact z), s1, bd_m, if_pos (by decide), f1, bd_m, nI_p1, p1]
