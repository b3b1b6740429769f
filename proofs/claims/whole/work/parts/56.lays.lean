/-! what the reference lays aside and takes again -/
theorem lay_idx {l c : Nat} (hl : l < 12) (hc : c ≤ 38) : inb (nI c + nI l) 50 = true ∧ ix (nI c + nI l) = c + l := by
  rw [nI_add]
  exact ⟨inb_nI (by omega) (by decide), ix_nI (by omega)⟩
def LA (V0 V : Mem) (j : Nat) : Prop := (∀ i, i ≠ 20 → V i = V0 i) ∧ ∀ k, k < j → V 20 k = V0 3 k ∧ V 20 (3 + k) = V0 4 k ∧ V 20 (6 + k) = V0 5 k ∧ V 20 (9 + k) = V0 6 k
theorem lay1_loop {V0 : Mem} {k : Mem → Option (Unit × Mem)} : ∀ (r j F : Nat) (V : Mem), j + r = 3 → r < F → LA V0 V j → ∃ V', L_X7_lays_2 k F (nI j) V = k V' ∧ LA V0 V' 3 := by
  intro r
  induction r with
  | zero =>
    intro j F V hj hF a
    obtain ⟨F, rfl⟩ : ∃ F', F = F' + 1 := ⟨F - 1, by omega⟩
    obtain rfl : j = 3 := by omega
    exact ⟨V, by rw [L_X7_lays_2, if_pos (by decide)], a⟩
  | succ r ih =>
    intro j F V hj hF a
    obtain ⟨F, rfl⟩ : ∃ F', F = F' + 1 := ⟨F - 1, by omega⟩
    obtain ⟨V', f, a'⟩ := ih (j + 1) F (mst (mst (mst (mst V 20 j (V 3 j)) 20 (3 + j) (V 4 j)) 20 (6 + j) (V 5 j)) 20 (9 + j) (V 6 j)) (by omega) (by omega) ⟨fun i hi => by rw [ms_ne hi, ms_ne hi, ms_ne hi, ms_ne hi, a.1 i hi], fun k hk => by
      rw [ms_eq, ms_eq, ms_eq, ms_eq, a.1 3 (by decide), a.1 4 (by decide), a.1 5 (by decide), a.1 6 (by decide)]
      by_cases e : k = j
      · subst e
        refine ⟨?_, ?_, ?_, ?_⟩
        · rw [upd_ne (by omega), upd_ne (by omega), upd_ne (by omega), upd_eq]
        · rw [upd_ne (by omega), upd_ne (by omega), upd_eq]
        · rw [upd_ne (by omega), upd_eq]
        · rw [upd_eq]
      · obtain ⟨b1, b2, b3, b4⟩ := a.2 k (by omega)
        refine ⟨?_, ?_, ?_, ?_⟩
        · rw [upd_ne (by omega), upd_ne (by omega), upd_ne (by omega), upd_ne (by omega), b1]
        · rw [upd_ne (by omega), upd_ne (by omega), upd_ne (by omega), upd_ne (by omega), b2]
        · rw [upd_ne (by omega), upd_ne (by omega), upd_ne (by omega), upd_ne (by omega), b3]
        · rw [upd_ne (by omega), upd_ne (by omega), upd_ne (by omega), upd_ne (by omega), b4]⟩
    refine ⟨V', ?_, a'⟩
    have e3 := lay_idx (l := j) (c := 3) (by omega) (by decide)
    have e6 := lay_idx (l := j) (c := 6) (by omega) (by decide)
    have e9 := lay_idx (l := j) (c := 9) (by omega) (by decide)
    rw [L_X7_lays_2, if_neg (by rw [show (3 : Int32) = nI 3 from rfl, nI_lek (by omega) (by omega)]; omega), ← f]
    simp only [show (3 : Int32) = nI 3 from rfl, show (6 : Int32) = nI 6 from rfl, show (9 : Int32) = nI 9 from rfl, e3, e6, e9, inb_nI (show j < 3 by omega) (by decide), inb_nI (show j < 50 by omega) (by decide), gd_t, lt_m, ix_nI (show j < 2 ^ 31 by omega), nI_p1, ms_ne (show 4 ≠ 20 by decide), ms_ne (show 5 ≠ 20 by decide), ms_ne (show 6 ≠ 20 by decide)]
def LB (V0 V : Mem) (f : Nat → Int32) (j : Nat) : Prop := (∀ i, i ≠ 20 → V i = V0 i) ∧ (∀ k, k < 14 → V 20 k = f k) ∧ ∀ k, k < j → V 20 (14 + k) = V0 7 k ∧ V 20 (26 + k) = V0 8 k ∧ V 20 (38 + k) = V0 9 k
theorem lay2_loop {V0 : Mem} {f : Nat → Int32} {k : Mem → Option (Unit × Mem)} : ∀ (r j F : Nat) (V : Mem), j + r = 12 → r < F → LB V0 V f j → ∃ V', L_X7_lays_93 k F (nI j) V = k V' ∧ LB V0 V' f 12 := by
  intro r
  induction r with
  | zero =>
    intro j F V hj hF a
    obtain ⟨F, rfl⟩ : ∃ F', F = F' + 1 := ⟨F - 1, by omega⟩
    obtain rfl : j = 12 := by omega
    exact ⟨V, by rw [L_X7_lays_93, if_pos (by decide)], a⟩
  | succ r ih =>
    intro j F V hj hF a
    obtain ⟨F, rfl⟩ : ∃ F', F = F' + 1 := ⟨F - 1, by omega⟩
    obtain ⟨V', g, a'⟩ := ih (j + 1) F (mst (mst (mst V 20 (14 + j) (V 7 j)) 20 (26 + j) (V 8 j)) 20 (38 + j) (V 9 j)) (by omega) (by omega) ⟨fun i hi => by rw [ms_ne hi, ms_ne hi, ms_ne hi, a.1 i hi], fun k hk => by rw [ms_eq, ms_eq, ms_eq, upd_ne (by omega), upd_ne (by omega), upd_ne (by omega), a.2.1 k hk], fun k hk => by
      rw [ms_eq, ms_eq, ms_eq, a.1 7 (by decide), a.1 8 (by decide), a.1 9 (by decide)]
      by_cases e : k = j
      · subst e
        refine ⟨?_, ?_, ?_⟩
        · rw [upd_ne (by omega), upd_ne (by omega), upd_eq]
        · rw [upd_ne (by omega), upd_eq]
        · rw [upd_eq]
      · obtain ⟨b1, b2, b3⟩ := a.2.2 k (by omega)
        refine ⟨?_, ?_, ?_⟩
        · rw [upd_ne (by omega), upd_ne (by omega), upd_ne (by omega), b1]
        · rw [upd_ne (by omega), upd_ne (by omega), upd_ne (by omega), b2]
        · rw [upd_ne (by omega), upd_ne (by omega), upd_ne (by omega), b3]⟩
    refine ⟨V', ?_, a'⟩
    have e1 := lay_idx (l := j) (c := 14) (by omega) (by decide)
    have e2 := lay_idx (l := j) (c := 26) (by omega) (by decide)
    have e3 := lay_idx (l := j) (c := 38) (by omega) (by decide)
    rw [L_X7_lays_93, if_neg (by rw [show (12 : Int32) = nI 12 from rfl, nI_lek (by omega) (by omega)]; omega), ← g]
    simp only [show (14 : Int32) = nI 14 from rfl, show (26 : Int32) = nI 26 from rfl, show (38 : Int32) = nI 38 from rfl, e1, e2, e3, inb_nI (show j < 12 by omega) (by decide), gd_t, lt_m, ix_nI (show j < 2 ^ 31 by omega), nI_p1, ms_ne (show 8 ≠ 20 by decide), ms_ne (show 9 ≠ 20 by decide)]
/-- what lies aside is what V0 was -/
def LSd (V0 : Mem) (f : Nat → Int32) : Prop := (∀ k, k < 3 → f k = V0 3 k ∧ f (3 + k) = V0 4 k ∧ f (6 + k) = V0 5 k ∧ f (9 + k) = V0 6 k) ∧ f 12 = V0 0 6 ∧ f 13 = V0 0 7 ∧ ∀ k, k < 12 → f (14 + k) = V0 7 k ∧ f (26 + k) = V0 8 k ∧ f (38 + k) = V0 9 k
theorem lays_e (V : Mem) : ∃ V', F_X7_lays V = some ((), V') ∧ (∀ i, i ≠ 20 → V' i = V i) ∧ LSd V (V' 20) := by
  obtain ⟨V1, f1, a1⟩ := lay1_loop (V0 := V) (k := fun (w14 : Mem) => lt (mst w14 20 12 (w14 0 6)) (fun (w15 : Mem) => lt (mst w15 20 13 (w15 0 7)) (fun (w16 : Mem) => L_X7_lays_93 (fun (w27 : Mem) => some ((), w27)) 300 (0 : Int32) w16))) 3 0 300 V (by decide) (by decide) ⟨fun _ _ => rfl, fun k hk => absurd hk (by omega)⟩
  obtain ⟨V2, f2, a2⟩ := lay2_loop (V0 := V) (f := (mst (mst V1 20 12 (V 0 6)) 20 13 (V 0 7)) 20) (k := fun (w27 : Mem) => some ((), w27)) 12 0 300 (mst (mst V1 20 12 (V 0 6)) 20 13 (V 0 7)) (by decide) (by decide) ⟨fun i hi => by rw [ms_ne hi, ms_ne hi, a1.1 i hi], fun k _ => rfl, fun k hk => absurd hk (by omega)⟩
  refine ⟨V2, ?_, a2.1, ?_, ?_, ?_, a2.2.2⟩
  · unfold F_X7_lays
    rw [z0] at f1 f2
    rw [f1, lt_m, lt_m, ms_ne (show 0 ≠ 20 by decide), a1.1 0 (by decide), f2]
  · intro k hk
    obtain ⟨b1, b2, b3, b4⟩ := a1.2 k hk
    rw [a2.2.1 k (by omega), a2.2.1 (3 + k) (by omega), a2.2.1 (6 + k) (by omega), a2.2.1 (9 + k) (by omega), ms_eq, ms_eq, upd_ne (by omega), upd_ne (by omega), upd_ne (by omega), upd_ne (by omega), upd_ne (by omega), upd_ne (by omega), upd_ne (by omega), upd_ne (by omega)]
    exact ⟨b1, b2, b3, b4⟩
  · rw [a2.2.1 12 (by omega), ms_eq, ms_eq, upd_ne (by omega), upd_eq]
  · rw [a2.2.1 13 (by omega), ms_eq, upd_eq]
def TA (V0 V : Mem) (j : Nat) : Prop := (∀ i, i ≠ 3 → i ≠ 4 → i ≠ 5 → i ≠ 6 → V i = V0 i) ∧ ∀ k, k < j → V 3 k = V0 20 k ∧ V 4 k = V0 20 (3 + k) ∧ V 5 k = V0 20 (6 + k) ∧ V 6 k = V0 20 (9 + k)
theorem take1_loop {V0 : Mem} {k : Mem → Option (Unit × Mem)} : ∀ (r j F : Nat) (V : Mem), j + r = 3 → r < F → TA V0 V j → ∃ V', L_X7_takes_2 k F (nI j) V = k V' ∧ TA V0 V' 3 := by
  intro r
  induction r with
  | zero =>
    intro j F V hj hF a
    obtain ⟨F, rfl⟩ : ∃ F', F = F' + 1 := ⟨F - 1, by omega⟩
    obtain rfl : j = 3 := by omega
    exact ⟨V, by rw [L_X7_takes_2, if_pos (by decide)], a⟩
  | succ r ih =>
    intro j F V hj hF a
    obtain ⟨F, rfl⟩ : ∃ F', F = F' + 1 := ⟨F - 1, by omega⟩
    have e20 : V 20 = V0 20 := a.1 20 (by decide) (by decide) (by decide) (by decide)
    obtain ⟨V', f, a'⟩ := ih (j + 1) F (mst (mst (mst (mst V 3 j (V 20 j)) 4 j (V 20 (3 + j))) 5 j (V 20 (6 + j))) 6 j (V 20 (9 + j))) (by omega) (by omega) ⟨fun i h3 h4 h5 h6 => by rw [ms_ne h6, ms_ne h5, ms_ne h4, ms_ne h3, a.1 i h3 h4 h5 h6], fun k hk => by
      rw [ms_ne (show 3 ≠ 6 by decide), ms_ne (show 3 ≠ 5 by decide), ms_ne (show 3 ≠ 4 by decide), ms_eq, ms_ne (show 4 ≠ 6 by decide), ms_ne (show 4 ≠ 5 by decide), ms_eq, ms_ne (show 4 ≠ 3 by decide), ms_ne (show 5 ≠ 6 by decide), ms_eq, ms_ne (show 5 ≠ 4 by decide), ms_ne (show 5 ≠ 3 by decide), ms_eq, ms_ne (show 6 ≠ 5 by decide), ms_ne (show 6 ≠ 4 by decide), ms_ne (show 6 ≠ 3 by decide), e20]
      by_cases e : k = j
      · subst e
        rw [upd_eq, upd_eq, upd_eq, upd_eq]
        exact ⟨rfl, rfl, rfl, rfl⟩
      · rw [upd_ne e, upd_ne e, upd_ne e, upd_ne e]
        exact a.2 k (by omega)⟩
    refine ⟨V', ?_, a'⟩
    have e3 := lay_idx (l := j) (c := 3) (by omega) (by decide)
    have e6 := lay_idx (l := j) (c := 6) (by omega) (by decide)
    have e9 := lay_idx (l := j) (c := 9) (by omega) (by decide)
    rw [L_X7_takes_2, if_neg (by rw [show (3 : Int32) = nI 3 from rfl, nI_lek (by omega) (by omega)]; omega), ← f]
    simp only [show (3 : Int32) = nI 3 from rfl, show (6 : Int32) = nI 6 from rfl, show (9 : Int32) = nI 9 from rfl, e3, e6, e9, inb_nI (show j < 3 by omega) (by decide), inb_nI (show j < 50 by omega) (by decide), gd_t, lt_m, ix_nI (show j < 2 ^ 31 by omega), nI_p1, ms_ne (show 20 ≠ 3 by decide), ms_ne (show 20 ≠ 4 by decide), ms_ne (show 20 ≠ 5 by decide)]
def TB (V0 V : Mem) (j : Nat) : Prop := (∀ i, i ≠ 7 → i ≠ 8 → i ≠ 9 → V i = V0 i) ∧ ∀ k, k < j → V 7 k = V0 20 (14 + k) ∧ V 8 k = V0 20 (26 + k) ∧ V 9 k = V0 20 (38 + k)
theorem take2_loop {V0 : Mem} {k : Mem → Option (Unit × Mem)} : ∀ (r j F : Nat) (V : Mem), j + r = 12 → r < F → TB V0 V j → ∃ V', L_X7_takes_93 k F (nI j) V = k V' ∧ TB V0 V' 12 := by
  intro r
  induction r with
  | zero =>
    intro j F V hj hF a
    obtain ⟨F, rfl⟩ : ∃ F', F = F' + 1 := ⟨F - 1, by omega⟩
    obtain rfl : j = 12 := by omega
    exact ⟨V, by rw [L_X7_takes_93, if_pos (by decide)], a⟩
  | succ r ih =>
    intro j F V hj hF a
    obtain ⟨F, rfl⟩ : ∃ F', F = F' + 1 := ⟨F - 1, by omega⟩
    have e20 : V 20 = V0 20 := a.1 20 (by decide) (by decide) (by decide)
    obtain ⟨V', f, a'⟩ := ih (j + 1) F (mst (mst (mst V 7 j (V 20 (14 + j))) 8 j (V 20 (26 + j))) 9 j (V 20 (38 + j))) (by omega) (by omega) ⟨fun i h3 h4 h5 => by rw [ms_ne h5, ms_ne h4, ms_ne h3, a.1 i h3 h4 h5], fun k hk => by
      rw [ms_ne (show 7 ≠ 9 by decide), ms_ne (show 7 ≠ 8 by decide), ms_eq, ms_ne (show 8 ≠ 9 by decide), ms_eq, ms_ne (show 8 ≠ 7 by decide), ms_eq, ms_ne (show 9 ≠ 8 by decide), ms_ne (show 9 ≠ 7 by decide), e20]
      by_cases e : k = j
      · subst e
        rw [upd_eq, upd_eq, upd_eq]
        exact ⟨rfl, rfl, rfl⟩
      · rw [upd_ne e, upd_ne e, upd_ne e]
        exact a.2 k (by omega)⟩
    refine ⟨V', ?_, a'⟩
    have e1 := lay_idx (l := j) (c := 14) (by omega) (by decide)
    have e2 := lay_idx (l := j) (c := 26) (by omega) (by decide)
    have e3 := lay_idx (l := j) (c := 38) (by omega) (by decide)
    rw [L_X7_takes_93, if_neg (by rw [show (12 : Int32) = nI 12 from rfl, nI_lek (by omega) (by omega)]; omega), ← f]
    simp only [show (14 : Int32) = nI 14 from rfl, show (26 : Int32) = nI 26 from rfl, show (38 : Int32) = nI 38 from rfl, e1, e2, e3, inb_nI (show j < 12 by omega) (by decide), gd_t, lt_m, ix_nI (show j < 2 ^ 31 by omega), nI_p1, ms_ne (show 20 ≠ 7 by decide), ms_ne (show 20 ≠ 8 by decide)]
theorem takes_e {V0 V : Mem} (h : LSd V0 (V 20)) : ∃ V', F_X7_takes V = some ((), V') ∧ (∀ i, i = 1 ∨ i = 2 ∨ i = 10 ∨ i = 21 → V' i = V i) ∧ (∀ j, j ≠ 6 → j ≠ 7 → V' 0 j = V 0 j) ∧ V' 0 6 = V0 0 6 ∧ V' 0 7 = V0 0 7 ∧ (∀ k, k < 3 → V' 3 k = V0 3 k ∧ V' 4 k = V0 4 k ∧ V' 5 k = V0 5 k ∧ V' 6 k = V0 6 k) ∧ ∀ k, k < 12 → V' 7 k = V0 7 k ∧ V' 8 k = V0 8 k ∧ V' 9 k = V0 9 k := by
  obtain ⟨s1, s2, s3, s4⟩ := h
  obtain ⟨V1, f1, a1⟩ := take1_loop (V0 := V) (k := fun (w14 : Mem) => lt (mst w14 0 6 (w14 20 12)) (fun (w15 : Mem) => lt (mst w15 0 7 (w15 20 13)) (fun (w16 : Mem) => L_X7_takes_93 (fun (w27 : Mem) => some ((), w27)) 300 (0 : Int32) w16))) 3 0 300 V (by decide) (by decide) ⟨fun _ _ _ _ _ => rfl, fun k hk => absurd hk (by omega)⟩
  have e20 : V1 20 = V 20 := a1.1 20 (by decide) (by decide) (by decide) (by decide)
  obtain ⟨V2, f2, a2⟩ := take2_loop (V0 := mst (mst V1 0 6 (V 20 12)) 0 7 (V 20 13)) (k := fun (w27 : Mem) => some ((), w27)) 12 0 300 (mst (mst V1 0 6 (V 20 12)) 0 7 (V 20 13)) (by decide) (by decide) ⟨fun _ _ _ _ => rfl, fun k hk => absurd hk (by omega)⟩
  have o : ∀ i, i ≠ 0 → i ≠ 7 → i ≠ 8 → i ≠ 9 → V2 i = V1 i := fun i h0 h7 h8 h9 => by rw [a2.1 i h7 h8 h9, ms_ne h0, ms_ne h0]
  have e0 : V2 0 = upd (upd (V 0) 6 (V 20 12)) 7 (V 20 13) := by rw [a2.1 0 (by decide) (by decide) (by decide), ms_eq, ms_eq, a1.1 0 (by decide) (by decide) (by decide) (by decide)]
  refine ⟨V2, ?_, ?_, ?_, ?_, ?_, ?_, ?_⟩
  · unfold F_X7_takes
    rw [z0] at f1 f2
    rw [f1, lt_m, lt_m, ms_ne (show 20 ≠ 0 by decide), e20, f2]
  · intro i hi
    rw [o i (by omega) (by omega) (by omega) (by omega), a1.1 i (by omega) (by omega) (by omega) (by omega)]
  · intro j h6 h7
    rw [e0, upd_ne h7, upd_ne h6]
  · rw [e0, upd_ne (by decide), upd_eq, s2]
  · rw [e0, upd_eq, s3]
  · intro k hk
    obtain ⟨b1, b2, b3, b4⟩ := a1.2 k hk
    obtain ⟨c1, c2, c3, c4⟩ := s1 k hk
    rw [o 3 (by decide) (by decide) (by decide) (by decide), o 4 (by decide) (by decide) (by decide) (by decide), o 5 (by decide) (by decide) (by decide) (by decide), o 6 (by decide) (by decide) (by decide) (by decide), b1, b2, b3, b4]
    exact ⟨c1, c2, c3, c4⟩
  · intro k hk
    obtain ⟨b1, b2, b3⟩ := a2.2 k hk
    rw [b1, b2, b3, ms_ne (by decide), ms_ne (by decide), e20]
    exact s4 k hk
