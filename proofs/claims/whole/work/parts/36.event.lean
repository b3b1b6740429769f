/-! the reference's events -/
def ME (V0 V : Mem) (k : Int32) (R : List Row) : Prop := (∀ i, i ≠ 0 → V i = V0 i) ∧ (∀ j, j < 22 ∨ 26 < j → V 0 j = V0 0 j) ∧ V 0 22 = nI R.length ∧ ∀ q (hq : q < R.length), k = nI q → ∀ j, j < 4 → V 0 (23 + j) = fd R[q] j
theorem GM.of0 {V0 V : Mem} {N d : Nat} {s h : Nat → Nat} (g : GM V0 N d s h) (c : ∀ i, i ≠ 0 → V i = V0 i) : GM V N d s h := by
  unfold GM at g ⊢
  rw [c 2 (by decide), c 12 (by decide), c 13 (by decide)]
  exact g
theorem comes1 {V0 V : Mem} {k : Int32} {R : List Row} (c : ME V0 V k R) (hR : R.length ≤ 1000) {t l sd : Nat} {b b' : Bool} :
    ∃ V', F_X7_comesEvent k (nI t) (nI l) (nI sd) (b32 b) (b32 b') V = some ((), V') ∧ ME V0 V' k (R ++ (if (b != b') = true then [(t, l, sd, b)] else [])) := by
  obtain ⟨c1, c2, c3, c4⟩ := c
  unfold F_X7_comesEvent
  simp only [b32_inj]
  by_cases q : b = b'
  · rw [if_pos q, if_neg (by simp [q]), List.append_nil]
    exact ⟨V, rfl, c1, c2, c3, c4⟩
  rw [if_neg q, if_pos (show (b != b') = true by simp [q])]
  simp only [lt_m]
  by_cases z : V 0 22 = k
  · rw [if_pos z]
    have fin : ∀ v : Int32, v = b32 b → ∃ V', (some ((), mst (mst (mst (mst (mst V 0 23 (nI t)) 0 24 (nI l)) 0 25 (nI sd)) 0 26 v) 0 22 (V 0 22 + 1)) : Option (Unit × Mem)) = some ((), V') ∧ ME V0 V' k (R ++ [(t, l, sd, b)]) := by
      intro v hv
      refine ⟨_, rfl, ?_, ?_, ?_, ?_⟩
      · intro i hi
        rw [← c1 i hi]
        simp [mst, hi]
      · intro j hj
        rw [← c2 j hj]
        show upd (upd (upd (upd (upd (V 0) 23 _) 24 _) 25 _) 26 _) 22 _ j = _
        rw [upd_ne (by omega), upd_ne (by omega), upd_ne (by omega), upd_ne (by omega), upd_ne (by omega)]
      · show V 0 22 + 1 = _
        rw [c3, nI_p1]
        simp
      · intro y hy e j hj
        rw [List.length_append, List.length_singleton] at hy
        have : y = R.length := by
          rw [c3, e, nI_eqk (by omega) (by omega)] at z
          exact z.symm
        subst this
        rw [List.getElem_concat_length rfl]
        show upd (upd (upd (upd (upd (V 0) 23 _) 24 _) 25 _) 26 _) 22 _ (23 + j) = _
        rw [hv]
        have : j = 0 ∨ j = 1 ∨ j = 2 ∨ j = 3 := by omega
        rcases this with rfl | rfl | rfl | rfl <;> simp [upd, fd]
    cases b
    · rw [if_pos (by decide)]
      exact fin 0 rfl
    · rw [if_neg (by decide)]
      exact fin 1 rfl
  · rw [if_neg z]
    refine ⟨_, rfl, ?_, ?_, ?_, ?_⟩
    · intro i hi
      rw [← c1 i hi]
      simp [mst, hi]
    · intro j hj
      rw [← c2 j hj]
      show upd (V 0) 22 _ j = _
      rw [upd_ne (by omega)]
    · show V 0 22 + 1 = _
      rw [c3, nI_p1]
      simp
    · intro y hy e j hj
      rw [List.length_append, List.length_singleton] at hy
      have y' : y < R.length := by
        have : y ≠ R.length := by
          intro e2
          apply z
          rw [c3, e, e2]
        omega
      show upd (V 0) 22 _ (23 + j) = _
      rw [upd_ne (by omega), c4 y y' e j hj, List.getElem_append_left y']
theorem se_step {V0 V : Mem} {k1 : Int32} {N d : Nat} {s h : Nat → Nat} (g : GM V0 N d s h) (k0 : POK N d s h) {R : List Row} (c : ME V0 V k1 R) {t l : Nat} (ht : t < N) (hl : l < 3) (hlen : R.length ≤ 900) {k : Mem → Option (Unit × Mem)} {F : Nat} :
    ∃ V', L_X7_setEvents_42 k1 (nI t) (nI (bk N t 1)) k (F + 1) (nI l) V = L_X7_setEvents_42 k1 (nI t) (nI (bk N t 1)) k F (nI (l + 1)) V' ∧ ME V0 V' k1 (R ++ (e1 N d s h t l 0 ++ e1 N d s h t l 1)) := by
  have hN := k0.1
  have hb : bk N t 1 < N := bk_lt' ht (by omega)
  have g' := g.of0 c.1
  obtain ⟨V1, f1, c1⟩ := comes1 c (by omega) (t := t) (l := l) (sd := 0) (b := up N d (s l) (h l) t) (b' := up N d (s l) (h l) (bk N t 1))
  have g1 := g.of0 c1.1
  have c1' : ME V0 V1 k1 (R ++ e1 N d s h t l 0) := c1
  obtain ⟨V2, f2, c2⟩ := comes1 c1' (by have := e1_len N d s h t l 0; rw [List.length_append]; split at this <;> omega) (t := t) (l := l) (sd := 1) (b := lo N d (s l) (h l) t) (b' := lo N d (s l) (h l) (bk N t 1))
  have c2' : ME V0 V2 k1 ((R ++ e1 N d s h t l 0) ++ e1 N d s h t l 1) := c2
  refine ⟨V2, ?_, by rw [← List.append_assoc]; exact c2'⟩
  rw [L_X7_setEvents_42, if_neg (by rw [show (3 : Int32) = nI 3 from rfl, nI_lek (by omega) (by omega)]; omega), upper_e g' k0 hl ht, bd_m, upper_e g' k0 hl hb, bd_m, show F_X7_comesEvent k1 (nI t) (nI l) 0 _ _ V = some ((), V1) from f1, bd_m, lower_e g1 k0 hl ht, bd_m, lower_e g1 k0 hl hb, bd_m, show F_X7_comesEvent k1 (nI t) (nI l) 1 _ _ V1 = some ((), V2) from f2, bd_m, nI_p1]
theorem se_tick {V0 V : Mem} {k1 : Int32} {N d : Nat} {s h : Nat → Nat} (g : GM V0 N d s h) (k0 : POK N d s h) {t : Nat} (ht : t < N) (c : ME V0 V k1 (evs N d s h t)) {k : Mem → Option (Unit × Mem)} :
    ∃ V', L_X7_setEvents_42 k1 (nI t) (nI (bk N t 1)) k 300 (nI 0) V = k V' ∧ ME V0 V' k1 (evs N d s h (t + 1)) := by
  have hlen := evs_12 k0 (T := t + 1) (by omega)
  simp only [evs, e6, List.length_append] at hlen
  obtain ⟨W1, f1, c1⟩ := se_step g k0 c ht (l := 0) (by decide) (by omega) (k := k) (F := 299)
  obtain ⟨W2, f2, c2⟩ := se_step g k0 c1 ht (l := 1) (by decide) (by simp only [List.length_append]; omega) (k := k) (F := 298)
  obtain ⟨W3, f3, c3⟩ := se_step g k0 c2 ht (l := 2) (by decide) (by simp only [List.length_append]; omega) (k := k) (F := 297)
  refine ⟨W3, ?_, ?_⟩
  · rw [f1, f2, f3, L_X7_setEvents_42, if_pos (by decide)]
  · simp only [evs, e6]
    simp only [List.append_assoc] at c3
    exact c3
theorem se_loop {V0 : Mem} {k1 : Int32} {N d : Nat} {s h : Nat → Nat} (g : GM V0 N d s h) (k0 : POK N d s h) {k : Mem → Option (Unit × Mem)} :
    ∀ (r j F : Nat) (V : Mem), j + r = N → r < F → ME V0 V k1 (evs N d s h j) → ∃ V', L_X7_setEvents_11 k1 k F (nI j) V = k V' ∧ ME V0 V' k1 (evs N d s h N) := by
  intro r
  have hN := k0.2.1
  have hN' := k0.1
  induction r with
  | zero =>
    intro j F W hj hF c
    obtain ⟨F, rfl⟩ : ∃ F', F = F' + 1 := ⟨F - 1, by omega⟩
    obtain rfl : j = N := by omega
    refine ⟨W, ?_, c⟩
    rw [L_X7_setEvents_11, (g.of0 c.1).1, if_pos (by rw [nI_lek (by omega) (by omega)]; omega)]
  | succ r ih =>
    intro j F W hj hF c
    obtain ⟨F, rfl⟩ : ∃ F', F = F' + 1 := ⟨F - 1, by omega⟩
    obtain ⟨W1, f1, c1⟩ := se_tick g k0 (show j < N by omega) c (k := fun w26 => L_X7_setEvents_11 k1 k F (nI j + 1) w26)
    obtain ⟨W2, f2, c2⟩ := ih (j + 1) F W1 (by omega) (by omega) c1
    refine ⟨W2, ?_, c2⟩
    rw [L_X7_setEvents_11, (g.of0 c.1).1, if_neg (by rw [nI_lek (by omega) (by omega)]; omega), nz_nI (by omega) (by omega), gd_t, lt_m, prevM ⟨hN', hN⟩ (by omega), ← f2, ← nI_p1]
    exact f1
theorem vC_30 {w w' : Mem} (h : ∀ i, i ≠ 30 → i ≠ 31 → w' i = w i) (h0 : w' 30 0 = w 30 0) : vC w' = vC w := by
  unfold vC
  rw [h 2 (by decide) (by decide), h 3 (by decide) (by decide), h 4 (by decide) (by decide), h 5 (by decide) (by decide), h 6 (by decide) (by decide), h 1 (by decide) (by decide), h 7 (by decide) (by decide), h 8 (by decide) (by decide), h 39 (by decide) (by decide), h 40 (by decide) (by decide), h 41 (by decide) (by decide), h 42 (by decide) (by decide), h 45 (by decide) (by decide), h 20 (by decide) (by decide), h 28 (by decide) (by decide), h 34 (by decide) (by decide), h 43 (by decide) (by decide), h0]
theorem vM_0 {w w' : Mem} (h : ∀ i, i ≠ 0 → w' i = w i) (h6 : w' 0 6 = w 0 6) (h7 : w' 0 7 = w 0 7) (h11 : w' 0 11 = w 0 11) (h32 : w' 0 32 = w 0 32) : vM w' = vM w := by
  unfold vM
  rw [h 2 (by decide), h 4 (by decide), h 3 (by decide), h 5 (by decide), h 6 (by decide), h 7 (by decide), h 8 (by decide), h 9 (by decide), h 10 (by decide), h 21 (by decide), h 1 (by decide), h6, h7, h11, h32]
theorem z0 : nI 0 = 0 := rfl
theorem ms_ne {w : Mem} {i k j : Nat} {v : Int32} (h : j ≠ i) : mst w i k v j = w j := by simp [mst, h]
theorem ms_eq {w : Mem} {i k : Nat} {v : Int32} : mst w i k v i = upd (w i) k v := by simp [mst]
theorem ce0 (W : Mem) (h : W 30 0 = 12) : CE W (mst W 30 2 0) [] := by
  refine ⟨fun i h1 h2 => ms_ne h1, ?_, ?_, fun i hi => absurd hi (by simp)⟩
  · rw [ms_eq, upd_ne (by decide), h]
  · rw [ms_eq, upd_eq]; rfl
theorem me0 (V : Mem) (k : Int32) : ME V (mst V 0 22 0) k [] := by
  refine ⟨fun i h1 => ms_ne h1, fun j hj => ?_, ?_, fun i hi => absurd hi (by simp)⟩
  · rw [ms_eq, upd_ne (by omega)]
  · rw [ms_eq, upd_eq]; rfl
theorem evNow {wC wM : Mem} (h : Rel wC wM) (k : Int32) : ∃ wC' wM' R, F_X6_eventsNow wC = some ((), wC') ∧ F_X7_setEvents k wM = some ((), wM') ∧ R.length ≤ 12 ∧ CE (plW 1 wC) wC' R ∧ ME (smW wM) wM' k R ∧ Rel wC' wM' := by
  obtain ⟨gc, -, -, hx⟩ := h.plan
  have gmm := GM_M h.InM
  have k0 := POK_M h.InM
  have hN := k0.2.1
  have h30 : plW 1 wC 30 0 = 12 := by rw [plW_o (by decide)]; exact h.2.2.2.2.2.2.2.2.2.2.1
  have c0 := ce0 (plW 1 wC) h30
  have m0 := me0 (smW wM) k
  obtain ⟨W, f1, c1⟩ := le_loop gc k0 (k := fun w13 => some ((), w13)) (nN wM) 0 300 _ (by omega) (by omega) c0
  obtain ⟨V, f2, c2⟩ := se_loop gmm k0 (k1 := k) (k := fun w28 => some ((), w28)) (nN wM) 0 300 _ (by omega) (by omega) m0
  refine ⟨W, V, evs (nN wM) (nd wM) (ns wM) (nh wM) (nN wM), ?_, ?_, evs_12 k0 (Nat.le_refl _), c1, c2, ?_⟩
  · unfold F_X6_eventsNow F_X1_listEvents
    rw [planNow_e, bd_m, cut0_e, bd_m]
    rw [z0] at f1
    rw [f1, bd_m]
  · unfold F_X7_setEvents
    rw [z0] at f2
    rw [h.setPlan, bd_m, lt_m, f2]
  · exact h.pl.frame (vC_30 c1.1 (c1.2.1.trans h30.symm)) (vM_0 c2.1 (c2.2.1 6 (by decide)) (c2.2.1 7 (by decide)) (c2.2.1 11 (by decide)) (c2.2.1 32 (by decide)))
theorem sim_events : S0 Rel F_X6_events F_X7_events := by
  intro wC wM h
  unfold F_X6_events F_X7_events
  obtain ⟨W, V, R, f1, f2, hR, c, m, r⟩ := evNow h (-1)
  rw [f1, bd_m, f2, bd_m, c.2.2.1, m.2.2.1]
  exact ⟨_, _, _, rfl, rfl, r⟩
theorem sim_event : S2 Rel F_X6_event F_X7_event := by
  intro a b wC wM h
  unfold F_X6_event F_X7_event
  by_cases ha : a < 0
  · rw [if_pos ha, if_pos ha]; exact S_bad h
  rw [if_neg ha, if_neg ha]
  simp only [within_e, in_e, bd_m]
  by_cases hb : wi b 0 3 = 0
  · rw [if_pos hb, if_pos hb]; exact S_bad h
  rw [if_neg hb, if_neg hb]
  obtain ⟨n, hn, rfl⟩ := rng (N := 3) hb (by decide)
  have e0 : (0 : Int32).toInt = 0 := by decide
  have ha' : 0 ≤ a.toInt := by rw [Int32.lt_iff_toInt_lt, e0] at ha; omega
  have ea := nI_oz (a := a) rfl ha'
  have hlt : a.toInt < 2 ^ 31 := Int32.toInt_lt a
  generalize hq : a.toInt.toNat = q at ea
  have hq' : q < 2 ^ 31 := by omega
  obtain ⟨W, V, R, f1, f2, hR, c, m, r⟩ := evNow h a
  rw [f1, bd_m, f2, bd_m, m.2.2.1]
  by_cases z : q < R.length
  · rw [ea, cellOr_in (m := 12) c.2.2.1 hR (by decide) rfl z (by omega), bd_m]
    refine ⟨_, _, _, rfl, ?_, r⟩
    rw [c.2.2.2 q z n (by omega), if_pos (by rw [nI_ltk (by omega) (by omega)]; exact z), ← m.2.2.2 q z ea n (by omega)]
    match n, hn with
    | 0, _ => rfl
    | 1, _ => rfl
    | 2, _ => rfl
    | 3, _ => rfl
    | y + 4, hy => exact absurd hy (by omega)
  · rw [ea, cellOr_out c.2.2.1 (by omega) (by rw [i_nI (by omega)]; omega), bd_m, if_neg (by rw [nI_ltk (by omega) (by omega)]; exact z)]
    exact ⟨_, _, _, rfl, rfl, r⟩
