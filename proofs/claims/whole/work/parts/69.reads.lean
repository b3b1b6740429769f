/-! reads -/
theorem loopM0 {V : Mem} {b : Nat → Int32} {t : Nat} (h : TM V b t) {now : Int32} (hnow : (if (999 : Int32) ≤ V 0 6 then 999 else V 0 6) = now) (hw : now.toInt ≤ 999) {k : Int32 → Mem → Option (Int32 × Mem)} : ∀ (r c F p : Nat) (n m x : Int32), c + r = 12 → r < F → p ≤ t → tsp b t p = p → match tpa b t now r p with
    | .inl f => ∃ p' m' x' c', L_X7_goesThrough_38 0 k F n (trf V (nI p) m x (nI c)) = some (-10 - nI f, trf V p' m' x' c')
    | .inr ws => ∃ p' m' x' c', L_X7_goesThrough_38 0 k F n (trf V (nI p) m x (nI c)) = k (n + nI ws.length) (trf V p' m' x' c') := by
  have ht := h.2.1
  have e0 : ∀ (F p c : Nat) (n m x : Int32), p ≤ t → L_X7_goesThrough_38 0 k (F + 1) n (trf V (nI p) m x (nI c)) = if t ≤ p then k n (trf V (nI p) m x (nI c)) else bd (F_X7_readsWish 0 (trf V (nI p) m x (nI c))) (fun (r7 : Int32) (w6 : Mem) => if r7 = (0 : Int32) then (some (((-10 : Int32) - (w6 0 34)), w6)) else (bd (F_X7_skips w6) (fun (r10 : Unit) (w9 : Mem) => L_X7_goesThrough_38 0 k F (n + (1 : Int32)) w9))) := by
    intro F p c n m x hp
    rw [L_X7_goesThrough_38, trf_p, trf_j (by decide) (by decide) (by decide) (by decide), h.1]
    by_cases z : t ≤ p
    · rw [if_pos z, if_pos (by rw [nI_lek (by omega) (by omega)]; exact z)]
    · rw [if_neg z, if_neg (by rw [nI_lek (by omega) (by omega)]; exact z)]
  intro r
  induction r with
  | zero =>
    intro c F p n m x hc hF hp hs
    obtain ⟨F, rfl⟩ : ∃ F', F = F' + 1 := ⟨F - 1, by omega⟩
    rw [e0 _ _ _ _ _ _ hp]
    unfold tpa
    by_cases z : t ≤ p
    · rw [if_pos z, if_pos z]
      exact ⟨_, _, _, _, by rw [show nI ([] : List Wi).length = 0 from rfl, Int32.add_zero]⟩
    · rw [if_neg z, if_neg z]
      have a := wishM_e h hp hs (m := m) (x := x) (c := c) (by omega) hnow 0
      rw [if_neg (by omega)] at a
      obtain ⟨p', x', e⟩ := a
      rw [e, bd_m, if_pos rfl, trf_m]
      exact ⟨_, _, _, _, rfl⟩
  | succ r ih =>
    intro c F p n m x hc hF hp hs
    obtain ⟨F, rfl⟩ : ∃ F', F = F' + 1 := ⟨F - 1, by omega⟩
    rw [e0 _ _ _ _ _ _ hp]
    unfold tpa
    by_cases z : t ≤ p
    · rw [if_pos z, if_pos z]
      exact ⟨_, _, _, _, by rw [show nI ([] : List Wi).length = 0 from rfl, Int32.add_zero]⟩
    · rw [if_neg z, if_neg z]
      have a := wishM_e h hp hs (m := m) (x := x) (c := c) (by omega) hnow 0
      rw [if_pos (by omega)] at a
      have ok := tww_ok (b := b) hp hw
      generalize tww b t now p = A at a ok
      cases A with
      | inl f =>
        obtain ⟨p', x', e⟩ := a
        rw [e, bd_m, if_pos rfl, trf_m]
        exact ⟨_, _, _, _, rfl⟩
      | inr u =>
        obtain ⟨m', x', e⟩ := a
        have u1 : u.1 ≤ t := ok.1
        unfold tcm at e
        rw [if_pos rfl] at e
        rw [e, bd_m, if_neg (by decide), skips_e h u1, bd_m]
        have i := ih (c + 1) F (tsp b t u.1) (n + 1) (nI (tsp b t u.1)) x' (by omega) (by omega) (tsp_le u1).2 (tsp_tsp u1)
        show match (match tpa b t now r (tsp b t u.1) with
          | .inl f => .inl f
          | .inr ws => .inr (u.2 :: ws) : Nat ⊕ List Wi) with
          | .inl f => ∃ p' m' x'' c', L_X7_goesThrough_38 0 k F (n + 1) (trf V (nI (tsp b t u.1)) (nI (tsp b t u.1)) x' (nI (c + 1))) = some (-10 - nI f, trf V p' m' x'' c')
          | .inr ws => ∃ p' m' x'' c', L_X7_goesThrough_38 0 k F (n + 1) (trf V (nI (tsp b t u.1)) (nI (tsp b t u.1)) x' (nI (c + 1))) = k (n + nI ws.length) (trf V p' m' x'' c')
        generalize tpa b t now r (tsp b t u.1) = B at i
        cases B with
        | inl f => exact i
        | inr ws =>
          obtain ⟨p1, m1, x1, c1, e1⟩ := i
          refine ⟨p1, m1, x1, c1, ?_⟩
          rw [e1, Int32.add_assoc, show (1 : Int32) = nI 1 from rfl, nI_add, Nat.add_comm 1]
          rfl
theorem cw_0 {V : Mem} {q : Nat} {a b d : Int32} : cwM V q a b d 0 = upd (V 0) 7 (nI (q + 1)) := by unfold cwM; rw [ms_eq, ms_ne (by decide), ms_ne (by decide), ms_ne (by decide)]
theorem cw_7 {V : Mem} {q : Nat} {a b d : Int32} : cwM V q a b d 7 = upd (V 7) q a := by unfold cwM; rw [ms_ne (by decide), ms_ne (by decide), ms_ne (by decide), ms_eq]
theorem cw_8 {V : Mem} {q : Nat} {a b d : Int32} : cwM V q a b d 8 = upd (V 8) q b := by unfold cwM; rw [ms_ne (by decide), ms_ne (by decide), ms_eq, ms_ne (by decide)]
theorem cw_9 {V : Mem} {q : Nat} {a b d : Int32} : cwM V q a b d 9 = upd (V 9) q d := by unfold cwM; rw [ms_ne (by decide), ms_eq, ms_ne (by decide), ms_ne (by decide)]
theorem cw_o {V : Mem} {q : Nat} {a b d : Int32} {i : Nat} (h0 : i ≠ 0) (h7 : i ≠ 7) (h8 : i ≠ 8) (h9 : i ≠ 9) : cwM V q a b d i = V i := by unfold cwM; rw [ms_ne h0, ms_ne h9, ms_ne h8, ms_ne h7]
theorem trf_cw (V : Mem) (p m x c : Int32) (q : Nat) (a b d : Int32) : cwM (trf V p m x c) q a b d = trf (cwM V q a b d) p m x c := m_ext0 (fun j => by
  rw [cw_0, trf_0, trf_0, cw_0]
  unfold upd
  (repeat' split) <;> first | rfl | omega) (fun i hi => by
  rw [trf_o hi]
  by_cases e7 : i = 7
  · rw [e7, cw_7, cw_7, trf_o (by decide)]
  · by_cases e8 : i = 8
    · rw [e8, cw_8, cw_8, trf_o (by decide)]
    · by_cases e9 : i = 9
      · rw [e9, cw_9, cw_9, trf_o (by decide)]
      · rw [cw_o hi e7 e8 e9, cw_o hi e7 e8 e9, trf_o hi])
theorem WQ.add {V : Mem} {Q : List Wi} (m : WQ V Q) (y : Wi) : WQ (cwM V Q.length y.1 y.2.1 y.2.2) (Q ++ [y]) := by
  refine ⟨by rw [cw_0, upd_eq]; simp, fun i hi => ?_⟩
  rw [cw_7, cw_8, cw_9]
  simp only [List.length_append, List.length_singleton] at hi
  by_cases q : i < Q.length
  · rw [List.getElem_append_left q, upd_ne (by omega), upd_ne (by omega), upd_ne (by omega)]
    exact m.2 i q
  · obtain rfl : i = Q.length := by omega
    rw [List.getElem_concat_length rfl, upd_eq, upd_eq, upd_eq]
    exact ⟨rfl, rfl, rfl⟩
theorem FM.cw (V : Mem) (q : Nat) (a b d : Int32) : FM V (cwM V q a b d) := ⟨fun i h0 h7 h8 h9 => cw_o h0 h7 h8 h9, fun j hj => by rw [cw_0, upd_ne hj]⟩
theorem loopM1 {b : Nat → Int32} {t : Nat} {now : Int32} (hw : now.toInt ≤ 999) {k : Int32 → Mem → Option (Int32 × Mem)} : ∀ (r c F p : Nat) (n m x : Int32) (V : Mem) (Q ws : List Wi), c + r = 12 → r < F → p ≤ t → tsp b t p = p → TM V b t → (if (999 : Int32) ≤ V 0 6 then 999 else V 0 6) = now → Q.length = c → WQ V Q → tpa b t now r p = .inr ws →
    ∃ V' p' m' x' c', L_X7_goesThrough_38 1 k F n (trf V (nI p) m x (nI c)) = k (n + nI ws.length) (trf V' p' m' x' c') ∧ WQ V' (Q ++ ws) ∧ FM V V' := by
  have e0 : ∀ (F p c : Nat) (n m x : Int32) (V : Mem), TM V b t → p ≤ t → L_X7_goesThrough_38 1 k (F + 1) n (trf V (nI p) m x (nI c)) = if t ≤ p then k n (trf V (nI p) m x (nI c)) else bd (F_X7_readsWish 1 (trf V (nI p) m x (nI c))) (fun (r7 : Int32) (w6 : Mem) => if r7 = (0 : Int32) then (some (((-10 : Int32) - (w6 0 34)), w6)) else (bd (F_X7_skips w6) (fun (r10 : Unit) (w9 : Mem) => L_X7_goesThrough_38 1 k F (n + (1 : Int32)) w9))) := by
    intro F p c n m x V h hp
    have ht := h.2.1
    rw [L_X7_goesThrough_38, trf_p, trf_j (by decide) (by decide) (by decide) (by decide), h.1]
    by_cases z : t ≤ p
    · rw [if_pos z, if_pos (by rw [nI_lek (by omega) (by omega)]; exact z)]
    · rw [if_neg z, if_neg (by rw [nI_lek (by omega) (by omega)]; exact z)]
  intro r
  induction r with
  | zero =>
    intro c F p n m x V Q ws hc hF hp hs h hnow hQ wq hws
    obtain ⟨F, rfl⟩ : ∃ F', F = F' + 1 := ⟨F - 1, by omega⟩
    rw [e0 _ _ _ _ _ _ _ h hp]
    unfold tpa at hws
    by_cases z : t ≤ p
    · rw [if_pos z] at hws
      rw [if_pos z]
      obtain rfl : [] = ws := Sum.inr.inj hws
      exact ⟨V, _, _, _, _, by rw [show nI ([] : List Wi).length = 0 from rfl, Int32.add_zero], by rw [List.append_nil]; exact wq, ⟨fun _ _ _ _ _ => rfl, fun _ _ => rfl⟩⟩
    · rw [if_neg z] at hws
      exact absurd hws (by simp)
  | succ r ih =>
    intro c F p n m x V Q ws hc hF hp hs h hnow hQ wq hws
    obtain ⟨F, rfl⟩ : ∃ F', F = F' + 1 := ⟨F - 1, by omega⟩
    rw [e0 _ _ _ _ _ _ _ h hp]
    unfold tpa at hws
    by_cases z : t ≤ p
    · rw [if_pos z] at hws
      rw [if_pos z]
      obtain rfl : [] = ws := Sum.inr.inj hws
      exact ⟨V, _, _, _, _, by rw [show nI ([] : List Wi).length = 0 from rfl, Int32.add_zero], by rw [List.append_nil]; exact wq, ⟨fun _ _ _ _ _ => rfl, fun _ _ => rfl⟩⟩
    · rw [if_neg z] at hws
      rw [if_neg z]
      have a := wishM_e h hp hs (m := m) (x := x) (c := c) (by omega) hnow 1
      rw [if_pos (by omega)] at a
      have ok := tww_ok (b := b) hp hw
      generalize tww b t now p = A at a ok hws
      cases A with
      | inl f => exact absurd hws (by simp)
      | inr u =>
        obtain ⟨m', x', e⟩ := a
        have u1 : u.1 ≤ t := ok.1
        have hws' : (match tpa b t now r (tsp b t u.1) with
          | .inl f => .inl f
          | .inr ws => .inr (u.2 :: ws) : Nat ⊕ List Wi) = .inr ws := hws
        generalize hB : tpa b t now r (tsp b t u.1) = B at hws'
        cases B with
        | inl f => exact absurd hws' (by simp)
        | inr ws2 =>
          obtain rfl : u.2 :: ws2 = ws := Sum.inr.inj hws'
          have e7 : (trf V (nI u.1) m' x' (nI (c + 1))) 0 7 = nI Q.length := by rw [trf_j (by decide) (by decide) (by decide) (by decide), wq.1]
          unfold tcm at e
          rw [if_neg (by decide), comesWish_e e7 (by omega), bd_m, trf_cw] at e
          have h' : TM (cwM V Q.length u.2.1 u.2.2.1 u.2.2.2) b t := ⟨by rw [cw_0, upd_ne (by decide)]; exact h.1, h.2.1, by rw [cw_o (by decide) (by decide) (by decide) (by decide)]; exact h.2.2⟩
          obtain ⟨V', p1, m1, x1, c1, i1, i2, i3⟩ := ih (c + 1) F (tsp b t u.1) (n + 1) (nI (tsp b t u.1)) x' (cwM V Q.length u.2.1 u.2.2.1 u.2.2.2) (Q ++ [u.2]) ws2 (by omega) (by omega) (tsp_le u1).2 (tsp_tsp u1) h' (by rw [cw_0, upd_ne (by decide)]; exact hnow) (by simp; exact hQ) (wq.add u.2) hB
          refine ⟨V', p1, m1, x1, c1, ?_, by rw [List.append_assoc] at i2; exact i2, (FM.cw V _ _ _ _).trans i3⟩
          rw [e, bd_m, if_neg (by decide), skips_e h' u1, bd_m, i1, Int32.add_assoc, show (1 : Int32) = nI 1 from rfl, nI_add, Nat.add_comm 1]
          rfl
theorem goes_e {V : Mem} {b : Nat → Int32} {t q : Nat} (h : TM V b t) (hq : V 0 7 = nI q) (a1 p m x c : Int32) : F_X7_goesThrough a1 (trf V p m x c) = if tsp b t 0 = t then some (-10 - nI t, trf V (nI t) (nI t) x (nI q)) else L_X7_goesThrough_38 a1 (fun x w => some (x, w)) 300 0 (trf V (nI (tsp b t 0)) (nI (tsp b t 0)) x (nI q)) := by
  have ht := h.2.1
  have s1 := tsp_le (b := b) (Nat.zero_le t)
  unfold F_X7_goesThrough
  rw [lt_m, lt_m, trf_sp, trf_j (by decide) (by decide) (by decide) (by decide), hq, trf_sc, ← z0, skips_e h (Nat.zero_le t), bd_m, trf_p, trf_j (by decide) (by decide) (by decide) (by decide), h.1, z0]
  by_cases z : tsp b t 0 = t
  · rw [if_pos z, if_pos (by rw [z]), z]
  · rw [if_neg z, if_neg (by rw [nI_eqk (by omega) (by omega)]; exact z)]
theorem vC_FR {W0 W : Mem} (h : FRd W0 W) : vC W = vC W0 := by
  have o : ∀ i, i ≠ 41 → i ≠ 43 → i ≠ 44 → W i = W0 i := h.1
  unfold vC
  rw [o 2 (by decide) (by decide) (by decide), o 3 (by decide) (by decide) (by decide), o 4 (by decide) (by decide) (by decide), o 5 (by decide) (by decide) (by decide), o 6 (by decide) (by decide) (by decide), o 1 (by decide) (by decide) (by decide), o 7 (by decide) (by decide) (by decide), o 8 (by decide) (by decide) (by decide), o 39 (by decide) (by decide) (by decide), o 40 (by decide) (by decide) (by decide), o 42 (by decide) (by decide) (by decide), o 45 (by decide) (by decide) (by decide), o 20 (by decide) (by decide) (by decide), o 28 (by decide) (by decide) (by decide), o 30 (by decide) (by decide) (by decide), o 34 (by decide) (by decide) (by decide), h.2.1, h.2.2]
theorem vM_trf (V : Mem) (p m x c : Int32) : vM (trf V p m x c) = vM V := by
  have o : ∀ i, i ≠ 0 → trf V p m x c i = V i := fun i hi => trf_o hi
  unfold vM
  rw [o 2 (by decide), o 4 (by decide), o 3 (by decide), o 5 (by decide), o 6 (by decide), o 7 (by decide), o 8 (by decide), o 9 (by decide), o 10 (by decide), o 21 (by decide), o 1 (by decide), trf_j (by decide) (by decide) (by decide) (by decide), trf_j (by decide) (by decide) (by decide) (by decide), trf_j (by decide) (by decide) (by decide) (by decide), trf_j (by decide) (by decide) (by decide) (by decide)]
theorem now_e (x : Int32) : imin x 999 = (if (999 : Int32) ≤ x then 999 else x) ∧ (if (999 : Int32) ≤ x then 999 else x).toInt ≤ 999 := by
  have e : (999 : Int32).toInt = 999 := by decide
  unfold imin
  by_cases z : (999 : Int32) < x
  · have z' : (999 : Int32) ≤ x := by rw [Int32.lt_iff_toInt_lt] at z; rw [Int32.le_iff_toInt_le]; omega
    rw [if_pos z, if_pos z', e]
    exact ⟨rfl, by omega⟩
  · rw [if_neg z]
    by_cases y : (999 : Int32) ≤ x
    · rw [if_pos y, e]
      rw [Int32.lt_iff_toInt_lt] at z
      rw [Int32.le_iff_toInt_le] at y
      exact ⟨i_ext (by omega), by omega⟩
    · rw [if_neg y]
      rw [Int32.le_iff_toInt_le] at y
      exact ⟨rfl, by omega⟩
theorem m10 {f : Nat} (h : f ≤ 120) : ¬ (0 : Int32) ≤ -10 - nI f := by
  rw [Int32.le_iff_toInt_le, i_sub (i_lit (x := -10)) (i_nI (by omega)) (by omega), show (0 : Int32).toInt = 0 by decide]
  omega
