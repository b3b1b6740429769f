/-! reads, both -/
theorem sim_reads : S0 Rel F_X6_reads F_X7_reads := by
  intro wC wM h
  obtain ⟨t, ht, t1, t2, tk⟩ := h.2.2.2.2.2.1
  obtain ⟨Q, hQ, c, m, ok⟩ := h.Q
  have hM : TM wM (wM 21) t := ⟨t2, ht, rfl⟩
  generalize hb : wM 21 = b at hM tk
  generalize hnow : (if (999 : Int32) ≤ wM 0 6 then 999 else wM 0 6) = now
  have hn := now_e (wM 0 6)
  rw [hnow] at hn
  obtain ⟨n1, hw⟩ := hn
  have s1 := tsp_le (b := b) (Nat.zero_le t)
  have ss := tsp_tsp (b := b) (Nat.zero_le t)
  have h43 : wC 43 0 = 12 := h.2.2.2.2.2.2.2.2.2.2.2.2.2
  have h7 : wC 7 0 = 12 := h.2.2.2.2.2.2.2.1
  generalize hW0 : mst (mst wC 43 2 0) 41 4 (-1) = W0
  have fr0 : FRd wC W0 := by
    rw [← hW0]
    exact ⟨fun i h1 h2 _ => by rw [ms_ne h1, ms_ne h2], by rw [ms_eq, upd_ne (by decide), ms_ne (by decide)], by rw [ms_ne (by decide), ms_eq, upd_ne (by decide)]⟩
  have hC : TC W0 b t := ⟨by rw [fr0.2.1, t1], ht, fun k hk => by rw [fr0.1 42 (by decide) (by decide) (by decide)]; exact tk k hk⟩
  have h4 : W0 41 4 = -1 := by rw [← hW0, ms_eq, upd_eq]
  have c43 : CW W0 43 [] := ⟨by rw [← hW0, ms_ne (by decide), ms_eq, upd_eq]; rfl, fun i hi => absurd hi (by simp)⟩
  have k43 : W0 43 0 = 12 := by rw [fr0.2.2, h43]
  have eR : (12 : Int32) - wC 7 2 = nI (12 - Q.length) := by rw [c.1]; exact nI_sb' (a := 12) hQ (by decide)
  have e0 : F_X5_faultOfWishes (nI (12 - Q.length)) now wC = if tsp b t 0 < t then L_X5_faultOfWishes_40 (nI (12 - Q.length)) now (fun w18 => some (w18 41 4, w18)) 300 0 (tpl W0 (tsp b t 0)) else some (nI t, tpl W0 (tsp b t 0)) := by
    unfold F_X5_faultOfWishes
    rw [cut0_e, bd_m, lt_m, lt_m, show mst (mst (mst wC 43 2 0) 41 3 0) 41 4 (-1) = tpl W0 0 by rw [← hW0, ← tpl_4]; unfold tpl; rw [z0], blank_e hC (Nat.zero_le t), bd_m, tpl_3, tpl_j (by decide), hC.1]
    by_cases z : tsp b t 0 < t
    · rw [if_pos z, if_pos (by rw [nI_ltk (by omega) (by omega)]; exact z)]
    · rw [if_neg z, if_neg (by rw [nI_ltk (by omega) (by omega)]; exact z)]
  have g0 := goes_e hM m.1 0 (wM 0 33) (wM 0 34) (wM 0 35) (wM 0 36)
  rw [trf_self] at g0
  unfold F_X6_reads F_X7_reads
  rw [eR, h.2.2.1, n1, e0, g0]
  have rel : ∀ W p' m' x' c', FRd wC W → Rel W (trf wM p' m' x' c') := fun W p' m' x' c' fr => h.frame (vC_FR fr) (vM_trf wM p' m' x' c')
  by_cases z : tsp b t 0 < t
  · rw [if_pos z, if_neg (by omega)]
    obtain ⟨W1, f1, fr1, r1⟩ := loopC hw (show 12 - Q.length ≤ 12 by omega) (k := fun w18 => some (w18 41 4, w18)) (12 - Q.length) 0 300 W0 (tsp b t 0) [] (by omega) rfl (by omega) hC h4 c43 k43 s1.2
    have l1 := loopM0 hM hnow hw (k := fun x w => some (x, w)) (12 - Q.length) Q.length 300 (tsp b t 0) 0 (nI (tsp b t 0)) (wM 0 35) (by omega) (by omega) s1.2 ss
    have tok := tpa_ok (b := b) hw (12 - Q.length) (tsp b t 0) s1.2
    rw [z0] at f1
    rw [f1]
    generalize hA : tpa b t now (12 - Q.length) (tsp b t 0) = A at r1 l1 tok
    cases A with
    | inl f =>
      have r1' : W1 41 4 = nI f := r1
      have tok' : f ≤ t := tok
      obtain ⟨p', m', x', c', e⟩ := l1
      rw [bd_m, r1', if_neg (nI_n1 (by omega)), e, bd_m, if_neg (m10 (by omega))]
      exact ⟨_, _, _, rfl, rfl, rel _ _ _ _ _ (fr0.trans fr1)⟩
    | inr ws =>
      obtain ⟨r4, rc⟩ := r1
      obtain ⟨tl, tw⟩ := tok
      rw [List.nil_append] at rc
      obtain ⟨p', m', x', c', e⟩ := l1
      have fr := fr0.trans fr1
      have hl : (0 : Int32) + nI ws.length = nI ws.length := Int32.zero_add _
      have c7 : CW W1 7 Q := c.of (fr.1 7 (by decide) (by decide) (by decide)) (fr.1 8 (by decide) (by decide) (by decide))
      obtain ⟨W2, f2, c2, fc2⟩ := addAll_e (t := 7) (s := 43) (by decide) (by decide) (by decide) rfl rfl (by omega) c7 rc (by rw [fr.1 7 (by decide) (by decide) (by decide), h7])
      have hM' : TM (trf wM p' m' x' c') b t := ⟨by rw [trf_j (by decide) (by decide) (by decide) (by decide)]; exact hM.1, hM.2.1, by rw [trf_o (by decide)]; exact hM.2.2⟩
      have g1 := goes_e hM m.1 1 p' m' x' c'
      obtain ⟨V2, p2, m2, x2, c2', e2, q2, fm2⟩ := loopM1 hw (k := fun x w => some (x, w)) (12 - Q.length) Q.length 300 (tsp b t 0) 0 (nI (tsp b t 0)) x' wM Q ws (by omega) (by omega) s1.2 ss hM hnow rfl m hA
      rw [bd_m, r4, if_pos rfl, f2, bd_m, fc2.1 43 (by decide) (by decide), rc.1, e, bd_m, hl, if_pos (by rw [show (0 : Int32) = nI 0 from rfl, nI_lek (by omega) (by omega)]; omega), g1, if_neg (by omega), e2, bd_m, hl]
      refine ⟨_, _, _, rfl, rfl, (rel W1 p2 m2 x2 c2' fr).newQ (Q := Q ++ ws) (by simp; omega) c2 ⟨?_, fun i hi => ?_⟩ (fun x hx => ?_) fc2 ⟨fun i h0 h7 h8 h9 => ?_, fun j hj => ?_⟩⟩
      · rw [trf_j (by decide) (by decide) (by decide) (by decide), q2.1]
      · rw [trf_o (by decide), trf_o (by decide), trf_o (by decide)]
        exact q2.2 i hi
      · rcases List.mem_append.mp hx with hx | hx
        · exact ok x hx
        · exact tw x hx
      · rw [trf_o h0, trf_o h0, fm2.1 i h0 h7 h8 h9]
      · rw [trf_0, trf_0]
        unfold upd
        (repeat' split) <;> first | rfl | exact fm2.2 j hj
  · have zt : tsp b t 0 = t := by omega
    rw [if_neg z, if_pos zt, bd_m, if_neg (nI_n1 (by omega)), bd_m, if_neg (m10 (by omega))]
    refine ⟨_, _, _, rfl, rfl, rel _ _ _ _ _ (fr0.trans ⟨fun i h1 _ _ => tpl_o h1, tpl_j (by decide), by rw [tpl_o (by decide)]⟩)⟩
