/-! settles, tunes -/
theorem Rel.back {W V W' U : Mem} (h : Rel W V) (hW : ∀ i, i < 14 ∨ 26 < i → W' i = W i) (h20 : W' 20 0 = 12) (u2 : U 2 = V 2) (u3 : ∀ l, l < 3 → U 3 l = V 3 l ∧ U 4 l = V 4 l ∧ U 5 l = V 5 l ∧ U 6 l = V 6 l) (uq : ∀ k, k < 12 → U 7 k = V 7 k ∧ U 8 k = V 8 k ∧ U 9 k = V 9 k) (ua : ∀ i, i = 1 ∨ i = 10 ∨ i = 21 → U i = V i) (z : ∀ j, j = 6 ∨ j = 7 ∨ j = 11 ∨ j = 32 → U 0 j = V 0 j) : Rel W' U := by
  have o : ∀ i, i < 14 ∨ 26 < i → W' i = W i := hW
  unfold Rel
  rw [o 2 (by decide), o 3 (by decide), o 4 (by decide), o 5 (by decide), o 6 (by decide), o 1 (by decide), o 7 (by decide), o 8 (by decide), o 39 (by decide), o 40 (by decide), o 41 (by decide), o 42 (by decide), o 45 (by decide), o 28 (by decide), o 30 (by decide), o 34 (by decide), o 43 (by decide), u2, ua 1 (by decide), ua 10 (by decide), ua 21 (by decide), z 6 (by decide), z 7 (by decide), z 11 (by decide), z 32 (by decide)]
  refine ⟨h.1, fun l hl => ?_, h.2.2.1, ?_, h.2.2.2.2.1, h.2.2.2.2.2.1, h.2.2.2.2.2.2.1, h.2.2.2.2.2.2.2.1, h20, h.2.2.2.2.2.2.2.2.2⟩
  · obtain ⟨b1, b2, b3, b4⟩ := u3 l hl
    rw [b1, b2, b3, b4]
    exact h.2.1 l hl
  · obtain ⟨q, hq, e1, e2, hk⟩ := h.2.2.2.1
    refine ⟨q, hq, e1, e2, fun k hk' => ?_⟩
    obtain ⟨b1, b2, b3⟩ := uq k (by omega)
    rw [b1, b2, b3]
    exact hk k hk'
theorem vM_20 {V U : Mem} (h : ∀ i, i ≠ 20 → U i = V i) : vM U = vM V := by
  unfold vM
  rw [h 2 (by decide), h 4 (by decide), h 3 (by decide), h 5 (by decide), h 6 (by decide), h 0 (by decide), h 7 (by decide), h 8 (by decide), h 9 (by decide), h 10 (by decide), h 21 (by decide), h 1 (by decide)]
theorem upd_upd (f : Nat → Int32) (k : Nat) (a b : Int32) : upd (upd f k a) k b = upd f k b := by
  funext j
  unfold upd
  split <;> rfl
theorem ms_ms (W : Mem) (i k : Nat) (a b : Int32) : mst (mst W i k a) i k b = mst W i k b := by
  funext j
  unfold mst
  split
  · rw [if_pos rfl, upd_upd]
  · rfl
theorem settlesIn_e {W V : Mem} (h : Rel W V) {p : Int32} (hp : 0 ≤ p.toInt ∧ p.toInt ≤ 20) (m : Int32) : ∃ (r : Nat) (V' : Mem), r ≤ 61 ∧ F_X7_settlesIn m (mst V 2 4 p) = some (if r ≤ 60 then nI r else -1, V') ∧ V' 2 4 = p ∧
    ∀ lim : Int32, lim.toInt ≤ 60 → ∃ W', F_X6_stepsToSettle m p lim W = some (if (r : Int) ≤ lim.toInt then nI r else -1, W') ∧ Rel W' (mst V' 2 4 (V 2 4)) := by
  obtain ⟨U1, l1, l2, l3⟩ := lays_e (mst V 2 4 p)
  obtain ⟨W1, b1, b2, b3⟩ := become_e h.rd h.2.2.2.2.2.2.2.2.1
  have r1 : RD 14 (mst W1 15 4 p) U1 := (b2.part hp).frameM (vM_20 l2)
  obtain ⟨r, U2, s1, -, s3, s4, s5⟩ := settle_loop m (k := fun (x13 : Int32) (w12 : Mem) => bd (F_X7_takes w12) (fun (r15 : Unit) (w14 : Mem) => if (60 : Int32) < x13 then (some ((-1 : Int32), w14)) else (some (x13, w14)))) 61 0 300 _ _ (by decide) (by decide) r1
  have e20 : U2 20 = U1 20 := s4.1 20 (by decide) (by decide) (by decide) (by decide) (by decide) (by decide) (by decide) (by decide) (by decide) (by decide) (by decide) (by decide) (by decide)
  rw [← e20] at l3
  obtain ⟨U3, t1, t2, t3, t4, t5, t6, t7⟩ := takes_e l3
  have o2 : U3 2 = upd (V 2) 4 p := by
    rw [t2 2 (by decide), s4.1 2 (by decide) (by decide) (by decide) (by decide) (by decide) (by decide) (by decide) (by decide) (by decide) (by decide) (by decide) (by decide) (by decide), l2 2 (by decide), ms_eq]
  refine ⟨r, U3, s3, ?_, by rw [o2, upd_eq], fun lim hl => ?_⟩
  · unfold F_X7_settlesIn
    rw [z0] at s1
    rw [l1, bd_m, s1, t1, bd_m]
    by_cases z : r ≤ 60
    · rw [if_neg (by rw [show (60 : Int32) = nI 60 from rfl, nI_ltk (by omega) (by omega)]; omega), if_pos z]
    · rw [if_pos (by rw [show (60 : Int32) = nI 60 from rfl, nI_ltk (by omega) (by omega)]; omega), if_neg z]
  · obtain ⟨W', q1, q2, q3⟩ := s5 lim 300 (by decide) hl
    refine ⟨W', ?_, h.back (fun i hi => ?_) q3 ?_ ?_ ?_ ?_ ?_⟩
    · unfold F_X6_stepsToSettle
      rw [z0] at q1
      rw [b1, bd_m, lt_m, q1]
    · rw [q2 i (by omega), ms_ne (by omega), b3 i (by omega)]
    · rw [ms_eq, o2, upd_upd, upd_self]
    · intro l hl
      obtain ⟨c1, c2, c3, c4⟩ := t6 l hl
      rw [ms_ne (by decide), ms_ne (by decide), ms_ne (by decide), ms_ne (by decide), c1, c2, c3, c4, ms_ne (by decide), ms_ne (by decide), ms_ne (by decide), ms_ne (by decide)]
      exact ⟨rfl, rfl, rfl, rfl⟩
    · intro k hk
      obtain ⟨c1, c2, c3⟩ := t7 k hk
      rw [ms_ne (by decide), ms_ne (by decide), ms_ne (by decide), c1, c2, c3, ms_ne (by decide), ms_ne (by decide), ms_ne (by decide)]
      exact ⟨rfl, rfl, rfl⟩
    · intro i hi
      rw [ms_ne (by omega), t2 i (by omega), s4.1 i (by omega) (by omega) (by omega) (by omega) (by omega) (by omega) (by omega) (by omega) (by omega) (by omega) (by omega) (by omega) (by omega), l2 i (by omega), ms_ne (by omega)]
    · intro j hj
      rw [ms_ne (by decide)]
      rcases hj with rfl | rfl | rfl | rfl
      · rw [t4, ms_ne (by decide)]
      · rw [t5, ms_ne (by decide)]
      · rw [t3 _ (by decide) (by decide), s4.2 _ (by decide) (by decide) (by decide) (by decide), l2 0 (by decide), ms_ne (by decide)]
      · rw [t3 _ (by decide) (by decide), s4.2 _ (by decide) (by decide) (by decide) (by decide), l2 0 (by decide), ms_ne (by decide)]
theorem sim_settles : S1 Rel F_X6_settles F_X7_settles := by
  intro a wC wM h
  unfold F_X6_settles F_X7_settles
  simp only [within_e, in_e, bd_m]
  by_cases ha : wi a 0 500 = 0
  · rw [if_pos ha, if_pos ha]; exact S_bad h
  rw [if_neg ha, if_neg ha]
  have e4 : wC 2 4 = wM 2 4 := h.1.1 4 (by decide)
  obtain ⟨r, V', hr, f, v4, g⟩ := settlesIn_e h (p := wM 2 4) h.1.2.2.2.2.2.1 a
  obtain ⟨W', g1, rl⟩ := g 60 (by decide)
  have e60 : (60 : Int32).toInt = 60 := by decide
  rw [ms_self] at f
  rw [← v4, ms_self] at rl
  rw [e4, g1, bd_m, f, bd_m]
  by_cases z : r ≤ 60
  · rw [if_pos z, if_pos (by rw [e60]; omega)]
    exact ⟨_, W', V', rfl, rfl, rl⟩
  · rw [if_neg z, if_neg (by rw [e60]; omega)]
    exact ⟨_, W', V', rfl, rfl, rl⟩
theorem tunes_loop (m p0 : Int32) : ∀ (n v F : Nat) (best L B : Int32) (W V : Mem), v + n = 21 → n < F → Rel W (mst V 2 4 p0) → ((L = 60 ∧ B = 268435456) ∨ ∃ b : Nat, b ≤ 60 ∧ B = nI b ∧ L = nI b - 1) →
    ∃ x W' V', L_X6_tunes_24 m (fun x w => some (x, w)) F best L (nI v) W = some (x, W') ∧ L_X7_tunes_32 m p0 (fun x w => lt (mst w 2 4 p0) (fun w13 => some (x, w13))) F best B (nI v) V = some (x, V') ∧ Rel W' V' := by
  intro n
  induction n with
  | zero =>
    intro v F best L B W V hv hF h hB
    obtain ⟨F, rfl⟩ : ∃ F', F = F' + 1 := ⟨F - 1, by omega⟩
    obtain rfl : v = 21 := by omega
    exact ⟨best, W, mst V 2 4 p0, by rw [L_X6_tunes_24, if_pos (by decide)], by rw [L_X7_tunes_32, if_pos (by decide), lt_m], h⟩
  | succ n ih =>
    intro v F best L B W V hv hF h hB
    obtain ⟨F, rfl⟩ : ∃ F', F = F' + 1 := ⟨F - 1, by omega⟩
    have e60 : (60 : Int32).toInt = 60 := by decide
    have hv' : ¬ (20 : Int32) < nI v := by rw [show (20 : Int32) = nI 20 from rfl, nI_ltk (by omega) (by omega)]; omega
    obtain ⟨r, V', hr, f, -, g⟩ := settlesIn_e h (p := nI v) (by rw [i_nI (by omega)]; omega) m
    have hL : L.toInt ≤ 60 := by
      rcases hB with ⟨rfl, -⟩ | ⟨b, hb, -, rfl⟩
      · rw [e60]; omega
      · rw [nI_sub1 (by omega)]; omega
    obtain ⟨W', g1, g2⟩ := g L hL
    rw [ms_ms] at f
    rw [ms_eq, upd_eq] at g2
    have n1 : ¬ nI r = (-1 : Int32) := by
      intro q
      have q1 := i_nI (n := r) (by omega)
      rw [q, show (-1 : Int32).toInt = -1 by decide] at q1
      omega
    by_cases z : (r : Int) ≤ L.toInt
    · obtain ⟨x, W2, V2, q1, q2, q3⟩ := ih (v + 1) F (nI v) (nI r - 1) (nI r) W' V' (by omega) (by omega) g2 (Or.inr ⟨r, by omega, rfl, rfl⟩)
      refine ⟨x, W2, V2, ?_, ?_, q3⟩
      · rw [L_X6_tunes_24, if_neg hv', g1, bd_m, if_pos z, if_neg n1, nI_p1, q1]
      · have hB' : ¬ B ≤ nI r := by
          rw [Int32.le_iff_toInt_le, i_nI (by omega)]
          rcases hB with ⟨rfl, rfl⟩ | ⟨b, hb, rfl, rfl⟩
          · rw [show (268435456 : Int32).toInt = 268435456 by decide]; omega
          · rw [nI_sub1 (by omega)] at z
            rw [i_nI (by omega)]; omega
        rw [L_X7_tunes_32, if_neg hv', lt_m, f, bd_m, if_pos (show r ≤ 60 by omega), if_neg n1, if_neg hB', nI_p1, q2]
    · obtain ⟨x, W2, V2, q1, q2, q3⟩ := ih (v + 1) F best L B W' V' (by omega) (by omega) g2 hB
      refine ⟨x, W2, V2, ?_, ?_, q3⟩
      · rw [L_X6_tunes_24, if_neg hv', g1, bd_m, if_neg z, if_pos rfl, nI_p1, q1]
      · rw [L_X7_tunes_32, if_neg hv', lt_m, f, bd_m]
        by_cases y : r ≤ 60
        · have hB' : B ≤ nI r := by
            rw [Int32.le_iff_toInt_le, i_nI (by omega)]
            rcases hB with ⟨rfl, rfl⟩ | ⟨b, hb, rfl, rfl⟩
            · rw [e60] at z; omega
            · rw [nI_sub1 (by omega)] at z
              rw [i_nI (by omega)]; omega
          rw [if_pos y, if_neg n1, if_pos hB', nI_p1, q2]
        · rw [if_neg y, if_pos rfl, nI_p1, q2]
theorem sim_tunes : S1 Rel F_X6_tunes F_X7_tunes := by
  intro a wC wM h
  unfold F_X6_tunes F_X7_tunes
  simp only [within_e, in_e, bd_m]
  by_cases ha : wi a 0 500 = 0
  · rw [if_pos ha, if_pos ha]; exact S_bad h
  rw [if_neg ha, if_neg ha]
  exact tunes_loop a (wM 2 4) 21 0 300 (-1) 60 268435456 wC wM (by decide) (by decide) (by rw [ms_self]; exact h) (Or.inl ⟨rfl, rfl⟩)
