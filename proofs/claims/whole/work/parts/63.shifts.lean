/-! the best shifts -/
theorem search_loop {W0 : Mem} {N : Nat} {L : Int32} {s h : Nat → Nat} (o : RO N s h) (e9 : W0 9 0 = nI N) (g : SH W0 12 11 s h) :
    ∀ (n t F : Nat) (W : Mem), t + n = 19 → n < F → SC W0 W → CGd W [] → (∀ t', t' < t → sGt (okb N L s h) t' = []) →
      ∃ W', L_X3_search_7 9 L (fun w => some ((), w)) F (nI t) W = some ((), W') ∧ SC W0 W' ∧ ((∃ u, u ≤ 18 ∧ W' 32 4 = nI u ∧ sGt (okb N L s h) u ≠ [] ∧ (sGt (okb N L s h) u).length ≤ 338 ∧ CGd W' (sGt (okb N L s h) u) ∧ ∀ t', t' < u → sGt (okb N L s h) t' = []) ∨ (CGd W' [] ∧ ∀ t', t' ≤ 18 → sGt (okb N L s h) t' = [])) := by
  intro n
  induction n with
  | zero =>
    intro t F W ht hF sc c hn
    obtain ⟨F, rfl⟩ : ∃ F', F = F' + 1 := ⟨F - 1, by omega⟩
    obtain rfl : t = 19 := by omega
    refine ⟨W, ?_, sc, Or.inr ⟨c, fun t' ht' => hn t' (by omega)⟩⟩
    rw [L_X3_search_7, if_pos (by decide)]
  | succ n ih =>
    intro t F W ht hF sc c hn
    obtain ⟨F, rfl⟩ : ∃ F', F = F' + 1 := ⟨F - 1, by omega⟩
    have sc1 : SC W0 (mst W 32 4 (nI t)) := ⟨fun i hi => by rw [ms_ne (by omega), sc.1 i hi], by rw [ms_ne (by decide), sc.2]⟩
    have c1 : CGd (mst W 32 4 (nI t)) [] := c.same (by rw [ms_eq, upd_ne (by decide)]) (ms_ne (by decide))
    obtain ⟨W2, f2, s2, c2, k2, l2⟩ := searchAll_e (L := L) o e9 g (show t ≤ 18 by omega) sc1 c1
    rw [ms_eq, upd_eq] at k2
    have st : L_X3_search_7 9 L (fun w => some ((), w)) (F + 1) (nI t) W = L_X3_search_7 9 L (fun w => some ((), w)) F (nI (t + 1)) W2 := by
      rw [L_X3_search_7, if_neg (by rw [show (18 : Int32) = nI 18 from rfl, nI_ltk (by omega) (by omega)]; omega), if_pos (show W 32 5 = 0 from c.1), lt_m, f2, bd_m, nI_p1]
    rw [st]
    by_cases z : sGt (okb N L s h) t = []
    · rw [z] at c2
      exact ih (t + 1) F W2 (by omega) (by omega) s2 c2 (fun t' ht' => by
        by_cases y : t' = t
        · rw [y]; exact z
        · exact hn t' (by omega))
    · obtain ⟨F, rfl⟩ : ∃ F', F = F' + 1 := ⟨F - 1, by omega⟩
      refine ⟨W2, ?_, s2, Or.inl ⟨t, by omega, k2, z, l2, c2, hn⟩⟩
      rw [L_X3_search_7]
      by_cases y : (18 : Int32) < nI (t + 1)
      · rw [if_pos y]
      · have hz : (sGt (okb N L s h) t).length ≠ 0 := fun q => z (List.length_eq_zero_iff.mp q)
        rw [if_neg y, if_neg (by rw [c2.1, nI_eq0 (by omega)]; exact hz)]
theorem sh20_loop {V0 : Mem} {a : Int32} {k : Mem → Option (Int32 × Mem)} : ∀ (n l F : Nat) (V : Mem), l + n = 3 → n < F → (∀ i, i ≠ 18 → V i = V0 i) → (∀ j, j < l → V 18 j = V0 13 j) → ∃ V', L_X7_shift_20 a k F (nI l) V = k V' ∧ (∀ i, i ≠ 18 → V' i = V0 i) ∧ ∀ j, j < 3 → V' 18 j = V0 13 j := by
  intro n
  induction n with
  | zero =>
    intro l F V hl hF h1 h2
    obtain ⟨F, rfl⟩ : ∃ F', F = F' + 1 := ⟨F - 1, by omega⟩
    obtain rfl : l = 3 := by omega
    exact ⟨V, by rw [L_X7_shift_20, if_pos (by decide)], h1, h2⟩
  | succ n ih =>
    intro l F V hl hF h1 h2
    obtain ⟨F, rfl⟩ : ∃ F', F = F' + 1 := ⟨F - 1, by omega⟩
    obtain ⟨V', f, r⟩ := ih (l + 1) F (mst V 18 l (V 13 l)) (by omega) (by omega) (fun i hi => by rw [ms_ne hi, h1 i hi]) (fun j hj => by
      rw [ms_eq]
      by_cases e : j = l
      · rw [e, upd_eq, h1 13 (by decide)]
      · rw [upd_ne e, h2 j (by omega)])
    refine ⟨V', ?_, r⟩
    rw [L_X7_shift_20, if_neg (by rw [show (3 : Int32) = nI 3 from rfl, nI_lek (by omega) (by omega)]; omega), inb_nI (by omega) (by decide), gd_t, gd_t, lt_m, ix_nI (by omega), nI_p1, f]
theorem vC_32 {W0 W : Mem} (h : SC W0 W) (h0 : W0 34 0 = 7) : vC W = vC W0 := by
  have o := h.1
  unfold vC
  rw [o 2 (by decide), o 3 (by decide), o 4 (by decide), o 5 (by decide), o 6 (by decide), o 1 (by decide), o 7 (by decide), o 8 (by decide), o 39 (by decide), o 40 (by decide), o 41 (by decide), o 42 (by decide), o 45 (by decide), o 20 (by decide), o 28 (by decide), o 30 (by decide), o 43 (by decide), h.2, h0]
theorem vM_SM {V0 V : Mem} (h : SMf V0 V) : vM V = vM V0 := by
  have o : ∀ i, i ≠ 0 → i ≠ 13 → i ≠ 15 → i ≠ 16 → i ≠ 17 → V i = V0 i := h.1
  unfold vM
  rw [o 2 (by decide) (by decide) (by decide) (by decide) (by decide), o 4 (by decide) (by decide) (by decide) (by decide) (by decide), o 3 (by decide) (by decide) (by decide) (by decide) (by decide), o 5 (by decide) (by decide) (by decide) (by decide) (by decide), o 6 (by decide) (by decide) (by decide) (by decide) (by decide), o 7 (by decide) (by decide) (by decide) (by decide) (by decide), o 8 (by decide) (by decide) (by decide) (by decide) (by decide), o 9 (by decide) (by decide) (by decide) (by decide) (by decide), o 10 (by decide) (by decide) (by decide) (by decide) (by decide), o 21 (by decide) (by decide) (by decide) (by decide) (by decide), o 1 (by decide) (by decide) (by decide) (by decide) (by decide), h.2 6 (by decide), h.2 7 (by decide), h.2 11 (by decide), h.2 32 (by decide)]
theorem sim_shift : S1 Rel F_X6_shift F_X7_shift := by
  intro a wC wM h
  unfold F_X6_shift F_X7_shift
  simp only [within_e, in_e, bd_m]
  by_cases ha : wi a 0 4 = 0
  · rw [if_pos ha, if_pos ha]; exact S_bad h
  rw [if_neg ha, if_neg ha]
  obtain ⟨n, hn, rfl⟩ := rng (N := 4) ha (by decide)
  obtain ⟨gc, -, -, -⟩ := h.plan
  obtain ⟨gM, o, e2, e3⟩ := h.sh
  have h34 : plW 1 wC 34 0 = 7 := by rw [plW_o (by decide)]; exact h.2.2.2.2.2.2.2.2.2.2.2.1
  have eL : plW 1 wC 2 3 = wM 2 3 := by rw [plW_o (by decide)]; exact h.1.1 3 (by decide)
  rw [planNow_e, bd_m, h.setPlan, bd_m, eL]
  obtain ⟨W, fW, sW, cW⟩ := search_loop (W0 := plW 1 wC) (L := wM 2 3) o gc.1 gc.SH 19 0 300 (mst (plW 1 wC) 32 5 0) (by decide) (by decide) ⟨fun i hi => by rw [ms_ne (by omega)], by rw [ms_ne (by decide), h34]⟩ ⟨by rw [ms_eq, upd_eq]; rfl, fun b R e => absurd e (by simp)⟩ (fun t' ht' => absurd ht' (by omega))
  have f1 : F_X3_search 9 (wM 2 3) (plW 1 wC) = some ((), W) := by
    unfold F_X3_search
    rw [lt_m]
    rw [z0] at fW
    exact fW
  rw [f1, bd_m]
  obtain ⟨V1, g1, o1', s1⟩ := sh20_loop (V0 := smW wM) (a := nI n) (k := fun (w11 : Mem) => lt (mst w11 17 3 (268435456 : Int32)) (fun (w12 : Mem) => L_X7_shift_54 (nI n) (fun (w21 : Mem) => if (w21 17 3) = (268435456 : Int32) then (some ((-1000 : Int32), w21)) else (gd (inb (nI n) 5) (some ((w21 17 (ix (nI n))), w21)))) 300 (-6 : Int32) w12)) 3 0 300 (smW wM) (by decide) (by decide) (fun _ _ => rfl) (fun j hj => absurd hj (by omega))
  rw [z0] at g1
  rw [g1, lt_m]
  have m2 : ∀ i, i ≠ 17 → i ≠ 18 → mst V1 17 3 268435456 i = smW wM i := fun i h1 h2 => by rw [ms_ne h1, o1' i h2]
  obtain ⟨V2, g2, fr2, b2⟩ := s54_loop (V0 := mst V1 17 3 268435456) (L := wM 2 3) o (by rw [m2 2 (by decide) (by decide), e2]) (by rw [m2 2 (by decide) (by decide), e3]) (fun l hl => by
    refine ⟨?_, by rw [m2 12 (by decide) (by decide)]; exact (gM l hl).2⟩
    rw [ms_ne (by decide), s1 l hl]
    exact (gM l hl).1) (a := nI n) (k := fun (w21 : Mem) => if (w21 17 3) = (268435456 : Int32) then (some ((-1000 : Int32), w21)) else (gd (inb (nI n) 5) (some ((w21 17 (ix (nI n))), w21)))) 13 0 300 (mst V1 17 3 268435456) [] (by decide) (by decide) ⟨fun _ _ _ _ _ _ => rfl, fun _ _ => rfl⟩ (Or.inl ⟨rfl, by rw [ms_eq, upd_eq]⟩)
  rw [shi_0] at g2
  rw [List.nil_append] at b2
  rw [g2]
  have rl : Rel W V2 := h.frame ((vC_32 sW h34).trans (vC_pl wC)) ((vM_SM fr2).trans (by
    unfold vM
    rw [m2 2 (by decide) (by decide), m2 4 (by decide) (by decide), m2 3 (by decide) (by decide), m2 5 (by decide) (by decide), m2 6 (by decide) (by decide), m2 0 (by decide) (by decide), m2 7 (by decide) (by decide), m2 8 (by decide) (by decide), m2 9 (by decide) (by decide), m2 10 (by decide) (by decide), m2 21 (by decide) (by decide), m2 1 (by decide) (by decide)]
    exact vM_sm wM))
  have b3 : BGd V2 (sLL.filter (okb (nN wM) (wM 2 3) (ns wM) (nh wM))) := b2
  have ge : ∀ t, sGt (okb (nN wM) (wM 2 3) (ns wM) (nh wM)) t = _ := fun t => sGt_e _ t
  rcases b3 with ⟨eA, e17⟩ | ⟨m, b, R, hm, e17, hA, hf, r0, r1, r2, r4⟩
  · have none : ∀ t, sGt (okb (nN wM) (wM 2 3) (ns wM) (nh wM)) t = [] := fun t => by rw [ge, eA]; rfl
    have c0 : W 32 5 = 0 := by
      rcases cW with ⟨u, -, -, q, -⟩ | ⟨q, -⟩
      · exact absurd (none u) q
      · exact q.1
    rw [if_pos c0, if_pos e17]
    exact ⟨_, _, _, rfl, rfl, rl⟩
  · have gm : sGt (okb (nN wM) (wM 2 3) (ns wM) (nh wM)) m = b :: R := by rw [ge, hf]
    rcases cW with ⟨u, hu, k4, q, ql, c, hlt⟩ | ⟨-, q⟩
    · have um : u = m := by
        rcases Nat.lt_trichotomy u m with z | z | z
        · obtain ⟨y, hy⟩ := List.exists_mem_of_ne_nil _ q
          rw [ge, List.mem_filter] at hy
          have y1 := hA y hy.1
          have y2 : stot y = u := of_decide_eq_true hy.2
          omega
        · exact z
        · have := hlt m z
          rw [gm] at this
          exact absurd this (by simp)
      subst um
      rw [gm] at c ql
      have c5 : W 32 5 = nI (R.length + 1) := by rw [c.1]; simp
      obtain ⟨d0, d1, d2⟩ := c.2 b R rfl
      simp only [List.length_cons] at ql
      have ne : ¬ V2 17 3 = 268435456 := by
        rw [e17]
        intro z
        have y := i_nI (n := u) (by omega)
        rw [z, show (268435456 : Int32).toInt = 268435456 by decide] at y
        omega
      rw [if_neg (show ¬ W 32 5 = 0 by rw [c5, nI_eq0 (by omega)]; omega), if_neg ne, inb_nI (show n < 5 by omega) (by decide), gd_t, ix_nI (show n < 2 ^ 31 by omega)]
      rcases (show n = 0 ∨ n = 1 ∨ n = 2 ∨ n = 3 ∨ n = 4 by omega) with rfl | rfl | rfl | rfl | rfl
      · rw [if_neg (by decide), if_neg (by decide), show inb (nI 0) 3 = true by decide, gd_t, r0, d0]
        exact ⟨_, W, V2, rfl, rfl, rl⟩
      · rw [if_neg (by decide), if_neg (by decide), show inb (nI 1) 3 = true by decide, gd_t, r1, d1]
        exact ⟨_, W, V2, rfl, rfl, rl⟩
      · rw [if_neg (by decide), if_neg (by decide), show inb (nI 2) 3 = true by decide, gd_t, r2, d2]
        exact ⟨_, W, V2, rfl, rfl, rl⟩
      · rw [if_pos (by decide), e17, k4]
        exact ⟨_, W, V2, rfl, rfl, rl⟩
      · rw [if_neg (by decide), if_pos (by decide), r4, c5]
        exact ⟨_, W, V2, rfl, rfl, rl⟩
    · have := q m hm
      rw [gm] at this
      exact absurd this (by simp)
