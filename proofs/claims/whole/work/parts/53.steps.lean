/-! steps -/
theorem addW_o {W : Mem} {t n : Nat} {a b c d : Int32} {i : Nat} (h1 : i ≠ t) (h2 : i ≠ t + 1) : addW W t n a b c d i = W i := by
  unfold addW
  rw [ms_ne h1, ms_ne h2, ms_ne h2, ms_ne h2, ms_ne h2]
theorem addW_t {W : Mem} {t n : Nat} {a b c d : Int32} : addW W t n a b c d t = upd (W t) 2 (nI (n + 1)) := by
  unfold addW
  rw [ms_eq, ms_ne (by omega), ms_ne (by omega), ms_ne (by omega), ms_ne (by omega)]
theorem addW_fc {W : Mem} {t n : Nat} {a b c d : Int32} : FC t W (addW W t n a b c d) := ⟨fun _ h1 h2 => addW_o h1 h2, by rw [addW_t, upd_ne (by decide)]⟩
theorem Rel.newM {wC wM W V : Mem} (h : Rel wC wM) (fc : FC 39 wC W) (f1 : ∀ i, i ≠ 10 → i ≠ 0 → V i = wM i) (f2 : ∀ j, j ≠ 11 → V 0 j = wM 0 j) (rm : RM (W 39 2) (W 40) (V 0 11) (V 10)) : Rel W V := by
  have o : ∀ i, i ≠ 39 → i ≠ 40 → W i = wC i := fc.1
  unfold Rel
  rw [o 2 (by decide) (by decide), o 3 (by decide) (by decide), o 4 (by decide) (by decide), o 5 (by decide) (by decide), o 6 (by decide) (by decide), o 1 (by decide) (by decide), o 7 (by decide) (by decide), o 8 (by decide) (by decide), o 41 (by decide) (by decide), o 42 (by decide) (by decide), o 45 (by decide) (by decide), o 20 (by decide) (by decide), o 28 (by decide) (by decide), o 30 (by decide) (by decide), o 34 (by decide) (by decide), o 43 (by decide) (by decide), fc.2, f1 2 (by decide) (by decide), f1 4 (by decide) (by decide), f1 3 (by decide) (by decide), f1 5 (by decide) (by decide), f1 6 (by decide) (by decide), f1 7 (by decide) (by decide), f1 8 (by decide) (by decide), f1 9 (by decide) (by decide), f1 21 (by decide) (by decide), f1 1 (by decide) (by decide), f2 6 (by decide), f2 7 (by decide), f2 32 (by decide)]
  exact ⟨h.1, h.2.1, h.2.2.1, h.2.2.2.1, rm, h.2.2.2.2.2⟩
theorem Rel.remember {wC wM : Mem} (h : Rel wC wM) {a : Int32} (ha : a = 0 ∨ a = 1) : ∃ W V, F_X6_remember a wC = some ((), W) ∧ F_X7_remembers a wM = some ((), V) ∧ Rel W V := by
  obtain ⟨r, hr, e1, e2, hk⟩ := h.2.2.2.2.1
  have hmo : wC 39 0 = nI 10 := h.2.2.2.2.2.2.2.2.2.2.2.2.1
  obtain ⟨V, g1, v10, v11, f1, f2⟩ := remembers_e ha e2 hr
  have c : ∀ l, l < 3 → wC 4 l = wM 3 l := fun l hl => (h.2.1 l hl).2.1.1
  unfold F_X6_remember
  rcases Nat.lt_or_ge r 10 with hlt | hge
  · refine ⟨addW wC 39 r (wM 3 0) (wM 3 1) (wM 3 2) a, V, ?_, g1, h.newM addW_fc f1 f2 ?_⟩
    · rw [isFull_f e1 hmo hlt (by decide), bd_m, jn_m, if_pos rfl]
      dsimp only
      rw [c 0 (by decide), c 1 (by decide), c 2 (by decide), add_in e1 hmo hlt (by decide) ln39, bd_m]
    · rw [v11, v10, addW_t, upd_eq, Nat.min_eq_right (by omega)]
      refine RM_add (by omega) rfl (fun k k1 k2 j hj => ?_)
      rw [← hk (k - 1) (by omega) j hj, show r - 1 - (k - 1) = r - k by omega]
  · obtain rfl : r = 10 := by omega
    obtain ⟨W1, d1, d2, d3, d4⟩ := dropFirst_e (t := 39) (n := 10) (by decide) (by decide) (by decide) e1
    have c' : W1 4 = wC 4 := d4.1 4 (by decide) (by decide)
    refine ⟨addW W1 39 9 (wM 3 0) (wM 3 1) (wM 3 2) a, V, ?_, g1, h.newM (d4.trans addW_fc) f1 f2 ?_⟩
    · rw [isFull_t e1 hmo (by decide) (by decide), bd_m, jn_m, if_neg (by decide), d1, bd_m]
      dsimp only
      rw [c', c 0 (by decide), c 1 (by decide), c 2 (by decide), add_in d2 (d4.2.trans hmo) (by decide) (by decide) ln39, bd_m]
    · rw [v11, v10, addW_t, upd_eq]
      refine RM_add (r := 9) (by omega) d3 (fun k k1 k2 j hj => ?_)
      rw [← hk (k - 1) (by omega) j hj]
      unfold dfs
      rw [if_pos (by omega)]
      congr 1
      omega
theorem Rel.rd {wC wM : Mem} (h : Rel wC wM) : RD 1 wC wM := ⟨h.1, h.2.1, h.2.2.1, h.2.2.2.1, h.2.2.2.2.2.2.2.1⟩
theorem Rel.ofRD {wC wM W V : Mem} (h : Rel wC wM) (r : RD 1 W V) (fd : FD 1 wC W) (fg : FG wM V) : Rel W V := by
  have o : ∀ i, 13 < i → W i = wC i := fun i hi => fd i (Or.inr hi)
  have n : ∀ i, i = 10 ∨ i = 21 ∨ i = 1 → V i = wM i := fun i hi => fg.1 i (by omega) (by omega) (by omega) (by omega) (by omega) (by omega) (by omega) (by omega) (by omega) (by omega) (by omega) (by omega) (by omega)
  obtain ⟨r1, r2, r3, r4, r5⟩ := r
  unfold Rel
  rw [o 39 (by decide), o 40 (by decide), o 41 (by decide), o 42 (by decide), o 45 (by decide), o 20 (by decide), o 28 (by decide), o 30 (by decide), o 34 (by decide), o 43 (by decide), n 10 (by decide), n 21 (by decide), n 1 (by decide), fg.2 11 (by decide) (by decide) (by decide) (by decide), fg.2 32 (by decide) (by decide) (by decide) (by decide)]
  exact ⟨r1, r2, r3, r4, h.2.2.2.2.1, h.2.2.2.2.2.1, h.2.2.2.2.2.2.1, r5, h.2.2.2.2.2.2.2.2⟩
theorem steps_loop {n : Nat} (hn : n ≤ 50) : ∀ (r j F : Nat) (c : Int32) (W V : Mem), j + r = n → r < F → Rel W V →
    ∃ c' W' V', L_X6_steps_19 (nI n) (fun x w => some (x, w)) F c (nI j) W = some (c', W') ∧ L_X7_steps_19 (nI n) (fun x w => some (x, w)) F c (nI j) V = some (c', V') ∧ Rel W' V' := by
  intro r
  induction r with
  | zero =>
    intro j F c W V hj hF h
    obtain ⟨F, rfl⟩ : ∃ F', F = F' + 1 := ⟨F - 1, by omega⟩
    refine ⟨c, W, V, ?_, ?_, h⟩
    · rw [L_X6_steps_19, if_pos (by rw [nI_lek (by omega) (by omega)]; omega)]
    · rw [L_X7_steps_19, if_pos (by rw [nI_lek (by omega) (by omega)]; omega)]
  | succ r ih =>
    intro j F c W V hj hF h
    obtain ⟨F, rfl⟩ : ∃ F', F = F' + 1 := ⟨F - 1, by omega⟩
    obtain ⟨b, W1, V1, f1, g1, hb, r1, fd, fg⟩ := h.rd.step rfl
    have h1 := h.ofRD r1 fd fg
    have hb' := bz_01 hb
    obtain ⟨W2, V2, f2, g2, h2⟩ := h1.remember hb'
    obtain ⟨c', W', V', q1, q2, q3⟩ := ih (j + 1) F (c + b) W2 V2 (by omega) (by omega) h2
    refine ⟨c', W', V', ?_, ?_, q3⟩
    · rw [L_X6_steps_19, if_neg (by rw [nI_lek (by omega) (by omega)]; omega), f1, bd_m, jn_m]
      rcases hb' with rfl | rfl
      · rw [if_pos rfl]
        dsimp only
        rw [f2, bd_m, nI_p1, q1]
      · rw [if_neg (by decide)]
        dsimp only
        rw [f2, bd_m, nI_p1, q1]
    · rw [L_X7_steps_19, if_neg (by rw [nI_lek (by omega) (by omega)]; omega), g1, bd_m, g2, bd_m]
      rcases hb' with rfl | rfl
      · rw [if_pos rfl, nI_p1, q2]
      · rw [if_neg (by decide), nI_p1, q2]
theorem sim_steps : S1 Rel F_X6_steps F_X7_steps := by
  intro a wC wM h
  unfold F_X6_steps F_X7_steps
  simp only [within_e, in_e, bd_m]
  by_cases ha : wi a 1 50 = 0
  · rw [if_pos ha, if_pos ha]; exact S_bad h
  rw [if_neg ha, if_neg ha]
  have hr := lit_bd ha (a := 1) (b := 50) (by decide) (by decide)
  have ea := nI_oz (a := a) rfl (by omega)
  generalize hq : a.toInt.toNat = q at ea
  subst ea
  exact steps_loop (n := q) (by omega) q 0 300 0 wC wM (by omega) (by omega) h
