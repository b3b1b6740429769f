/-! of, at, off, draw -/
def gm (what N d s h t : Nat) : Bool := match what with
  | 0 => up N d s h t
  | 1 => lo N d s h t
  | 2 => !(up N d s h t) && !(lo N d s h t)
  | _ => up N d s h t && !(up N d s h (bk N t 1))
theorem prevM {N t : Nat} (hN : 12 ≤ N ∧ N ≤ 96) (ht : t < N) : irm ((nI t + nI N) - 1) (nI N) = nI (bk N t 1) := by
  have e : (nI t + nI N) - 1 = nI (t + N - 1) := i_ext (by rw [i_sub (i_add (i_nI (by omega)) (i_nI (by omega)) (by omega)) (show (1 : Int32).toInt = 1 by decide) (by omega), i_nI (by omega)]; omega)
  rw [e, rem_nn (by omega) (by omega) (by omega)]
  congr 1
  unfold bk
  split
  · rw [show t + N - 1 = (t - 1) + N by omega, Nat.add_mod_right, Nat.mod_eq_of_lt (by omega)]
  · rw [Nat.mod_eq_of_lt (by omega)]
theorem nz_nI {N : Nat} (h : 0 < N) (h' : N < 2 ^ 31) : nz (nI N) = true := by
  simp only [nz, Bool.not_eq_true', decide_eq_false_iff_not, nI_eq0 h']
  omega
theorem gate_loop {V : Mem} {N d : Nat} {s h : Nat → Nat} (g : GM V N d s h) (k0 : POK N d s h) {l what : Nat} (hl : l < 3) (hw : what ≤ 3) {k : Int32 → Mem → Option (Int32 × Mem)} :
    ∀ (r j c F : Nat), j + r = N → r < F → L_X7_gateMany_13 (nI l) (nI what) (nI N) k F (nI c) (nI j) V = k (nI (c + (List.range r).countP (fun i => gm what N d (s l) (h l) (j + i)))) V := by
  intro r
  have hN := k0.2.1
  have hN' := k0.1
  induction r with
  | zero =>
    intro j c F hj hF
    obtain ⟨F, rfl⟩ : ∃ F', F = F' + 1 := ⟨F - 1, by omega⟩
    rw [L_X7_gateMany_13, if_pos (by rw [nI_lek (by omega) (by omega)]; omega)]
    rfl
  | succ r ih =>
    intro j c F hj hF
    obtain ⟨F, rfl⟩ : ∃ F', F = F' + 1 := ⟨F - 1, by omega⟩
    have hb : bk N j 1 < N := bk_lt' (by omega) (by omega)
    have fin : ∀ b : Bool, (if b32 b = 0 then L_X7_gateMany_13 (nI l) (nI what) (nI N) k F (nI c + 0) (nI j + 1) V else L_X7_gateMany_13 (nI l) (nI what) (nI N) k F (nI c + 1) (nI j + 1) V) = k (nI (c + ((if b = true then 1 else 0) + (List.range r).countP (fun i => gm what N d (s l) (h l) (j + 1 + i))))) V := by
      intro b
      cases b
      · rw [if_pos (by decide), show nI c + 0 = nI c by simp, nI_p1, ih (j + 1) c F (by omega) (by omega)]
        simp
      · rw [if_neg (by decide), nI_p1, nI_p1, ih (j + 1) (c + 1) F (by omega) (by omega), if_pos rfl, Nat.add_assoc]
    rw [L_X7_gateMany_13, if_neg (by rw [nI_lek (by omega) (by omega)]; omega), upper_e g k0 hl (by omega), bd_m, lower_e g k0 hl (by omega), bd_m, jn_m, cnt_split (gm what N d (s l) (h l)) j r]
    match what, hw with
    | 0, _ => rw [if_pos (by decide)]; exact fin (up N d (s l) (h l) j)
    | 1, _ => rw [if_neg (by decide), if_pos (by decide)]; exact fin (lo N d (s l) (h l) j)
    | 2, _ =>
      rw [if_neg (by decide), if_neg (by decide), if_pos (by decide)]
      have := fin (!(up N d (s l) (h l) j) && !(lo N d (s l) (h l) j))
      show _ = k (nI (c + ((if (!(up N d (s l) (h l) j) && !(lo N d (s l) (h l) j)) = true then 1 else 0) + _))) V
      rw [← this]
      simp only [b32_0]
      cases up N d (s l) (h l) j <;> cases lo N d (s l) (h l) j <;> rfl
    | 3, _ =>
      rw [if_neg (by decide), if_neg (by decide), if_neg (by decide), nz_nI (by omega) (by omega), gd_t, prevM ⟨hN', hN⟩ (by omega), upper_e g k0 hl hb, bd_m]
      have := fin (up N d (s l) (h l) j && !(up N d (s l) (h l) (bk N j 1)))
      show _ = k (nI (c + ((if (up N d (s l) (h l) j && !(up N d (s l) (h l) (bk N j 1))) = true then 1 else 0) + _))) V
      rw [← this]
      simp only [b32_0]
      cases up N d (s l) (h l) j <;> cases up N d (s l) (h l) (bk N j 1) <;> rfl
    | q + 4, hq => exact absurd hq (by omega)
theorem gateMany_e {V : Mem} {N d : Nat} {s h : Nat → Nat} (g : GM V N d s h) (k0 : POK N d s h) {l what : Nat} (hl : l < 3) (hw : what ≤ 3) : F_X7_gateMany (nI l) (nI what) V = some (nI ((List.range N).countP (gm what N d (s l) (h l))), V) := by
  unfold F_X7_gateMany
  have := gate_loop g k0 hl hw (k := fun x6 w5 => some (x6, w5)) N 0 0 300 (by omega) (by have := k0.2.1; omega)
  simp only [Nat.zero_add] at this
  rw [g.1]
  exact this
theorem cNe {N d s h : Nat} (hN : 12 ≤ N) (hd : d ≤ 5) (hh : h ≤ N) (hs : s = (N - h) / 2) : (List.range N).countP (gm 2 N d s h) = N - tOn N d h - tOn N d (N - h) := by
  have e : (List.range N).countP (gm 2 N d s h) = (List.range N).countP (fun t => !(up N d s h t || lo N d s h t)) := cC (fun t _ => by
    show (!(up N d s h t) && !(lo N d s h t)) = _
    cases up N d s h t <;> cases lo N d s h t <;> rfl)
  rw [e, cNot, cOr (fun t q => by rw [up_lo q.1] at q; exact absurd q.2 (by decide)), cUp hN hd hh hs, cLo hN hd hh hs]
  omega
theorem cCon {N d s h : Nat} (hN : 12 ≤ N) (hd : d ≤ 5) (hh : h ≤ N) (hs : s = (N - h) / 2) : (List.range N).countP (gm 3 N d s h) = con N d h := by
  unfold con
  by_cases q : h = N
  · rw [cC (q := fun t => decide (1 ≤ t ∧ t < 1)) (fun t ht => ?_), cI, show tOn N d h = N by (unfold tOn; rw [if_pos (by omega)]), if_neg (by omega)]
    · omega
    · show (up N d s h t && !(up N d s h (bk N t 1))) = _
      rw [(up_iff hN hd hh hs (bk_lt' ht (by omega))).mpr (Or.inl q)]
      simp
      omega
  · rw [cC (q := fun t => decide (s + d ≤ t ∧ t < min (s + d + 1) (s + h))) (fun t ht => ?_), cI]
    · rw [show tOn N d h = h - d by (unfold tOn; rw [if_neg (by omega)])]
      by_cases z : d < h
      · rw [if_pos (by omega)]; omega
      · rw [if_neg (by omega)]; omega
    · show (up N d s h t && !(up N d s h (bk N t 1))) = _
      rw [Bool.eq_iff_iff, Bool.and_eq_true, Bool.not_eq_true', ← Bool.not_eq_true, up_iff hN hd hh hs ht, up_iff hN hd hh hs (bk_lt' ht (by omega)), decide_eq_true_iff]
      unfold bk
      split <;> omega
theorem legN {a : Int32} (h : ¬ wi a 0 2 = 0) : ∃ l, l < 3 ∧ a = nI l := by
  obtain ⟨n, hn, e⟩ := rng (N := 2) h (by decide)
  exact ⟨n, by omega, e⟩
theorem Rel.plB {wC wM : Mem} (h : Rel wC wM) : Rel (plW 1 wC) wM := h.frame (vC_pl wC) rfl
theorem Rel.mB {wC wM : Mem} (h : Rel wC wM) : Rel wC (smW wM) := h.frame rfl (vM_sm wM)
theorem sim_of : S2 Rel F_X6_of F_X7_of := by
  intro a b wC wM h
  unfold F_X6_of F_X7_of
  simp only [isLeg_e, isLeg7_e, in_e, bd_m]
  by_cases ha : wi a 0 2 = 0
  · rw [if_pos ha, if_pos ha]; exact S_bad h
  rw [if_neg ha, if_neg ha]
  obtain ⟨l, hl, rfl⟩ := legN ha
  rw [planNow_e, bd_m]
  simp only [inb_nI hl (by decide), gd_t, ix_nI (show l < 2 ^ 31 by omega)]
  by_cases hb : wi b 0 6 = 0
  · rw [if_pos hb, if_neg (wi_ne hb (by decide)), if_neg (wi_ne hb (by decide)), if_neg (wi_ne hb (by decide)), if_neg (wi_ne hb (by decide)), if_neg (wi_ne hb (by decide)), if_neg (wi_ne hb (by decide)), if_neg (wi_ne hb (by decide))]
    exact S_bad h.plB
  rw [if_neg hb]
  obtain ⟨n, hn, rfl⟩ := rng (N := 6) hb (by decide)
  unfold F_X7_ofBy
  rw [h.setPlan, bd_m]
  simp only [inb_nI hl (by decide), gd_t, ix_nI (show l < 2 ^ 31 by omega)]
  obtain ⟨gc, -, -, hx⟩ := h.plan
  have gmm := GM_M h.InM
  have k0 := POK_M h.InM
  have ql := k0.2.2.2.2 l hl
  have e3 : smW wM 3 = wM 3 := smW_o (by decide)
  match n, hn with
  | 0, _ => exact ⟨nI (nh wM l), plW 1 wC, smW wM, by rw [← (gc.2.2 l hl).1]; rfl, by rw [← (gmm.2.2 l hl).1]; rfl, h.pl⟩
  | 1, _ => exact ⟨nI (ns wM l), plW 1 wC, smW wM, by rw [← (gc.2.2 l hl).2]; rfl, by rw [← (gmm.2.2 l hl).2]; rfl, h.pl⟩
  | 2, _ =>
    rw [mean_e gc k0 hl, meanOf_e gmm k0 hl, e3, (hx l hl).2]
    exact ⟨_, plW 1 wC, smW wM, rfl, rfl, h.pl⟩
  | 3, _ =>
    rw [upperTicks_e gc k0 hl, show nI 3 - 3 = nI 0 from rfl, gateMany_e gmm k0 hl (by decide)]
    exact ⟨_, plW 1 wC, smW wM, rfl, by rw [← cUp k0.1 k0.2.2.2.1 ql.1 ql.2]; rfl, h.pl⟩
  | 4, _ =>
    rw [lowerTicks_e gc k0 hl, show nI 4 - 3 = nI 1 from rfl, gateMany_e gmm k0 hl (by decide)]
    exact ⟨_, plW 1 wC, smW wM, rfl, by rw [← cLo k0.1 k0.2.2.2.1 ql.1 ql.2]; rfl, h.pl⟩
  | 5, _ =>
    rw [neither_e gc k0 hl, show nI 5 - 3 = nI 2 from rfl, gateMany_e gmm k0 hl (by decide), cNe k0.1 k0.2.2.2.1 ql.1 ql.2]
    exact ⟨_, plW 1 wC, smW wM, rfl, rfl, h.pl⟩
  | 6, _ =>
    rw [comes_e gc k0 hl, show nI 6 - 3 = nI 3 from rfl, gateMany_e gmm k0 hl (by decide), cCon k0.1 k0.2.2.2.1 ql.1 ql.2]
    exact ⟨_, plW 1 wC, smW wM, rfl, rfl, h.pl⟩
  | q + 7, hq => exact absurd hq (by omega)
theorem sim_off : S1 Rel F_X6_off F_X7_off := by
  intro a wC wM h
  unfold F_X6_off F_X7_off
  simp only [isLeg_e, isLeg7_e, bd_m]
  by_cases ha : wi a 0 2 = 0
  · rw [if_pos ha, if_pos ha]; exact S_bad h
  rw [if_neg ha, if_neg ha]
  obtain ⟨l, hl, rfl⟩ := legN ha
  obtain ⟨gc, -, -, hx⟩ := h.plan
  have gmm := GM_M h.InM
  have k0 := POK_M h.InM
  have e3 : smW wM 3 = wM 3 := smW_o (by decide)
  rw [planNow_e, bd_m, h.setPlan, bd_m, mean_e gc k0 hl, meanOf_e gmm k0 hl, bd_m, bd_m]
  simp only [inb_nI hl (by decide), gd_t, ix_nI (show l < 2 ^ 31 by omega)]
  rw [e3, (hx l hl).2, (hx l hl).1]
  exact ⟨_, plW 1 wC, smW wM, rfl, rfl, h.pl⟩
theorem b01 (b : Bool) (w : Mem) : (if b32 b = 0 then some ((0 : Int32), w) else some ((1 : Int32), w)) = some (b32 b, w) := by cases b <;> rfl
theorem sim_at : S3 Rel F_X6_at F_X7_at := by
  intro a b c wC wM h
  unfold F_X6_at F_X7_at
  simp only [isLeg_e, isLeg7_e, within_e, in_e, bd_m]
  by_cases ha : wi a 0 2 = 0
  · rw [if_pos ha, if_pos ha]; exact S_bad h
  rw [if_neg ha, if_neg ha, h.1.1 0 (by decide)]
  by_cases hb : wi b 0 (wM 2 0 - 1) = 0
  · rw [if_pos hb, if_pos hb]; exact S_bad h
  rw [if_neg hb, if_neg hb, planNow_e, bd_m]
  by_cases hc : wi c 0 3 = 0
  · rw [if_pos hc, if_neg (wi_ne hc (by decide)), if_neg (wi_ne hc (by decide)), if_neg (wi_ne hc (by decide)), if_neg (wi_ne hc (by decide))]
    exact S_bad h.plB
  rw [if_neg hc, h.setPlan, bd_m]
  obtain ⟨l, hl, rfl⟩ := legN ha
  obtain ⟨gc, -, -, hx⟩ := h.plan
  have gmm := GM_M h.InM
  have k0 := POK_M h.InM
  have e3 : smW wM 3 = wM 3 := smW_o (by decide)
  have hN := h.1.2.n
  have eN : (wM 2 0 - 1).toInt = (((wM 2 0).toInt - 1).toNat : Int) := by
    rw [i_sub rfl (show (1 : Int32).toInt = 1 by decide) (by omega)]; omega
  obtain ⟨t, ht, rfl⟩ := rng hb eN
  have ht' : t < nN wM := by unfold nN; omega
  have hN2 := k0.2.1
  obtain ⟨n, hn, rfl⟩ := rng (N := 3) hc (by decide)
  match n, hn with
  | 0, _ =>
    rw [if_pos (by decide), if_pos (by decide), wanted_e gc k0 hl (by omega), wantedM_e gmm k0 hl (by omega), bd_m, bd_m, b01, b01]
    exact ⟨_, plW 1 wC, smW wM, rfl, rfl, h.pl⟩
  | 1, _ =>
    rw [if_neg (by decide), if_pos (by decide), if_neg (by decide), if_pos (by decide), isOn_up gc k0 hl ht', upper_e gmm k0 hl ht', bd_m, bd_m, b01, b01]
    exact ⟨_, plW 1 wC, smW wM, rfl, rfl, h.pl⟩
  | 2, _ =>
    rw [if_neg (by decide), if_neg (by decide), if_pos (by decide), if_neg (by decide), if_neg (by decide), if_pos (by decide), isOn_lo gc k0 hl ht', lower_e gmm k0 hl ht', bd_m, bd_m, b01, b01]
    exact ⟨_, plW 1 wC, smW wM, rfl, rfl, h.pl⟩
  | 3, _ =>
    rw [if_neg (by decide), if_neg (by decide), if_neg (by decide), if_pos (by decide), if_neg (by decide), if_neg (by decide), if_neg (by decide), givesOne_e gc k0 hl ht', gives_e gmm k0 hl ht', bd_m, bd_m, b01, e3, (hx l hl).2]
    refine ⟨_, plW 1 wC, smW wM, rfl, ?_, h.pl⟩
    cases gv (nN wM) (nd wM) (ns wM l) (nh wM l) (decide (wM 3 l < 0)) t <;> rfl
  | q + 4, hq => exact absurd hq (by omega)
