/-! plan, run, seen, told -/
theorem vC_27 {w w' : Mem} (h : ∀ i, i ≠ 27 → i ≠ 28 → i ≠ 29 → w' i = w i) (h0 : w' 28 0 = w 28 0) : vC w' = vC w := by
  unfold vC
  rw [h 2 (by decide) (by decide) (by decide), h 3 (by decide) (by decide) (by decide), h 4 (by decide) (by decide) (by decide), h 5 (by decide) (by decide) (by decide), h 6 (by decide) (by decide) (by decide), h 1 (by decide) (by decide) (by decide), h 7 (by decide) (by decide) (by decide), h 8 (by decide) (by decide) (by decide), h 39 (by decide) (by decide) (by decide), h 40 (by decide) (by decide) (by decide), h 41 (by decide) (by decide) (by decide), h 42 (by decide) (by decide) (by decide), h 45 (by decide) (by decide) (by decide), h 20 (by decide) (by decide) (by decide), h 30 (by decide) (by decide) (by decide), h 34 (by decide) (by decide) (by decide), h 43 (by decide) (by decide) (by decide), h0]
theorem vM_MR {V0 V : Mem} {R : List (Nat × Nat)} (m : MR V0 V R) : vM V = vM V0 := by
  have h : ∀ i, i ≠ 0 → i ≠ 15 → i ≠ 16 → V i = V0 i := m.1
  unfold vM
  rw [h 2 (by decide) (by decide) (by decide), h 4 (by decide) (by decide) (by decide), h 3 (by decide) (by decide) (by decide), h 5 (by decide) (by decide) (by decide), h 6 (by decide) (by decide) (by decide), h 7 (by decide) (by decide) (by decide), h 8 (by decide) (by decide) (by decide), h 9 (by decide) (by decide) (by decide), h 10 (by decide) (by decide) (by decide), h 21 (by decide) (by decide) (by decide), h 1 (by decide) (by decide) (by decide), m.2.1 6 (by decide), m.2.1 7 (by decide), m.2.1 11 (by decide), m.2.1 32 (by decide)]
theorem POK.RO {N d : Nat} {s h : Nat → Nat} (k : POK N d s h) : RO N s h := ⟨k.1, k.2.1, fun l hl => (k.s_le hl).2.2.1⟩
theorem GM.SH {V : Mem} {N d : Nat} {s h : Nat → Nat} (g : GM V N d s h) : SH V 13 12 s h := fun l hl => ⟨(g.2.2 l hl).2, (g.2.2 l hl).1⟩
theorem GC.SH {p : Nat} {W : Mem} {N d : Nat} {s h : Nat → Nat} (g : GC p W N d s h) : SH W (p + 3) (p + 2) s h := fun l hl => ⟨(g.2.2 l hl).2, (g.2.2 l hl).1⟩
abbrev rN (w : Mem) : List (Nat × Nat) := rns (nN w) (ns w) (nh w) 8 0
theorem runsNow_e {wC wM : Mem} (h : Rel wC wM) : ∃ W, F_X6_runsNow wC = some ((), W) ∧ CR 27 (wM 2 3) (ns wM) (nh wM) (plW 1 wC) W (rN wM) ∧ vC W = vC wC ∧ Rel W wM := by
  obtain ⟨gc, -, -, hx⟩ := h.plan
  have k0 := POK_M h.InM
  have h28 : plW 1 wC 28 0 = 7 := by rw [plW_o (by decide)]; exact h.2.2.2.2.2.2.2.2.2.1
  have e3 : plW 1 wC 2 3 = wM 2 3 := by rw [plW_o (by decide)]; exact h.1.1 3 (by decide)
  obtain ⟨W, f, c, -⟩ := find_e (q0 := 27) (q3 := 12) (q4 := 11) (N := nN wM) (L := wM 2 3) rfl (by unfold AP; decide) (by unfold AP; decide) gc.SH k0.RO h28
  have v : vC W = vC wC := (vC_27 c.1 (c.2.1.trans h28.symm)).trans (vC_pl wC)
  refine ⟨W, ?_, c, v, h.frame v rfl⟩
  unfold F_X6_runsNow
  rw [planNow_e, bd_m, gc.1, e3, f, bd_m]
theorem Rel.sh {wC wM : Mem} (h : Rel wC wM) : SH (smW wM) 13 12 (ns wM) (nh wM) ∧ RO (nN wM) (ns wM) (nh wM) ∧ smW wM 2 0 = nI (nN wM) ∧ smW wM 2 3 = wM 2 3 := ⟨(GM_M h.InM).SH, (POK_M h.InM).RO, (GM_M h.InM).1, by rw [smW_o (by decide)]⟩
theorem sim_plan : S1 Rel F_X6_plan F_X7_plan := by
  intro a wC wM h
  unfold F_X6_plan F_X7_plan
  simp only [in_e, bd_m]
  by_cases ha : wi a 0 4 = 0
  · rw [if_pos ha, if_neg (wi_ne ha (by decide)), if_neg (wi_ne ha (by decide)), if_neg (wi_ne ha (by decide)), if_neg (wi_ne ha (by decide)), if_neg (wi_ne ha (by decide))]
    exact S_bad h
  rw [if_neg ha]
  obtain ⟨n, hn, rfl⟩ := rng (N := 4) ha (by decide)
  unfold F_X7_plansBy
  rw [h.setPlan, bd_m]
  obtain ⟨gc, p3, p4, hx⟩ := h.plan
  obtain ⟨g, o, e2, e3⟩ := h.sh
  obtain ⟨W, f, c, v, r⟩ := runsNow_e h
  have rM : ∀ {w}, Rel w wM → Rel w (smW wM) := fun q => q.frame rfl (vM_sm wM)
  have cnt : ∀ p, tk (ns wM) (nh wM) p (rN wM) = (List.range (nN wM)).countP (fun i => decide (pa (ns wM) (nh wM) i = p)) := fun p => by
    have := tk_cnt (N := nN wM) (s := ns wM) (h := nh wM) (p := p) 8 0 0 (by omega) (fun _ => by have := bs_6 (nN wM) (ns wM) (nh wM) 0; omega) (by decide) (by decide)
    simp only [Nat.sub_zero, Nat.zero_add] at this
    exact this
  match n, hn with
  | 0, _ =>
    rw [if_pos (by decide), if_pos (by decide), planNow_e, bd_m, bd_m, p3]
    exact ⟨_, _, _, rfl, rfl, h.pl⟩
  | 1, _ =>
    rw [if_neg (by decide), if_pos (by decide), if_neg (by decide), if_pos (by decide), planNow_e, bd_m, p4]
    by_cases z : smW wM 0 14 = 0
    · rw [if_pos z, if_pos z, bd_m]
      exact ⟨_, _, _, rfl, rfl, h.pl⟩
    · rw [if_neg z, if_neg z, bd_m]
      exact ⟨_, _, _, rfl, rfl, h.pl⟩
  | 2, _ =>
    rw [if_neg (by decide), if_neg (by decide), if_pos (by decide), if_neg (by decide), if_neg (by decide), if_pos (by decide), f, bd_m, show F_X2_ticksOf 27 0 W = _ from ticksC_e (p := 0) rfl c (rns7 _ _ _) (by decide), bd_m, show F_X7_ticksOf 0 (smW wM) = _ from ticksM_e (p := 0) g o e2 (by decide), bd_m, bd_m, cnt]
    exact ⟨_, _, _, rfl, rfl, rM r⟩
  | 3, _ =>
    rw [if_neg (by decide), if_neg (by decide), if_neg (by decide), if_pos (by decide), if_neg (by decide), if_neg (by decide), if_neg (by decide), if_pos (by decide), f, bd_m, show F_X2_ticksOf 27 7 W = _ from ticksC_e (p := 7) rfl c (rns7 _ _ _) (by decide), bd_m, show F_X7_ticksOf 7 (smW wM) = _ from ticksM_e (p := 7) g o e2 (by decide), bd_m, bd_m, cnt]
    exact ⟨_, _, _, rfl, rfl, rM r⟩
  | 4, _ =>
    obtain ⟨V, f2, m⟩ := setRuns_e g o e2
    rw [if_neg (by decide), if_neg (by decide), if_neg (by decide), if_neg (by decide), if_pos (by decide), if_neg (by decide), if_neg (by decide), if_neg (by decide), if_neg (by decide), f, bd_m, f2, bd_m, bd_m, c.2.2.1, m.2.2.1]
    exact ⟨_, _, _, rfl, rfl, (rM r).frame rfl (vM_MR m)⟩
  | y + 5, hy => exact absurd hy (by omega)
theorem sim_run : S2 Rel F_X6_run F_X7_run := by
  intro a b wC wM h
  unfold F_X6_run F_X7_run
  by_cases ha : a < 0
  · rw [if_pos ha, if_pos ha]; exact S_bad h
  rw [if_neg ha, if_neg ha]
  simp only [within_e, in_e, bd_m]
  by_cases hb : wi b 0 3 = 0
  · rw [if_pos hb, if_pos hb]; exact S_bad h
  rw [if_neg hb, if_neg hb]
  obtain ⟨n, hn, rfl⟩ := rng (N := 3) hb (by decide)
  have e0 : (0 : Int32).toInt = 0 := by decide
  have ha' : 0 ≤ a.toInt := by rw [Int32.lt_iff_toInt_lt, e0] at ha; omega
  have ea := nI_oz (a := a) rfl ha'
  have hlt : a.toInt < 2 ^ 31 := Int32.toInt_lt a
  generalize hq : a.toInt.toNat = q at ea
  have hq' : q < 2 ^ 31 := by omega
  subst ea
  obtain ⟨g, o, e2, e3⟩ := h.sh
  obtain ⟨W, f, c, v, r⟩ := runsNow_e h
  obtain ⟨V, f2, m⟩ := setRuns_e g o e2
  have rr : Rel W V := r.frame rfl ((vM_MR m).trans (vM_sm wM))
  have h7 : (rN wM).length ≤ 7 := rns7 (nN wM) (ns wM) (nh wM)
  rw [f, bd_m, h.setPlan, bd_m, f2, bd_m, m.2.2.1]
  by_cases z : q < (rN wM).length
  · have mi := rns_in 8 0 _ (List.getElem_mem z)
    have hN := o.2.1
    rw [cellOr_in (m := 7) c.2.2.1 h7 (by decide) rfl z (by omega), bd_m, if_pos (by rw [nI_ltk hq' (Nat.lt_of_le_of_lt h7 (by decide))]; exact z)]
    refine ⟨_, _, _, rfl, ?_, rr⟩
    rw [c.2.2.2.1 q z n (by omega)]
    simp only [inb_nI (show q < 96 by omega) (by decide), gd_t, ix_nI (show q < 2 ^ 31 by omega), (m.2.2.2 q z).1, (m.2.2.2 q z).2, patM_e (g.ofM m) o (show (rN wM)[q].1 ≤ 96 by omega), bd_m, tells_e g o m z h7 mi.1, e3]
    match n, hn with
    | 0, _ => rfl
    | 1, _ => rfl
    | 2, _ => rfl
    | 3, _ => rfl
    | y + 4, hy => exact absurd hy (by omega)
  · rw [cellOr_out c.2.2.1 (by omega) (by rw [i_nI (by omega)]; omega), bd_m, if_neg (by rw [nI_ltk hq' (Nat.lt_of_le_of_lt h7 (by decide))]; exact z)]
    exact ⟨_, _, _, rfl, rfl, rr⟩
theorem howMany_e {W : Mem} {q0 m : Nat} (hm : m < 8) (e : W q0 1 = nI m) : F_X2_howManySeen q0 W = some (pc m, W) := by
  unfold F_X2_howManySeen
  rw [e, count_e hm, bd_m]
theorem sim_seen : S1 Rel F_X6_seen F_X7_seen := by
  intro a wC wM h
  unfold F_X6_seen F_X7_seen
  simp only [in_e, bd_m]
  by_cases ha : wi a 0 1 = 0
  · rw [if_pos ha, if_neg (wi_ne ha (by decide)), if_neg (wi_ne ha (by decide))]
    exact S_bad h
  rw [if_neg ha]
  obtain ⟨n, hn, rfl⟩ := rng (N := 1) ha (by decide)
  obtain ⟨g, o, e2, e3⟩ := h.sh
  obtain ⟨W, f, c, v, r⟩ := runsNow_e h
  obtain ⟨V, f2, m⟩ := seenSet_e g o e2
  have rr : Rel W V := r.frame rfl ((vM_MR m).trans (vM_sm wM))
  obtain ⟨j, hj, ej⟩ := sn_8 (wM 2 3) (ns wM) (nh wM) (rN wM)
  rw [h.setPlan, bd_m, f2, bd_m, e3, f, bd_m, ej]
  have c5 := c.2.2.2.2
  rw [ej] at c5
  match n, hn with
  | 0, _ =>
    rw [if_pos (by decide), if_pos (by decide), c5]
    exact ⟨_, _, _, rfl, rfl, rr⟩
  | 1, _ =>
    rw [if_neg (by decide), if_pos (by decide), if_neg (by decide), bd_m, howMany_e hj c5, bd_m, bits_e hj, bd_m]
    exact ⟨_, _, _, rfl, rfl, rr⟩
  | y + 2, hy => exact absurd hy (by omega)
theorem sees_e {W : Mem} {q0 : Nat} {a : Int32} : F_X2_sees q0 a W = if (((W q0 1) >>> (a &&& 31)) &&& (1 : Int32)) = (1 : Int32) then some (1, W) else some (0, W) := rfl
theorem neg2 {a b c d : Int32} {x y : Int} (ha : a.toInt = x) (hb : b.toInt = y) (hx : -999 ≤ x ∧ x ≤ 999) (hy : -999 ≤ y ∧ y ≤ 999) (h : (c = a ∧ d = b) ∨ (c = b ∧ d = a)) : -(0 + a + b) = -c - d := by
  have e0 : (0 : Int32).toInt = 0 := by decide
  refine i_ext ?_
  rw [i_neg (i_add (i_add e0 ha (by omega)) hb (by omega)) (by omega)]
  rcases h with ⟨rfl, rfl⟩ | ⟨rfl, rfl⟩
  · rw [i_sub (i_neg ha (by omega)) hb (by omega)]; omega
  · rw [i_sub (i_neg hb (by omega)) ha (by omega)]; omega
theorem others_e {W : Mem} {l : Nat} (hl : l < 3) (hb : ∀ j, j < 3 → Bd 999 (W 4 j)) : F_X6_currentByTheOthers (nI l) W = some (-(W 4 ((l + 1) % 3)) - W 4 ((l + 2) % 3), W) := by
  have e0 : (0 : Int32).toInt = 0 := by decide
  have b0 := hb 0 (by decide)
  have b1 := hb 1 (by decide)
  have b2 := hb 2 (by decide)
  unfold F_X6_currentByTheOthers
  rw [show (300 : Nat) = 296 + 1 + 1 + 1 + 1 from rfl]
  have : l = 0 ∨ l = 1 ∨ l = 2 := by omega
  rcases this with rfl | rfl | rfl
  · rw [L_X6_currentByTheOthers_4, if_neg (by decide), if_pos (by decide), L_X6_currentByTheOthers_4, if_neg (by decide), if_neg (by decide), show inb (0 + 1) 3 = true by decide, gd_t, L_X6_currentByTheOthers_4, if_neg (by decide), if_neg (by decide), show inb (0 + 1 + 1) 3 = true by decide, gd_t, L_X6_currentByTheOthers_4, if_pos (by decide)]
    congr 2
    exact neg2 (a := W 4 1) (b := W 4 2) rfl rfl b1 b2 (Or.inl ⟨rfl, rfl⟩)
  · rw [L_X6_currentByTheOthers_4, if_neg (by decide), if_neg (by decide), show inb 0 3 = true by decide, gd_t, L_X6_currentByTheOthers_4, if_neg (by decide), if_pos (by decide), L_X6_currentByTheOthers_4, if_neg (by decide), if_neg (by decide), show inb (0 + 1 + 1) 3 = true by decide, gd_t, L_X6_currentByTheOthers_4, if_pos (by decide)]
    congr 2
    exact neg2 (a := W 4 0) (b := W 4 2) rfl rfl b0 b2 (Or.inr ⟨rfl, rfl⟩)
  · rw [L_X6_currentByTheOthers_4, if_neg (by decide), if_neg (by decide), show inb 0 3 = true by decide, gd_t, L_X6_currentByTheOthers_4, if_neg (by decide), if_neg (by decide), show inb (0 + 1) 3 = true by decide, gd_t, L_X6_currentByTheOthers_4, if_neg (by decide), if_pos (by decide), L_X6_currentByTheOthers_4, if_pos (by decide)]
    congr 2
    exact neg2 (a := W 4 0) (b := W 4 1) rfl rfl b0 b1 (Or.inl ⟨rfl, rfl⟩)
theorem irm3 {l k : Nat} (hl : l < 3) (hk : k = 1 ∨ k = 2) : irm (nI l + nI k) 3 = nI ((l + k) % 3) := by
  rw [nI_add, show (3 : Int32) = nI 3 from rfl, rem_nn (by omega) (by omega) (by omega)]
theorem sim_told : S1 Rel F_X6_told F_X7_told := by
  intro a wC wM h
  unfold F_X6_told F_X7_told
  simp only [isLeg_e, isLeg7_e, bd_m]
  by_cases ha : wi a 0 2 = 0
  · rw [if_pos ha, if_pos ha]; exact S_bad h
  rw [if_neg ha, if_neg ha]
  obtain ⟨l, hl, rfl⟩ := legN ha
  obtain ⟨g, o, e2, e3⟩ := h.sh
  obtain ⟨W, f, c, v, r⟩ := runsNow_e h
  obtain ⟨V, f2, m⟩ := seenSet_e g o e2
  have rr : Rel W V := r.frame rfl ((vM_MR m).trans (vM_sm wM))
  obtain ⟨j, hj, ej⟩ := sn_8 (wM 2 3) (ns wM) (nh wM) (rN wM)
  have c5 := c.2.2.2.2
  rw [ej] at c5
  have eq : ∀ j, j < 3 → W 4 j = V 3 j := fun j hj => (rr.2.1 j hj).2.1.1
  rw [h.setPlan, bd_m, f2, bd_m, e3, f, bd_m, ej, sees_e, c5]
  by_cases z : ((nI j >>> (nI l &&& 31)) &&& (1 : Int32)) = 1
  · rw [if_pos z, if_pos z, bd_m, if_neg (by decide), inb_nI hl (by decide), gd_t, gd_t, ix_nI (by omega), eq l hl]
    exact ⟨_, _, _, rfl, rfl, rr⟩
  · rw [if_neg z, if_neg z, bd_m, if_pos (by decide), howMany_e hj c5, bd_m, bits_e hj, bd_m]
    by_cases y : pc j = 2
    · have x1 : (l + 1) % 3 < 3 := Nat.mod_lt _ (by decide)
      have x2 : (l + 2) % 3 < 3 := Nat.mod_lt _ (by decide)
      rw [if_pos y, if_pos y, others_e hl (fun j hj => by rw [eq j hj]; exact (rr.2.1 j hj).2.1.2), bd_m, show irm (nI l + 1) 3 = nI ((l + 1) % 3) from irm3 hl (Or.inl rfl), show irm (nI l + 2) 3 = nI ((l + 2) % 3) from irm3 hl (Or.inr rfl), inb_nI x1 (by decide), inb_nI x2 (by decide), gd_t, gd_t, ix_nI (by omega), ix_nI (by omega), eq _ x1, eq _ x2]
      exact ⟨_, _, _, rfl, rfl, rr⟩
    · rw [if_neg y, if_neg y]
      exact ⟨_, _, _, rfl, rfl, rr⟩
