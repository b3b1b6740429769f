/-! dies -/
def zd (w : Mem) (l d : Nat) : Nat := tOn (nN w) d (pH (w 2 0).toInt (w 2 2) d (tI (w 4)) (tI (w 3)) l).toNat
def JD (w0 w : Mem) : Prop := vM (mst w 2 1 (w0 2 1)) = vM w0
def dW (d : Nat) (w : Mem) : Mem := smW (mst w 2 1 (nI d))
theorem vM_21 {a b : Mem} (x : Int32) (h : vM a = vM b) : vM (mst a 2 1 x) = vM (mst b 2 1 x) := by
  simp only [vM, Prod.mk.injEq] at h ⊢
  obtain ⟨m1, m2, m3, m4, m5, m6, m7, m8, m9, m10, m11, m12, m13, m14, m15⟩ := h
  exact ⟨by show upd (a 2) 1 x = upd (b 2) 1 x; rw [m1], m2, m3, m4, m5, m6, m7, m8, m9, m10, m11, m12, m13, m14, m15⟩
theorem upd2 (f : Nat → Int32) (k : Nat) (x y : Int32) : upd (upd f k x) k y = upd f k y := by
  funext j
  simp only [upd]
  split <;> rfl
theorem mst2 (w : Mem) (x y : Int32) : vM (mst (mst w 2 1 x) 2 1 y) = vM (mst w 2 1 y) := by
  simp only [vM, Prod.mk.injEq]
  exact ⟨upd2 (w 2) 1 x y, rfl, rfl, rfl, rfl, rfl, rfl, rfl, rfl, rfl, rfl, rfl, rfl, rfl, rfl⟩
theorem upd_self (f : Nat → Int32) (k : Nat) : upd f k (f k) = f := by
  funext j
  simp only [upd]
  split
  · next e => rw [e]
  · rfl
theorem JD.refl (w : Mem) : JD w w := by
  unfold JD
  simp only [vM, Prod.mk.injEq]
  exact ⟨upd_self (w 2) 1, rfl, rfl, rfl, rfl, rfl, rfl, rfl, rfl, rfl, rfl, rfl, rfl, rfl, rfl⟩
theorem JD.step {w0 w : Mem} (j : JD w0 w) (h : InM w0) {d : Nat} (hd : d ≤ 5) {l : Nat} (hl : l < 3) : F_X7_setPlan (mst w 2 1 (nI d)) = some ((), dW d w) ∧ F_X7_gateMany (nI l) 0 (dW d w) = some (nI (zd w0 l d), dW d w) ∧ JD w0 (dW d w) := by
  have j' := j
  unfold JD at j'
  simp only [vM, Prod.mk.injEq] at j'
  obtain ⟨m1, m2, m3, -⟩ := j'
  have q2 : (mst w 2 1 (nI d)) 2 = upd (w0 2) 1 (nI d) := by
    rw [← m1]
    exact (upd2 (w 2) 1 _ _).symm
  have q4 : (mst w 2 1 (nI d)) 4 = w0 4 := m2
  have q3 : (mst w 2 1 (nI d)) 3 = w0 3 := m3
  have ed : (nI d).toInt = (d : Int) := i_nI (by omega)
  have hI : InM (mst w 2 1 (nI d)) := by
    unfold InM
    rw [q2, q4]
    obtain ⟨⟨s0, s1, s2, s3, s4, s5, s6⟩, u⟩ := h
    refine ⟨⟨s0, ?_, s2, s3, s4, s5, s6⟩, u⟩
    show 0 ≤ (nI d).toInt ∧ (nI d).toInt ≤ 5
    omega
  have eN : nN (mst w 2 1 (nI d)) = nN w0 := by unfold nN; rw [q2, upd_ne (by decide)]
  have eD : nd (mst w 2 1 (nI d)) = d := by unfold nd; rw [q2, upd_eq]; omega
  have eH : nh (mst w 2 1 (nI d)) l = (pH (w0 2 0).toInt (w0 2 2) d (tI (w0 4)) (tI (w0 3)) l).toNat := by
    unfold nh
    rw [q2, q4, q3, upd_ne (by decide), upd_ne (by decide), upd_eq, ed]
  refine ⟨setPlan_e _ (by have := hI.1.n; omega), ?_, ?_⟩
  · have k0 := POK_M hI
    have e := gateMany_e (GM_M hI) k0 hl (what := 0) (by decide)
    have ql := k0.2.2.2.2 l hl
    have c := cUp k0.1 k0.2.2.2.1 ql.1 ql.2
    have e2 : (List.range (nN (mst w 2 1 (nI d)))).countP (gm 0 (nN (mst w 2 1 (nI d))) (nd (mst w 2 1 (nI d))) (ns (mst w 2 1 (nI d)) l) (nh (mst w 2 1 (nI d)) l)) = zd w0 l d := by
      refine Eq.trans c ?_
      unfold zd
      rw [eN, eD, eH]
    rw [e2] at e
    exact e
  · unfold JD dW
    rw [vM_21 _ (vM_sm _), mst2]
    exact j
theorem m1d {d : Nat} (hd : d ≤ 5) : nI d + (-1) = if d = 0 then (-1 : Int32) else nI (d - 1) := by
  have : d = 0 ∨ d = 1 ∨ d = 2 ∨ d = 3 ∨ d = 4 ∨ d = 5 := by omega
  rcases this with rfl | rfl | rfl | rfl | rfl | rfl <;> decide
/-- what the class answers; what the reference answers -/
def clD (z : Nat → Bool) : Int32 := if z 5 then (if z 4 then (if z 3 then (if z 2 then (if z 1 then (if z 0 then 0 else 1) else 2) else 3) else 4) else 5) else -1
def rfS (z : Nat → Bool) (v : Int32) (d : Nat) : Int32 := if z d then (if d = 5 then nI d else if v = nI (d + 1) then nI d else v) else v
theorem cl_rf (z : Nat → Bool) : clD z = rfS z (rfS z (rfS z (rfS z (rfS z (rfS z (-1) 5) 4) 3) 2) 1) 0 := by
  unfold clD rfS
  cases z 5 <;> cases z 4 <;> cases z 3 <;> cases z 2 <;> cases z 1 <;> cases z 0 <;> decide
theorem zd_le {w : Mem} (h : InM w) {l d : Nat} : zd w l d ≤ 96 := by
  have hN := h.1.n
  have q := pH_bd (N := (w 2 0).toInt) (by omega) (w 2 2) d (tI (w 4)) (tI (w 3)) l
  have := tOn_le (nN w) d (pH (w 2 0).toInt (w 2 2) d (tI (w 4)) (tI (w 3)) l).toNat (by unfold nN; omega)
  unfold zd
  have : nN w ≤ 96 := by unfold nN; omega
  omega
theorem rf_step {w0 w : Mem} (j : JD w0 w) (h : InM w0) {d : Nat} (hd : d ≤ 5) {l : Nat} (hl : l < 3) {a2 v : Int32} {k : Int32 → Mem → Option (Int32 × Mem)} {F : Nat} :
    L_X7_dies_24 (nI l) a2 k (F + 1) v (nI d) w = L_X7_dies_24 (nI l) a2 k F (rfS (fun d => decide (zd w0 l d = 0)) v d) (nI d + -1) (dW d w) := by
  obtain ⟨e1, e2, -⟩ := j.step h hd hl
  have hz := zd_le h (l := l) (d := d)
  rw [L_X7_dies_24, if_neg (by rw [show (0 : Int32) = nI 0 from rfl, nI_ltk (by omega) (by omega)]; omega), lt_m, e1, bd_m, e2, bd_m, jn_m]
  simp only [nI_eq0 (show zd w0 l d < 2 ^ 31 by omega), nI_p1, rfS, decide_eq_true_eq, show (5 : Int32) = nI 5 from rfl, nI_eqk (show d < 2 ^ 31 by omega) (show 5 < 2 ^ 31 by omega)]
  by_cases c : zd w0 l d = 0
  · rw [if_pos c, if_pos c, if_neg (by decide)]
    by_cases c5 : d = 5
    · rw [if_pos c5, if_pos c5]
    · rw [if_neg c5, if_neg c5]
      split <;> rfl
  · rw [if_neg c, if_neg c, if_pos (by decide)]
theorem cl_step {wC wM : Mem} (h : Rel wC wM) {d : Nat} (hd : d ≤ 5) {l : Nat} (hl : l < 3) {v : Int32} {k : Int32 → Mem → Option (Int32 × Mem)} {F : Nat} :
    L_X1_leastDeadWithoutUpper_4 9 (nI l) k (F + 1) v (nI d) (plW 1 wC) = if zd wM l d = 0 then L_X1_leastDeadWithoutUpper_4 9 (nI l) k F (nI d) (nI d + -1) (plW 1 wC) else k v (plW 1 wC) := by
  have hI := h.InM
  have hN := hI.1.n
  obtain ⟨gc, -, -, hx⟩ := h.plan
  have ed : (nI d).toInt = (d : Int) := i_nI (by omega)
  have e0 : plW 1 wC 9 0 = wM 2 0 := (plW_tk (d := 1)).trans (h.1.1 0 (by decide))
  have e2 : plW 1 wC 9 2 = wM 2 2 := (plW_c (d := 1) h.InC.1).trans (h.1.1 2 (by decide))
  have hh : hi32 (wM 2 0) (nI d) (wM 2 2) (smW wM 11 l) (wM 3 l) = nI (pH (wM 2 0).toInt (wM 2 2) d (tI (wM 4)) (tI (wM 3)) l).toNat := by
    have q := pH_bd (N := (wM 2 0).toInt) (by omega) (wM 2 2) d (tI (wM 4)) (tI (wM 3)) l
    refine nI_oz ?_ q.1
    rw [hi_i (by omega) (by omega) (plM hI hl).1 (pB_bd (by omega) hl), ed]
    rfl
  have q := pH_bd (N := (wM 2 0).toInt) (by omega) (wM 2 2) d (tI (wM 4)) (tI (wM 3)) l
  have hz := zd_le hI (l := l) (d := d)
  rw [L_X1_leastDeadWithoutUpper_4, if_neg (by rw [show (0 : Int32) = nI 0 from rfl, nI_ltk (by omega) (by omega)]; omega), hwd_e hl, bd_m, e0, e2, (hx l hl).1, (hx l hl).2, hh, ticksOn_e gc.1 (by unfold nN; omega) (by omega) hd, bd_m]
  show (if nI (zd wM l d) = 0 then _ else _) = _
  simp only [nI_eq0 (show zd wM l d < 2 ^ 31 by omega)]
theorem sim_dies : S1 Rel F_X6_dies F_X7_dies := by
  intro a wC wM h
  unfold F_X6_dies F_X7_dies
  simp only [isLeg_e, isLeg7_e, bd_m]
  by_cases ha : wi a 0 2 = 0
  · rw [if_pos ha, if_pos ha]; exact S_bad h
  rw [if_neg ha, if_neg ha]
  obtain ⟨l, hl, rfl⟩ := legN ha
  have hI := h.InM
  have j0 := JD.refl wM
  have j5 := (j0.step hI (show 5 ≤ 5 by decide) hl).2.2
  have j4 := (j5.step hI (show 4 ≤ 5 by decide) hl).2.2
  have j3 := (j4.step hI (show 3 ≤ 5 by decide) hl).2.2
  have j2 := (j3.step hI (show 2 ≤ 5 by decide) hl).2.2
  have j1 := (j2.step hI (show 1 ≤ 5 by decide) hl).2.2
  have jz := (j1.step hI (show 0 ≤ 5 by decide) hl).2.2
  rw [planNow_e, bd_m]
  unfold F_X1_leastDeadWithoutUpper
  refine ⟨clD (fun d => decide (zd wM l d = 0)), plW 1 wC, mst (dW 0 (dW 1 (dW 2 (dW 3 (dW 4 (dW 5 wM)))))) 2 1 (wM 2 1), ?_, ?_, h.frame (vC_pl wC) jz⟩
  · rw [show (5 : Int32) = nI 5 from rfl, show (300 : Nat) = 293 + 1 + 1 + 1 + 1 + 1 + 1 + 1 from rfl, cl_step h (show 5 ≤ 5 by decide) hl, show nI 5 + -1 = nI 4 by decide, cl_step h (show 4 ≤ 5 by decide) hl, show nI 4 + -1 = nI 3 by decide, cl_step h (show 3 ≤ 5 by decide) hl, show nI 3 + -1 = nI 2 by decide, cl_step h (show 2 ≤ 5 by decide) hl, show nI 2 + -1 = nI 1 by decide, cl_step h (show 1 ≤ 5 by decide) hl, show nI 1 + -1 = nI 0 by decide, cl_step h (show 0 ≤ 5 by decide) hl, show nI 0 + -1 = (-1 : Int32) by decide, L_X1_leastDeadWithoutUpper_4, if_pos (by decide : (-1 : Int32) < 0)]
    simp only [clD, decide_eq_true_eq]
    by_cases c5 : zd wM l 5 = 0 <;> by_cases c4 : zd wM l 4 = 0 <;> by_cases c3 : zd wM l 3 = 0 <;> by_cases c2 : zd wM l 2 = 0 <;> by_cases c1 : zd wM l 1 = 0 <;> by_cases c0 : zd wM l 0 = 0 <;> simp [c0, c1, c2, c3, c4, c5, bd_m, nI]
  · rw [cl_rf, show (5 : Int32) = nI 5 from rfl, show (300 : Nat) = 293 + 1 + 1 + 1 + 1 + 1 + 1 + 1 from rfl, rf_step j0 hI (by decide) hl, m1d (by decide), if_neg (by decide), rf_step j5 hI (by decide) hl, m1d (by decide), if_neg (by decide), rf_step j4 hI (by decide) hl, m1d (by decide), if_neg (by decide), rf_step j3 hI (by decide) hl, m1d (by decide), if_neg (by decide), rf_step j2 hI (by decide) hl, m1d (by decide), if_neg (by decide), rf_step j1 hI (by decide) hl, m1d (by decide), if_pos rfl, L_X7_dies_24, if_pos (by decide), lt_m]
