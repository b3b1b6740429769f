/-! one step -/
def FG (V V' : Mem) : Prop := (∀ i, i ≠ 0 → i ≠ 3 → i ≠ 4 → i ≠ 5 → i ≠ 6 → i ≠ 7 → i ≠ 8 → i ≠ 9 → i ≠ 11 → i ≠ 12 → i ≠ 13 → i ≠ 14 → i ≠ 19 → V' i = V i) ∧ ∀ j, j ≠ 6 → j ≠ 7 → j ≠ 13 → j ≠ 14 → V' 0 j = V 0 j
theorem FG.trans {a b c : Mem} (h : FG a b) (g : FG b c) : FG a c := ⟨fun i a0 a1 a2 a3 a4 a5 a6 a7 a8 a9 aa ab ac => (g.1 i a0 a1 a2 a3 a4 a5 a6 a7 a8 a9 aa ab ac).trans (h.1 i a0 a1 a2 a3 a4 a5 a6 a7 a8 a9 aa ab ac), fun j b0 b1 b2 b3 => (g.2 j b0 b1 b2 b3).trans (h.2 j b0 b1 b2 b3)⟩
theorem FG.sm (V : Mem) : FG V (smW V) := ⟨fun i a0 _ _ _ _ _ _ _ a8 a9 aa ab _ => smW_o ⟨a0, a8, a9, aa, ab⟩, fun j _ _ b2 b3 => by rw [smW_0, upd_ne b3, upd_ne b2]⟩
theorem FG.st (V : Mem) : FG V (stVs V) := ⟨fun i a0 a1 a2 a3 a4 a5 a6 a7 a8 a9 aa ab ac => by rw [stVs_o a4 a2]; exact (FG.sm V).1 i a0 a1 a2 a3 a4 a5 a6 a7 a8 a9 aa ab ac, fun j b0 b1 b2 b3 => by rw [stVs_o (by decide) (by decide)]; exact (FG.sm V).2 j b0 b1 b2 b3⟩
def FD (d : Nat) (W W' : Mem) : Prop := ∀ i, i < d ∨ d + 12 < i → W' i = W i
theorem gvs_u (M : Nat → Int32) (V : Mem) : gvs M V = gvS M (M 0 + M 1 + M 2) 2 (gvS M (M 0 + M 1 + M 2) 1 (gvS M (M 0 + M 1 + M 2) 0 V)) := rfl
theorem RD.mv3 {d : Nat} {W V : Mem} (h : RD d W V) (M : Nat → Int32) : RD d (mvs d M W) (gvs M V) := by
  unfold mvs gvs
  exact ((h.mv M _ (by decide)).mv M _ (by decide)).mv M _ (by decide)
/-- the step, once the wishes came and the steering is done -/
theorem RD.rest {d : Nat} {W V : Mem} (h : RD d W V) : ∃ r W' V', (bd (F_X0_makePlan d W) (fun (r7 : Unit) (w6 : Mem) => bd (F_X0_moveCurrents d w6) (fun (r10 : Unit) (w9 : Mem) => lt (mst w9 d 7 ((w9 d 7) + (1 : Int32))) (fun (w12 : Mem) => gd (bz (w12 (d + 8) 4)) (some ((w12 (d + 8) 4), w12)))))) = some (r, W') ∧
    (bd (F_X7_setPlan V) (fun (r7 : Unit) (w6 : Mem) => L_X7_goes_25 (fun (w15 : Mem) => lt (((w15 19 0) + (w15 19 1)) + (w15 19 2)) (fun (x16 : Int32) => L_X7_goes_70 x16 (fun (w26 : Mem) => lt (mst w26 0 6 ((w26 0 6) + (1 : Int32))) (fun (w27 : Mem) => gd (bz (w27 0 14)) (some ((w27 0 14), w27)))) 300 (0 : Int32) w15)) 300 (0 : Int32) w6)) = some (r, V') ∧ bz r = true ∧ RD d W' V' ∧ FD d W W' ∧ FG V V' := by
  have hI := h.InM
  obtain ⟨gc, -, p4, hx⟩ := GC_of (d := d) (w := W) h.1.1 (fun l hl => (h.2.1 l hl).1.1) (fun l hl => (h.2.1 l hl).2.1.1) hI
  have gm := GM_M hI
  have k0 := POK_M hI
  have e3 : smW V 3 = V 3 := smW_o (by decide)
  have rp : RD d (plW d W) (smW V) := (h.frameC (fun i h1 h2 => plW_o (by omega))).frameM (vM_sm V)
  have bo : bz (smW V 0 14) = true := by rw [← p4, plW_ov]; exact bz_ov
  generalize hM : MN (nN V) (nd V) (nh V) (V 3) = M
  have eM : ∀ l, l < 3 → MN (nN V) (nd V) (nh V) (plW d W (d + 12)) l = M l := fun l hl => by rw [← hM]; unfold MN; rw [(hx l hl).2]
  have mvE : mvs d (MN (nN V) (nd V) (nh V) (plW d W (d + 12))) (plW d W) = mvs d M (plW d W) := by
    unfold mvs mvS
    rw [eM 0 (by decide), eM 1 (by decide), eM 2 (by decide)]
  have r19 : RD d (plW d W) (m19 M (smW V)) := by
    have o : ∀ i, i ≠ 19 → m19 M (smW V) i = smW V i := fun i hi => m19_o hi
    unfold RD at rp ⊢
    rw [o 2 (by decide), o 4 (by decide), o 3 (by decide), o 5 (by decide), o 6 (by decide), o 0 (by decide), o 7 (by decide), o 8 (by decide), o 9 (by decide)]
    exact rp
  have rm : RD d (mvs d M (plW d W)) (gvs M (m19 M (smW V))) := r19.mv3 M
  have e4 : mvs d M (plW d W) (d + 8) 4 = smW V 0 14 := by rw [mvs_o (by omega), p4]
  refine ⟨smW V 0 14, mst (mvs d M (plW d W)) d 7 (mvs d M (plW d W) d 7 + 1), mst (gvs M (m19 M (smW V))) 0 6 (gvs M (m19 M (smW V)) 0 6 + 1), ?_, ?_, bo, ?_, ?_, ?_⟩
  · rw [makePlan_e, bd_m, move_e gc k0, bd_m, lt_m, mvE, ms_ne (show d + 8 ≠ d by omega), e4, bo, gd_t]
  · have q : ∀ l, l < 3 → m19 M (smW V) 19 l = M l := fun l hl => m19_l hl
    have e14 : gvs M (m19 M (smW V)) 0 14 = smW V 0 14 := by rw [gvs_o (by decide), m19_o (by decide)]
    rw [setPlan_e V (by have := hI.1.n; omega), bd_m, g25_e gm k0, e3, hM, lt_m, g70_e, gvS_c (q 0 (by decide)), gvS_c (q 1 (by decide)), gvS_c (q 2 (by decide)), q 0 (by decide), q 1 (by decide), q 2 (by decide), ← gvs_u, lt_m, ms_eq, upd_ne (by decide), e14, bo, gd_t]
  · obtain ⟨a1, a2, a3, a4, a5⟩ := rm
    unfold RD
    rw [ms_ne (show d + 1 ≠ d by omega), ms_ne (show d + 2 ≠ d by omega), ms_ne (show d + 3 ≠ d by omega), ms_ne (show d + 4 ≠ d by omega), ms_ne (show d + 5 ≠ d by omega), ms_ne (show d + 6 ≠ d by omega), ms_ne (show d + 7 ≠ d by omega), ms_eq, upd_eq, a3, ms_ne (show 2 ≠ 0 by decide), ms_ne (show 3 ≠ 0 by decide), ms_ne (show 4 ≠ 0 by decide), ms_ne (show 5 ≠ 0 by decide), ms_ne (show 6 ≠ 0 by decide), ms_ne (show 7 ≠ 0 by decide), ms_ne (show 8 ≠ 0 by decide), ms_ne (show 9 ≠ 0 by decide), ms_eq, upd_eq, upd_ne (show 7 ≠ 6 by decide)]
    exact ⟨a1, a2, rfl, a4, a5⟩
  · intro i hi
    rw [ms_ne (by omega), mvs_o (by omega), plW_o (by omega)]
  · refine (FG.sm V).trans ⟨fun i a0 a1 _ _ _ _ _ _ _ _ _ _ ac => ?_, fun j b0 b1 b2 b3 => ?_⟩
    · rw [ms_ne a0, gvs_o a1, m19_o ac]
    · rw [ms_eq, upd_ne b0, gvs_o (by decide), m19_o (by decide)]
theorem RD.step {d : Nat} {W V : Mem} (h : RD d W V) (hL : lnC (d + 7) = 48) : ∃ r W' V', F_X0_stepOnce d W = some (r, W') ∧ F_X7_goes V = some (r, V') ∧ bz r = true ∧ RD d W' V' ∧ FD d W W' ∧ FG V V' := by
  obtain ⟨W1, V1, f1, g1, r1, fr, fn⟩ := h.take hL
  have d1 : FD d W W1 := fun i hi => fr.1 i (by omega) (by omega) (by omega)
  have n1 : FG V V1 := ⟨fun i a0 _ _ a3 _ a5 a6 a7 _ _ _ _ _ => fn.1 i a0 a3 a5 a6 a7, fun j _ b1 _ _ => fn.2 j b1⟩
  have e6 : W1 (d + 1) 6 = V1 2 6 := r1.1.1 6 (by decide)
  unfold F_X0_stepOnce F_X7_goes
  rw [f1, bd_m, g1, bd_m, jn_m, jn_m, e6]
  by_cases z : V1 2 6 = 1
  · rw [if_pos z, if_pos z, steer_e, bd_m, r1.steer.1, bd_m]
    obtain ⟨r, W', V', q1, q2, q3, q4, q5, q6⟩ := r1.steer.2.rest
    exact ⟨r, W', V', q1, q2, q3, q4, fun i hi => by rw [q5 i hi, stWs_o (by omega) (by omega), d1 i hi], n1.trans ((FG.st V1).trans q6)⟩
  · rw [if_neg z, if_neg z]
    obtain ⟨r, W', V', q1, q2, q3, q4, q5, q6⟩ := r1.rest
    exact ⟨r, W', V', q1, q2, q3, q4, fun i hi => by rw [q5 i hi, d1 i hi], n1.trans q6⟩
