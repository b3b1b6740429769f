/-! under Rel both plans are one -/
theorem mx3_c {u v : Nat → Int} (h : ∀ l, l < 3 → u l = v l) : mx3 u = mx3 v := by unfold mx3; rw [h 0 (by decide), h 1 (by decide), h 2 (by decide)]
theorem mn3_c {u v : Nat → Int} (h : ∀ l, l < 3 → u l = v l) : mn3 u = mn3 v := by unfold mn3; rw [h 0 (by decide), h 1 (by decide), h 2 (by decide)]
theorem pS_c {u v : Nat → Int} (h : ∀ l, l < 3 → u l = v l) : pS u = pS v := by unfold pS; rw [mx3_c h, mn3_c h]
theorem pB_c {u v : Nat → Int} (h : ∀ l, l < 3 → u l = v l) (N : Int) {l : Nat} (hl : l < 3) : pB N u l = pB N v l := by
  unfold pB pM
  rw [pS_c h, mx3_c h, mn3_c h, h l hl]
theorem pH_c {u v i j : Nat → Int} (h : ∀ l, l < 3 → u l = v l) (k : ∀ l, l < 3 → i l = j l) (N : Int) (c : Int32) (d : Int) {l : Nat} (hl : l < 3) : pH N c d u i l = pH N c d v j l := by
  unfold pH
  rw [pB_c h N hl, k l hl]
theorem pT_c {u v i j : Nat → Int} (h : ∀ l, l < 3 → u l = v l) (k : ∀ l, l < 3 → i l = j l) (N : Int) (c : Int32) (d : Int) {l : Nat} (hl : l < 3) : pT N c d u i l = pT N c d v j l := by
  unfold pT
  rw [pH_c h k N c d hl]
def POK (N d : Nat) (s h : Nat → Nat) : Prop := 12 ≤ N ∧ N ≤ 96 ∧ N % 2 = 0 ∧ d ≤ 5 ∧ ∀ l, l < 3 → h l ≤ N ∧ s l = (N - h l) / 2
/-- the class's plan cell p holds the plan -/
def GC (p : Nat) (W : Mem) (N d : Nat) (s h : Nat → Nat) : Prop := W p 0 = nI N ∧ W p 1 = nI d ∧ ∀ l, l < 3 → W (p + 2) l = nI (h l) ∧ W (p + 3) l = nI (s l)
def GM (V : Mem) (N d : Nat) (s h : Nat → Nat) : Prop := V 2 0 = nI N ∧ V 2 1 = nI d ∧ ∀ l, l < 3 → V 12 l = nI (h l) ∧ V 13 l = nI (s l)
def nN (w : Mem) : Nat := (w 2 0).toInt.toNat
def nd (w : Mem) : Nat := (w 2 1).toInt.toNat
def nh (w : Mem) (l : Nat) : Nat := (pH (w 2 0).toInt (w 2 2) (w 2 1).toInt (tI (w 4)) (tI (w 3)) l).toNat
def ns (w : Mem) (l : Nat) : Nat := (nN w - nh w l) / 2
theorem POK_M {w : Mem} (h : InM w) : POK (nN w) (nd w) (ns w) (nh w) := by
  have hN := h.1.n
  have hd := h.1.d
  refine ⟨by unfold nN; omega, by unfold nN; omega, by unfold nN; omega, by unfold nd; omega, fun l hl => ⟨?_, rfl⟩⟩
  have q := pH_bd (N := (w 2 0).toInt) (by omega) (w 2 2) (w 2 1).toInt (tI (w 4)) (tI (w 3)) l
  unfold nh nN
  omega
theorem nI_oz {a : Int32} {z : Int} (e : a.toInt = z) (h : 0 ≤ z) : a = nI z.toNat := i_ext (by
  have hb : a.toInt < 2 ^ 31 := Int32.toInt_lt a
  rw [nI_toInt (by omega)]; omega)
theorem GM_M {w : Mem} (h : InM w) : GM (smW w) (nN w) (nd w) (ns w) (nh w) := by
  have hN := h.1.n
  have hd := h.1.d
  refine ⟨?_, ?_, fun l hl => ⟨?_, ?_⟩⟩
  · rw [smW_o (by decide)]; exact nI_oz rfl (by omega)
  · rw [smW_o (by decide)]; exact nI_oz rfl (by omega)
  · have q := pH_bd (N := (w 2 0).toInt) (by omega) (w 2 2) (w 2 1).toInt (tI (w 4)) (tI (w 3)) l
    exact nI_oz (plM h hl).2.1 q.1
  · have q := pH_bd (N := (w 2 0).toInt) (by omega) (w 2 2) (w 2 1).toInt (tI (w 4)) (tI (w 3)) l
    have e := (plM h hl).2.2
    rw [nI_oz e (by unfold pT; omega)]
    congr 1
    unfold ns nN nh pT
    omega
theorem Rel.InM {wC wM : Mem} (h : Rel wC wM) : InM wM := ⟨h.1.2, fun l hl => (h.2.1 l hl).1.2⟩
theorem Rel.InC {wC wM : Mem} (h : Rel wC wM) : InC 1 wC := ⟨h.1.2.congr (fun k hk => h.1.1 k hk), fun l hl => by
  show -200 ≤ (wC 3 l).toInt ∧ (wC 3 l).toInt ≤ 200
  rw [(h.2.1 l hl).1.1]; exact (h.2.1 l hl).1.2⟩
theorem Rel.u {wC wM : Mem} (h : Rel wC wM) : ∀ l, l < 3 → tI (wC 3) l = tI (wM 4) l := fun l hl => by unfold tI; rw [(h.2.1 l hl).1.1]
theorem Rel.i {wC wM : Mem} (h : Rel wC wM) : ∀ l, l < 3 → tI (wC 4) l = tI (wM 3) l := fun l hl => by unfold tI; rw [(h.2.1 l hl).2.1.1]
theorem gr_c {f g : Nat → Int32} (h : ∀ l, l < 3 → f l = g l) : gr32 f = gr32 g := by unfold gr32; rw [h 0 (by decide), h 1 (by decide), h 2 (by decide)]
theorem ls_c {f g : Nat → Int32} (h : ∀ l, l < 3 → f l = g l) : ls32 f = ls32 g := by unfold ls32; rw [h 0 (by decide), h 1 (by decide), h 2 (by decide)]
theorem vC_pl (w : Mem) : vC (plW 1 w) = vC w := by
  simp only [vC, plW_o (show 2 < 1 + 8 ∨ 1 + 12 < 2 by decide), plW_o (show 3 < 1 + 8 ∨ 1 + 12 < 3 by decide), plW_o (show 4 < 1 + 8 ∨ 1 + 12 < 4 by decide), plW_o (show 5 < 1 + 8 ∨ 1 + 12 < 5 by decide), plW_o (show 6 < 1 + 8 ∨ 1 + 12 < 6 by decide), plW_o (show 1 < 1 + 8 ∨ 1 + 12 < 1 by decide), plW_o (show 7 < 1 + 8 ∨ 1 + 12 < 7 by decide), plW_o (show 8 < 1 + 8 ∨ 1 + 12 < 8 by decide), plW_o (show 39 < 1 + 8 ∨ 1 + 12 < 39 by decide), plW_o (show 40 < 1 + 8 ∨ 1 + 12 < 40 by decide), plW_o (show 41 < 1 + 8 ∨ 1 + 12 < 41 by decide), plW_o (show 42 < 1 + 8 ∨ 1 + 12 < 42 by decide), plW_o (show 45 < 1 + 8 ∨ 1 + 12 < 45 by decide), plW_o (show 20 < 1 + 8 ∨ 1 + 12 < 20 by decide), plW_o (show 28 < 1 + 8 ∨ 1 + 12 < 28 by decide), plW_o (show 30 < 1 + 8 ∨ 1 + 12 < 30 by decide), plW_o (show 34 < 1 + 8 ∨ 1 + 12 < 34 by decide), plW_o (show 43 < 1 + 8 ∨ 1 + 12 < 43 by decide)]
theorem vM_sm (w : Mem) : vM (smW w) = vM w := by
  have e0 : ∀ k, k ≠ 13 → k ≠ 14 → smW w 0 k = w 0 k := fun k h1 h2 => by rw [smW_0, upd_ne h2, upd_ne h1]
  simp only [vM, smW_o (show 2 ≠ 0 ∧ 2 ≠ 11 ∧ 2 ≠ 12 ∧ 2 ≠ 13 ∧ 2 ≠ 14 by decide), smW_o (show 4 ≠ 0 ∧ 4 ≠ 11 ∧ 4 ≠ 12 ∧ 4 ≠ 13 ∧ 4 ≠ 14 by decide), smW_o (show 3 ≠ 0 ∧ 3 ≠ 11 ∧ 3 ≠ 12 ∧ 3 ≠ 13 ∧ 3 ≠ 14 by decide), smW_o (show 5 ≠ 0 ∧ 5 ≠ 11 ∧ 5 ≠ 12 ∧ 5 ≠ 13 ∧ 5 ≠ 14 by decide), smW_o (show 6 ≠ 0 ∧ 6 ≠ 11 ∧ 6 ≠ 12 ∧ 6 ≠ 13 ∧ 6 ≠ 14 by decide), smW_o (show 7 ≠ 0 ∧ 7 ≠ 11 ∧ 7 ≠ 12 ∧ 7 ≠ 13 ∧ 7 ≠ 14 by decide), smW_o (show 8 ≠ 0 ∧ 8 ≠ 11 ∧ 8 ≠ 12 ∧ 8 ≠ 13 ∧ 8 ≠ 14 by decide), smW_o (show 9 ≠ 0 ∧ 9 ≠ 11 ∧ 9 ≠ 12 ∧ 9 ≠ 13 ∧ 9 ≠ 14 by decide), smW_o (show 10 ≠ 0 ∧ 10 ≠ 11 ∧ 10 ≠ 12 ∧ 10 ≠ 13 ∧ 10 ≠ 14 by decide), smW_o (show 21 ≠ 0 ∧ 21 ≠ 11 ∧ 21 ≠ 12 ∧ 21 ≠ 13 ∧ 21 ≠ 14 by decide), smW_o (show 1 ≠ 0 ∧ 1 ≠ 11 ∧ 1 ≠ 12 ∧ 1 ≠ 13 ∧ 1 ≠ 14 by decide), e0 6 (by decide) (by decide), e0 7 (by decide) (by decide), e0 11 (by decide) (by decide), e0 32 (by decide) (by decide)]
theorem Rel.pl {wC wM : Mem} (h : Rel wC wM) : Rel (plW 1 wC) (smW wM) := h.frame (vC_pl wC) (vM_sm wM)
/-- a drive whose settings, demands and currents are the reference's has its plan -/
theorem GC_of {d : Nat} {w v : Mem} (hs : ∀ k, k < 7 → w (d + 1) k = v 2 k) (hu : ∀ l, l < 3 → w (d + 2) l = v 4 l) (hi : ∀ l, l < 3 → w (d + 3) l = v 3 l) (h : InM v) :
    GC (d + 8) (plW d w) (nN v) (nd v) (ns v) (nh v) ∧ plW d w (d + 8) 3 = smW v 0 13 ∧ plW d w (d + 8) 4 = smW v 0 14 ∧ ∀ l, l < 3 → plW d w (d + 9) l = smW v 11 l ∧ plW d w (d + 12) l = v 3 l := by
  have hC : InC d w := ⟨h.1.congr hs, fun l hl => by show -200 ≤ (w (d + 2) l).toInt ∧ (w (d + 2) l).toInt ≤ 200; rw [hu l hl]; exact h.2 l hl⟩
  have eu : ∀ l, l < 3 → tI (w (d + 2)) l = tI (v 4) l := fun l hl => by unfold tI; rw [hu l hl]
  have ei : ∀ l, l < 3 → tI (w (d + 3)) l = tI (v 3) l := fun l hl => by unfold tI; rw [hi l hl]
  have hN := h.1.n
  have hd := h.1.d
  have s3 : plW d w (d + 8) 3 = smW v 0 13 := by rw [plW_sp, smW_0, gM_e, lM_e, gr_c hu, ls_c hu]; simp [upd]
  refine ⟨⟨?_, ?_, fun l hl => ⟨?_, ?_⟩⟩, s3, ?_, fun l hl => ⟨?_, ?_⟩⟩
  · rw [plW_tk, hs 0 (by decide)]; exact nI_oz rfl (by omega)
  · rw [plW_dd, hs 1 (by decide)]; exact nI_oz rfl (by omega)
  · have q := pH_bd (N := (v 2 0).toInt) (by omega) (v 2 2) (v 2 1).toInt (tI (v 4)) (tI (v 3)) l
    have e := (plC hC hl).2.1
    rw [hs 0 (by decide), hs 1 (by decide), hs 2 (by decide), pH_c eu ei _ _ _ hl] at e
    exact nI_oz e q.1
  · have e := (plC hC hl).2.2
    rw [hs 0 (by decide), hs 1 (by decide), hs 2 (by decide), pT_c eu ei _ _ _ hl] at e
    have g := ((GM_M h).2.2 l hl).2
    rw [← g]
    exact i_ext (by rw [e, (plM h hl).2.2])
  · rw [plW_ov, smW_0, gM_e, lM_e, gr_c hu, ls_c hu, hs 0 (by decide)]; simp [upd]
  · refine i_ext ?_
    rw [(plC hC hl).1, (plM h hl).1, hs 0 (by decide), pB_c eu _ hl]
  · rw [(pl_cells hC hl).2.2.2, hi l hl]
theorem Rel.plan {wC wM : Mem} (h : Rel wC wM) : GC 9 (plW 1 wC) (nN wM) (nd wM) (ns wM) (nh wM) ∧ plW 1 wC 9 3 = smW wM 0 13 ∧ plW 1 wC 9 4 = smW wM 0 14 ∧ ∀ l, l < 3 → plW 1 wC 10 l = smW wM 11 l ∧ plW 1 wC 13 l = wM 3 l :=
  GC_of (d := 1) h.1.1 (fun l hl => (h.2.1 l hl).1.1) (fun l hl => (h.2.1 l hl).2.1.1) h.InM
theorem planNow_e (w : Mem) : F_X6_planNow w = some ((), plW 1 w) := by unfold F_X6_planNow; rw [makePlan_e]; rfl
theorem Rel.setPlan {wC wM : Mem} (h : Rel wC wM) : F_X7_setPlan wM = some ((), smW wM) := setPlan_e wM (by have := h.1.2.n; omega)
/-! draw -/
def drC (l : Nat) (x : Int64) (w : Mem) : Mem := mst (mst w 3 l (Int64.toInt32 (lrm (x / 65536) 201) - 100)) 4 l (Int64.toInt32 (lrm (x / 1024) 401) - 200)
def drM (l : Nat) (x : Int64) (w : Mem) : Mem := mst (mst w 4 l (Int64.toInt32 (lrm (x / 65536) 201) - 100)) 3 l (Int64.toInt32 (lrm (x / 1024) 401) - 200)
def nx (x : Int64) : Int64 := lrm (x * 1103515245 + 12345) 2147483648
theorem drC_step {k : Mem → Option (Int32 × Mem)} {N l : Nat} {x : Int64} {w : Mem} (hl : l < 3) : L_X6_draw_21 k (N + 1) x (nI l) w = L_X6_draw_21 k N (nx x) (nI (l + 1)) (drC l (nx x) w) := by
  rw [L_X6_draw_21, if_neg (by rw [show (3 : Int32) = nI 3 from rfl, nI_lek (by decide) (by omega)]; omega)]
  simp only [inb_nI hl (by decide), gd_t, lt_m, ix_nI (show l < 2 ^ 31 by omega), nI_p1]
  rfl
theorem drC_end {k : Mem → Option (Int32 × Mem)} {N : Nat} {x : Int64} {w : Mem} : L_X6_draw_21 k (N + 1) x (nI 3) w = k w := by
  rw [L_X6_draw_21, if_pos (by decide)]
theorem drM_step {k : Mem → Option (Int32 × Mem)} {N l : Nat} {x : Int64} {w : Mem} (hl : l < 3) : L_X7_draw_21 k (N + 1) x (nI l) w = L_X7_draw_21 k N (nx x) (nI (l + 1)) (drM l (nx x) w) := by
  rw [L_X7_draw_21, if_neg (by rw [show (3 : Int32) = nI 3 from rfl, nI_lek (by decide) (by omega)]; omega)]
  simp only [inb_nI hl (by decide), gd_t, lt_m, ix_nI (show l < 2 ^ 31 by omega), nI_p1]
  rfl
theorem drM_end {k : Mem → Option (Int32 × Mem)} {N : Nat} {x : Int64} {w : Mem} : L_X7_draw_21 k (N + 1) x (nI 3) w = k w := by
  rw [L_X7_draw_21, if_pos (by decide)]
