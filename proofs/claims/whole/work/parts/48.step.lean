/-! currents move -/
def nc32 (c m T : Int32) : Int32 := pw (c + (3 * m - T) / 6 - (c + (3 * m - T) / 6) / 8) (-999) 999
def mvS (d : Nat) (M : Nat → Int32) (T : Int32) (l : Nat) (W : Mem) : Mem := mst W (d + 3) l (nc32 (W (d + 3) l) (M l) T)
def gvS (M : Nat → Int32) (T : Int32) (l : Nat) (V : Mem) : Mem := mst V 3 l (nc32 (V 3 l) (M l) T)
theorem RV_b {a b c d a' b' c' d' : Nat → Int32} (h : RV a b c d a' b' c' d') {l : Nat} {y : Int32} (hy : Bd 999 y) : RV a (upd b l y) c d a' (upd b' l y) c' d' := by
  intro j hj
  have q := h j hj
  by_cases e : j = l
  · subst e
    rw [upd_eq, upd_eq]
    exact ⟨q.1, ⟨rfl, hy⟩, q.2.2.1, q.2.2.2⟩
  · rw [upd_ne e, upd_ne e]
    exact q
theorem RD.mv {d : Nat} {W V : Mem} (h : RD d W V) (M : Nat → Int32) (T : Int32) {l : Nat} (hl : l < 3) : RD d (mvS d M T l W) (gvS M T l V) := by
  have e : gvS M T l V = mst V 3 l (nc32 (W (d + 3) l) (M l) T) := by unfold gvS; rw [(h.2.1 l hl).2.1.1]
  have v := RV_b h.2.1 (l := l) (y := nc32 (W (d + 3) l) (M l) T) (pw_bd (by decide) (by decide) (by decide))
  rw [e]
  unfold mvS RD
  rw [ms_ne (show d + 1 ≠ d + 3 by omega), ms_ne (show d + 2 ≠ d + 3 by omega), ms_eq, ms_ne (show d + 4 ≠ d + 3 by omega), ms_ne (show d + 5 ≠ d + 3 by omega), ms_ne (show d ≠ d + 3 by omega), ms_ne (show d + 6 ≠ d + 3 by omega), ms_ne (show d + 7 ≠ d + 3 by omega)]
  exact ⟨h.1, v, h.2.2⟩
def MN (N dd : Nat) (h : Nat → Nat) (c : Nat → Int32) (l : Nat) : Int32 := nI (mn N dd (h l) (decide (c l < 0)))
theorem GC.o {p : Nat} {W W' : Mem} {N d : Nat} {s h : Nat → Nat} (g : GC p W N d s h) (e : ∀ i, p ≤ i → W' i = W i) : GC p W' N d s h := by
  unfold GC at g ⊢
  rw [e p (by omega), e (p + 2) (by omega), e (p + 3) (by omega)]
  exact g
theorem mv_step {d : Nat} {W : Mem} {N dd : Nat} {s h : Nat → Nat} (g : GC (d + 8) W N dd s h) (k0 : POK N dd s h) {l : Nat} (hl : l < 3) {T : Int32} {k : Mem → Option (Unit × Mem)} {F : Nat} :
    L_X0_moveCurrents_29 d T k (F + 1) (nI l) W = L_X0_moveCurrents_29 d T k F (nI (l + 1)) (mvS d (MN N dd h (W (d + 12))) T l W) := by
  rw [L_X0_moveCurrents_29, if_neg (by rw [show (3 : Int32) = nI 3 from rfl, nI_lek (by omega) (by omega)]; omega)]
  simp only [inb_nI hl (by decide), gd_t, ix_nI (show l < 2 ^ 31 by omega), mean_e g k0 hl, bd_m, lt_m, pulled_e, nI_p1]
  rfl
theorem mvS_o {d : Nat} {M : Nat → Int32} {T : Int32} {l : Nat} {W : Mem} {i : Nat} (h : i ≠ d + 3) : mvS d M T l W i = W i := ms_ne h
def mvs (d : Nat) (M : Nat → Int32) (W : Mem) : Mem := mvS d M (M 0 + M 1 + M 2) 2 (mvS d M (M 0 + M 1 + M 2) 1 (mvS d M (M 0 + M 1 + M 2) 0 W))
theorem mvs_o {d : Nat} {M : Nat → Int32} {W : Mem} {i : Nat} (h : i ≠ d + 3) : mvs d M W i = W i := by unfold mvs; rw [mvS_o h, mvS_o h, mvS_o h]
theorem move_e {d : Nat} {W : Mem} {N dd : Nat} {s h : Nat → Nat} (g : GC (d + 8) W N dd s h) (k0 : POK N dd s h) : F_X0_moveCurrents d W = some ((), mvs d (MN N dd h (W (d + 12))) W) := by
  unfold F_X0_moveCurrents
  have g1 : ∀ {M T l} {W' : Mem}, GC (d + 8) W' N dd s h → GC (d + 8) (mvS d M T l W') N dd s h := fun g => g.o (fun i hi => mvS_o (by omega))
  have c1 : ∀ {M T l} {W' : Mem}, (mvS d M T l W') (d + 12) = W' (d + 12) := mvS_o (by omega)
  rw [show F_X1_mean (d + 8) 0 W = _ from mean_e g k0 (l := 0) (by decide), bd_m, show F_X1_mean (d + 8) 1 W = _ from mean_e g k0 (l := 1) (by decide), bd_m, show F_X1_mean (d + 8) 2 W = _ from mean_e g k0 (l := 2) (by decide), bd_m]
  rw [show (300 : Nat) = 296 + 1 + 1 + 1 + 1 from rfl, ← z0, mv_step g k0 (by decide), mv_step (g1 g) k0 (by decide), mv_step (g1 (g1 g)) k0 (by decide), L_X0_moveCurrents_29, if_pos (by decide), c1, c1]
  rfl
/-! the reference's -/
theorem g25_step {V : Mem} {N dd : Nat} {s h : Nat → Nat} (g : GM V N dd s h) (k0 : POK N dd s h) {l : Nat} (hl : l < 3) {k : Mem → Option (Int32 × Mem)} {F : Nat} :
    L_X7_goes_25 k (F + 1) (nI l) V = L_X7_goes_25 k F (nI (l + 1)) (mst V 19 l (MN N dd h (V 3) l)) := by
  rw [L_X7_goes_25, if_neg (by rw [show (3 : Int32) = nI 3 from rfl, nI_lek (by omega) (by omega)]; omega)]
  simp only [inb_nI hl (by decide), gd_t, ix_nI (show l < 2 ^ 31 by omega), meanOf_e g k0 hl, bd_m, lt_m, nI_p1]
  rfl
theorem g70_step {V : Mem} {l : Nat} (hl : l < 3) {T : Int32} {k : Mem → Option (Int32 × Mem)} {F : Nat} :
    L_X7_goes_70 T k (F + 1) (nI l) V = L_X7_goes_70 T k F (nI (l + 1)) (gvS (V 19) T l V) := by
  rw [L_X7_goes_70, if_neg (by rw [show (3 : Int32) = nI 3 from rfl, nI_lek (by omega) (by omega)]; omega)]
  simp only [inb_nI hl (by decide), gd_t, ix_nI (show l < 2 ^ 31 by omega), within7_e, wb_pw _ 999 (-999) (by decide) (by decide) (by decide), bd_m, lt_m, nI_p1]
  rfl
theorem GM.o {V V' : Mem} {N d : Nat} {s h : Nat → Nat} (g : GM V N d s h) (e : V' 2 = V 2 ∧ V' 12 = V 12 ∧ V' 13 = V 13) : GM V' N d s h := by
  unfold GM at g ⊢
  rw [e.1, e.2.1, e.2.2]
  exact g
def gvs (M : Nat → Int32) (V : Mem) : Mem := gvS M (M 0 + M 1 + M 2) 2 (gvS M (M 0 + M 1 + M 2) 1 (gvS M (M 0 + M 1 + M 2) 0 V))
def m19 (M : Nat → Int32) (V : Mem) : Mem := mst (mst (mst V 19 0 (M 0)) 19 1 (M 1)) 19 2 (M 2)
theorem gvS_o {M : Nat → Int32} {T : Int32} {l : Nat} {V : Mem} {i : Nat} (h : i ≠ 3) : gvS M T l V i = V i := ms_ne h
theorem gvs_o {M : Nat → Int32} {V : Mem} {i : Nat} (h : i ≠ 3) : gvs M V i = V i := by unfold gvs; rw [gvS_o h, gvS_o h, gvS_o h]
theorem m19_o {M : Nat → Int32} {V : Mem} {i : Nat} (h : i ≠ 19) : m19 M V i = V i := by unfold m19; rw [ms_ne h, ms_ne h, ms_ne h]
theorem gvS_c {M M' : Nat → Int32} {T : Int32} {l : Nat} {V : Mem} (h : M l = M' l) : gvS M T l V = gvS M' T l V := by unfold gvS; rw [h]
theorem m19_l {M : Nat → Int32} {V : Mem} {l : Nat} (hl : l < 3) : m19 M V 19 l = M l := by
  unfold m19
  rw [ms_eq, ms_eq, ms_eq]
  exact u3 hl
theorem g25_e {V : Mem} {N dd : Nat} {s h : Nat → Nat} (g : GM V N dd s h) (k0 : POK N dd s h) {k : Mem → Option (Int32 × Mem)} : L_X7_goes_25 k 300 0 V = k (m19 (MN N dd h (V 3)) V) := by
  have o : ∀ {x l} {U : Mem} {i}, i ≠ 19 → (mst U 19 l x) i = U i := fun h => ms_ne h
  have g' : ∀ {x l} {U : Mem}, GM U N dd s h → GM (mst U 19 l x) N dd s h := fun g => g.o ⟨o (by decide), o (by decide), o (by decide)⟩
  rw [show L_X7_goes_25 k 300 0 V = L_X7_goes_25 k (296 + 1 + 1 + 1 + 1) (nI 0) V by rw [z0], g25_step g k0 (by decide), g25_step (g' g) k0 (by decide), g25_step (g' (g' g)) k0 (by decide), L_X7_goes_25, if_pos (by decide), o (by decide), o (by decide)]
  rfl
theorem g70_e {V : Mem} {T : Int32} {k : Mem → Option (Int32 × Mem)} : L_X7_goes_70 T k 300 0 V = k (gvS (V 19) T 2 (gvS (V 19) T 1 (gvS (V 19) T 0 V))) := by
  rw [show L_X7_goes_70 T k 300 0 V = L_X7_goes_70 T k (296 + 1 + 1 + 1 + 1) (nI 0) V by rw [z0], g70_step (by decide), g70_step (by decide), g70_step (by decide), L_X7_goes_70, if_pos (by decide), gvS_o (by decide), gvS_o (by decide)]
