/-! the plans' memories, cell by cell -/
theorem u3 {f g : Nat → Int32} {l : Nat} (hl : l < 3) : upd (upd (upd f 0 (g 0)) 1 (g 1)) 2 (g 2) l = g l := by
  rcases (show l = 0 ∨ l = 1 ∨ l = 2 by omega) with rfl | rfl | rfl <;> simp [upd]
theorem mkW_o {d l i : Nat} {m : Int32} {w : Mem} (h : i < d + 9 ∨ d + 12 < i) : mkW d l m w i = w i := by
  simp only [mkW]
  rw [mst_ne _ _ _ (by omega), mst_ne _ _ _ (by omega), mst_ne _ _ _ (by omega), mst_ne _ _ _ (by omega)]
theorem mkW_9 {d l : Nat} {m : Int32} {w : Mem} : mkW d l m w (d + 9) = upd (w (d + 9)) l (un32 (w (d + 8) 0) (w (d + 8) 3) (w (d + 8) 4) m (w (d + 2) l)) := by
  simp only [mkW]
  rw [mst_ne _ _ _ (by omega), mst_ne _ _ _ (by omega), mst_self, mst_ne _ _ _ (by omega)]
theorem mkW_10 {d l : Nat} {m : Int32} {w : Mem} : mkW d l m w (d + 10) = upd (w (d + 10)) l (hi32 (w (d + 8) 0) (w (d + 8) 1) (w (d + 8) 2) (un32 (w (d + 8) 0) (w (d + 8) 3) (w (d + 8) 4) m (w (d + 2) l)) (w (d + 3) l)) := by
  simp only [mkW]
  rw [mst_ne _ _ _ (by omega), mst_self, mst_ne _ _ _ (by omega), mst_ne _ _ _ (by omega)]
theorem mkW_11 {d l : Nat} {m : Int32} {w : Mem} : mkW d l m w (d + 11) = upd (w (d + 11)) l ((w (d + 8) 0 - hi32 (w (d + 8) 0) (w (d + 8) 1) (w (d + 8) 2) (un32 (w (d + 8) 0) (w (d + 8) 3) (w (d + 8) 4) m (w (d + 2) l)) (w (d + 3) l)) / 2) := by
  simp only [mkW]
  rw [mst_self, mst_ne _ _ _ (by omega), mst_ne _ _ _ (by omega), mst_ne _ _ _ (by omega)]
theorem mkW_12 {d l : Nat} {m : Int32} {w : Mem} : mkW d l m w (d + 12) = upd (w (d + 12)) l (w (d + 3) l) := by
  simp only [mkW]
  rw [mst_ne _ _ _ (by omega), mst_ne _ _ _ (by omega), mst_ne _ _ _ (by omega), mst_self]
theorem hdW_o {d i : Nat} {w : Mem} (h : i ≠ d + 8) : hdW d w i = w i := by
  simp only [hdW]
  rw [mst_ne _ _ _ h, mst_ne _ _ _ h, mst_ne _ _ _ h, mst_ne _ _ _ h, mst_ne _ _ _ h]
theorem hdW_8 {d : Nat} {w : Mem} : hdW d w (d + 8) = upd (upd (upd (upd (upd (w (d + 8)) 0 (w (d + 1) 0)) 1 (w (d + 1) 1)) 2 (if w (d + 1) 2 = 1 then 1 else 0)) 3 (gr32 (w (d + 2)) - ls32 (w (d + 2)))) 4 (ov32 (gr32 (w (d + 2)) - ls32 (w (d + 2))) (w (d + 1) 0)) := by
  simp only [hdW, mst_self]
theorem plW_o {d i : Nat} {w : Mem} (h : i < d + 8 ∨ d + 12 < i) : plW d w i = w i := by
  unfold plW
  rw [mkW_o (by omega), mkW_o (by omega), mkW_o (by omega), hdW_o (by omega)]
theorem plW_8 {d : Nat} {w : Mem} : plW d w (d + 8) = hdW d w (d + 8) := by
  unfold plW
  rw [mkW_o (by omega), mkW_o (by omega), mkW_o (by omega)]
def InC (d : Nat) (w : Mem) : Prop := SetOK (w (d + 1)) ∧ UB (tI (w (d + 2)))
theorem SetOK.n {s : Nat → Int32} (h : SetOK s) : 12 ≤ (s 0).toInt ∧ (s 0).toInt ≤ 96 ∧ (s 0).toInt % 2 = 0 := h.1
theorem SetOK.d {s : Nat → Int32} (h : SetOK s) : 0 ≤ (s 1).toInt ∧ (s 1).toInt ≤ 5 := h.2.1
theorem SetOK.c {s : Nat → Int32} (h : SetOK s) : (if s 2 = 1 then (1 : Int32) else 0) = s 2 := by
  rcases h.2.2.1 with q | q <;> rw [q] <;> rfl
theorem plW_tk {d : Nat} {w : Mem} : plW d w (d + 8) 0 = w (d + 1) 0 := by rw [plW_8, hdW_8]; simp [upd]
theorem plW_dd {d : Nat} {w : Mem} : plW d w (d + 8) 1 = w (d + 1) 1 := by rw [plW_8, hdW_8]; simp [upd]
theorem plW_c {d : Nat} {w : Mem} (h : SetOK (w (d + 1))) : plW d w (d + 8) 2 = w (d + 1) 2 := by rw [plW_8, hdW_8, ← h.c]; simp [upd]
theorem plW_sp {d : Nat} {w : Mem} : plW d w (d + 8) 3 = gr32 (w (d + 2)) - ls32 (w (d + 2)) := by rw [plW_8, hdW_8]; simp [upd]
theorem plW_ov {d : Nat} {w : Mem} : plW d w (d + 8) 4 = ov32 (gr32 (w (d + 2)) - ls32 (w (d + 2))) (w (d + 1) 0) := by rw [plW_8, hdW_8]; simp [upd]
theorem md_i {d : Nat} {w : Mem} (h : InC d w) : (md32 d w).toInt = pM (w (d + 1) 0).toInt (tI (w (d + 2))) := by
  have hN := h.1.n
  have a := dc_i (N := w (d + 1) 0) (S := gr32 (w (d + 2)) - ls32 (w (d + 2))) (x := gr32 (w (d + 2))) (by omega) (by rw [gr32_i]; exact h.2.mx)
  have b := dc_i (N := w (d + 1) 0) (S := gr32 (w (d + 2)) - ls32 (w (d + 2))) (x := ls32 (w (d + 2))) (by omega) (by rw [ls32_i]; exact h.2.mn)
  rw [S_i h.2, gr32_i] at a
  rw [S_i h.2, ls32_i] at b
  have g := cnt_bd (N := (w (d + 1) 0).toInt) (S := pS (tI (w (d + 2)))) (by omega) h.2.mx
  have k := cnt_bd (N := (w (d + 1) 0).toInt) (S := pS (tI (w (d + 2)))) (by omega) h.2.mn
  exact i_add a b (by omega)
theorem un_i {d l : Nat} {w : Mem} (h : InC d w) (hl : l < 3) : (un32 (w (d + 1) 0) (gr32 (w (d + 2)) - ls32 (w (d + 2))) (ov32 (gr32 (w (d + 2)) - ls32 (w (d + 2))) (w (d + 1) 0)) (md32 d w) (w (d + 2) l)).toInt = pB (w (d + 1) 0).toInt (tI (w (d + 2))) l := by
  have hN := h.1.n
  have a := dc_i (N := w (d + 1) 0) (S := gr32 (w (d + 2)) - ls32 (w (d + 2))) (x := w (d + 2) l) (by omega) (h.2 l hl)
  rw [S_i h.2] at a
  have b := bare_i (N := (w (d + 1) 0).toInt) (u := tI (w (d + 2))) hl h.2 (by omega) rfl (md_i h) a
  unfold un32
  have e0 : (0 : Int32).toInt = 0 := by decide
  rw [pw_i, b, e0]
  have := pB_bd (u := tI (w (d + 2))) (N := (w (d + 1) 0).toInt) (by omega) hl
  omega
theorem pl_cells {d : Nat} {w : Mem} (h : InC d w) {l : Nat} (hl : l < 3) :
    plW d w (d + 9) l = un32 (w (d + 1) 0) (gr32 (w (d + 2)) - ls32 (w (d + 2))) (ov32 (gr32 (w (d + 2)) - ls32 (w (d + 2))) (w (d + 1) 0)) (md32 d w) (w (d + 2) l) ∧
    plW d w (d + 10) l = hi32 (w (d + 1) 0) (w (d + 1) 1) (w (d + 1) 2) (un32 (w (d + 1) 0) (gr32 (w (d + 2)) - ls32 (w (d + 2))) (ov32 (gr32 (w (d + 2)) - ls32 (w (d + 2))) (w (d + 1) 0)) (md32 d w) (w (d + 2) l)) (w (d + 3) l) ∧
    plW d w (d + 11) l = (w (d + 1) 0 - plW d w (d + 10) l) / 2 ∧ plW d w (d + 12) l = w (d + 3) l := by
  have q8 : ∀ k m1 X, (mkW d k m1 X) (d + 8) = X (d + 8) := fun k m1 X => mkW_o (by omega)
  have q2 : ∀ k m1 X, (mkW d k m1 X) (d + 2) = X (d + 2) := fun k m1 X => mkW_o (by omega)
  have q3 : ∀ k m1 X, (mkW d k m1 X) (d + 3) = X (d + 3) := fun k m1 X => mkW_o (by omega)
  have t0 : hdW d w (d + 8) 0 = w (d + 1) 0 := by rw [hdW_8]; simp [upd]
  have t1 : hdW d w (d + 8) 1 = w (d + 1) 1 := by rw [hdW_8]; simp [upd]
  have t2 : hdW d w (d + 8) 2 = w (d + 1) 2 := by rw [hdW_8, ← h.1.c]; simp [upd]
  have t3 : hdW d w (d + 8) 3 = gr32 (w (d + 2)) - ls32 (w (d + 2)) := by rw [hdW_8]; simp [upd]
  have t4 : hdW d w (d + 8) 4 = ov32 (gr32 (w (d + 2)) - ls32 (w (d + 2))) (w (d + 1) 0) := by rw [hdW_8]; simp [upd]
  have e2 : hdW d w (d + 2) = w (d + 2) := hdW_o (by omega)
  have e3 : hdW d w (d + 3) = w (d + 3) := hdW_o (by omega)
  have c9 : plW d w (d + 9) l = un32 (w (d + 1) 0) (gr32 (w (d + 2)) - ls32 (w (d + 2))) (ov32 (gr32 (w (d + 2)) - ls32 (w (d + 2))) (w (d + 1) 0)) (md32 d w) (w (d + 2) l) := by
    unfold plW
    rw [mkW_9, mkW_9, mkW_9]
    simp only [q8, q2, q3, t0, t1, t2, t3, t4, e2, e3]
    exact u3 (g := fun l => un32 (w (d + 1) 0) (gr32 (w (d + 2)) - ls32 (w (d + 2))) (ov32 (gr32 (w (d + 2)) - ls32 (w (d + 2))) (w (d + 1) 0)) (md32 d w) (w (d + 2) l)) hl
  have c10 : plW d w (d + 10) l = hi32 (w (d + 1) 0) (w (d + 1) 1) (w (d + 1) 2) (un32 (w (d + 1) 0) (gr32 (w (d + 2)) - ls32 (w (d + 2))) (ov32 (gr32 (w (d + 2)) - ls32 (w (d + 2))) (w (d + 1) 0)) (md32 d w) (w (d + 2) l)) (w (d + 3) l) := by
    unfold plW
    rw [mkW_10, mkW_10, mkW_10]
    simp only [q8, q2, q3, t0, t1, t2, t3, t4, e2, e3]
    exact u3 (g := fun l => hi32 (w (d + 1) 0) (w (d + 1) 1) (w (d + 1) 2) (un32 (w (d + 1) 0) (gr32 (w (d + 2)) - ls32 (w (d + 2))) (ov32 (gr32 (w (d + 2)) - ls32 (w (d + 2))) (w (d + 1) 0)) (md32 d w) (w (d + 2) l)) (w (d + 3) l)) hl
  refine ⟨c9, c10, ?_, ?_⟩
  · rw [c10]
    unfold plW
    rw [mkW_11, mkW_11, mkW_11]
    simp only [q8, q2, q3, t0, t1, t2, t3, t4, e2, e3]
    exact u3 (g := fun l => (w (d + 1) 0 - hi32 (w (d + 1) 0) (w (d + 1) 1) (w (d + 1) 2) (un32 (w (d + 1) 0) (gr32 (w (d + 2)) - ls32 (w (d + 2))) (ov32 (gr32 (w (d + 2)) - ls32 (w (d + 2))) (w (d + 1) 0)) (md32 d w) (w (d + 2) l)) (w (d + 3) l)) / 2) hl
  · unfold plW
    rw [mkW_12, mkW_12, mkW_12]
    simp only [q8, q2, q3, e3]
    exact u3 (g := fun l => w (d + 3) l) hl
theorem pH_bd {N : Int} (hN : 0 ≤ N) (c : Int32) (d : Int) (u i : Nat → Int) (l : Nat) : 0 ≤ pH N c d u i l ∧ pH N c d u i l ≤ N := by unfold pH; omega
/-- the class's plan in numbers -/
theorem plC {d : Nat} {w : Mem} (h : InC d w) {l : Nat} (hl : l < 3) :
    (plW d w (d + 9) l).toInt = pB (w (d + 1) 0).toInt (tI (w (d + 2))) l ∧ (plW d w (d + 10) l).toInt = pH (w (d + 1) 0).toInt (w (d + 1) 2) (w (d + 1) 1).toInt (tI (w (d + 2))) (tI (w (d + 3))) l ∧ (plW d w (d + 11) l).toInt = pT (w (d + 1) 0).toInt (w (d + 1) 2) (w (d + 1) 1).toInt (tI (w (d + 2))) (tI (w (d + 3))) l := by
  obtain ⟨c9, c10, c11, -⟩ := pl_cells h hl
  have hN := h.1.n
  have b := pB_bd (u := tI (w (d + 2))) (N := (w (d + 1) 0).toInt) (by omega) hl
  have a10 : (plW d w (d + 10) l).toInt = pH (w (d + 1) 0).toInt (w (d + 1) 2) (w (d + 1) 1).toInt (tI (w (d + 2))) (tI (w (d + 3))) l := by
    rw [c10]
    exact hi_i (by omega) h.1.d (un_i h hl) b
  refine ⟨by rw [c9]; exact un_i h hl, a10, ?_⟩
  rw [c11]
  have q := pH_bd (N := (w (d + 1) 0).toInt) (by omega) (w (d + 1) 2) (w (d + 1) 1).toInt (tI (w (d + 2))) (tI (w (d + 3))) l
  exact half_i rfl a10 (by omega)
/-! the reference's -/
def InM (w : Mem) : Prop := SetOK (w 2) ∧ UB (tI (w 4))
theorem pmW_o {l i : Nat} {n m : Int32} {w : Mem} (h : i ≠ 11 ∧ i ≠ 12 ∧ i ≠ 13) : pmW l n m w i = w i := by
  simp only [pmW]
  rw [mst_ne _ _ _ h.2.2, mst_ne _ _ _ h.2.1, mst_ne _ _ _ h.1]
theorem cmW_o {i : Nat} {w : Mem} (h : i ≠ 0 ∧ i ≠ 14) : cmW w i = w i := by
  simp only [cmW, hmW]
  rw [mst_ne _ _ _ h.2, mst_ne _ _ _ h.2, mst_ne _ _ _ h.2, mst_ne _ _ _ h.1, mst_ne _ _ _ h.1]
theorem smW_o {i : Nat} {w : Mem} (h : i ≠ 0 ∧ i ≠ 11 ∧ i ≠ 12 ∧ i ≠ 13 ∧ i ≠ 14) : smW w i = w i := by
  simp only [smW]
  rw [pmW_o (by omega), pmW_o (by omega), pmW_o (by omega), cmW_o (by omega)]
theorem smW_0 {w : Mem} : smW w 0 = upd (upd (w 0) 13 (gM (w 4) - lM (w 4))) 14 (ov32 (gM (w 4) - lM (w 4)) (w 2 0)) := by
  simp only [smW]
  rw [pmW_o (by omega), pmW_o (by omega), pmW_o (by omega)]
  simp only [cmW, hmW]
  rw [mst_ne _ _ _ (by decide), mst_ne _ _ _ (by decide), mst_ne _ _ _ (by decide), mst_self, mst_self]
theorem cm14 {w : Mem} {l : Nat} (hl : l < 3) : cmW w 14 l = ct32 (w 2 0) (gM (w 4) - lM (w 4)) (ov32 (gM (w 4) - lM (w 4)) (w 2 0)) (w 4 l) := by
  simp only [cmW, mst_self]
  exact u3 (g := fun l => ct32 (w 2 0) (gM (w 4) - lM (w 4)) (ov32 (gM (w 4) - lM (w 4)) (w 2 0)) (w 4 l)) hl
theorem cm14_i {w : Mem} (h : InM w) {l : Nat} (hl : l < 3) : (cmW w 14 l).toInt = cntI (w 2 0).toInt (pS (tI (w 4))) (w 4 l).toInt := by
  have hN := h.1.n
  rw [cm14 hl, gM_e, lM_e, ct_i (by omega) (h.2 l hl), S_i h.2]
theorem mM_i {w : Mem} (h : InM w) : (gM (cmW w 14) + lM (cmW w 14)).toInt = pM (w 2 0).toInt (tI (w 4)) := by
  have hN := h.1.n
  have g := cnt_bd (N := (w 2 0).toInt) (S := pS (tI (w 4))) (by omega) h.2.mx
  have k := cnt_bd (N := (w 2 0).toInt) (S := pS (tI (w 4))) (by omega) h.2.mn
  have e : ∀ l, l < 3 → tI (cmW w 14) l = cntI (w 2 0).toInt (pS (tI (w 4))) (tI (w 4) l) := fun l hl => cm14_i h hl
  have a : (gM (cmW w 14)).toInt = cntI (w 2 0).toInt (pS (tI (w 4))) (mx3 (tI (w 4))) := by
    rw [gM_i, ← mx3_map (u := tI (w 4)) (f := cntI (w 2 0).toInt (pS (tI (w 4)))) (fun x y h => cnt_mono (by omega) h)]
    unfold mx3
    rw [e 0 (by decide), e 1 (by decide), e 2 (by decide)]
  have b : (lM (cmW w 14)).toInt = cntI (w 2 0).toInt (pS (tI (w 4))) (mn3 (tI (w 4))) := by
    rw [lM_i, ← mn3_map (u := tI (w 4)) (f := cntI (w 2 0).toInt (pS (tI (w 4)))) (fun x y h => cnt_mono (by omega) h)]
    unfold mn3
    rw [e 0 (by decide), e 1 (by decide), e 2 (by decide)]
  exact i_add a b (by omega)
theorem sm_cells {w : Mem} {l : Nat} (hl : l < 3) :
    smW w 11 l = bn ((w 2 0 + 2 * cmW w 14 l - (gM (cmW w 14) + lM (cmW w 14))) / 2) (w 2 0) ∧
    smW w 12 l = bn ((w 2 0 + 2 * cmW w 14 l - (gM (cmW w 14) + lM (cmW w 14))) / 2 + mo32 (w 2 2) (w 3 l) (w 2 1)) (w 2 0) ∧
    smW w 13 l = (w 2 0 - smW w 12 l) / 2 := by
  have o : ∀ (k i : Nat) (n m : Int32) (X : Mem), i ≠ 11 ∧ i ≠ 12 ∧ i ≠ 13 → pmW k n m X i = X i := fun k i n m X h => pmW_o h
  have p11 : ∀ (k : Nat) (n m : Int32) (X : Mem), pmW k n m X 11 = upd (X 11) k (bn ((n + 2 * X 14 k - m) / 2) n) := fun k n m X => by
    simp only [pmW]; rw [mst_ne _ _ _ (by decide), mst_ne _ _ _ (by decide), mst_self]
  have p12 : ∀ (k : Nat) (n m : Int32) (X : Mem), pmW k n m X 12 = upd (X 12) k (bn ((n + 2 * X 14 k - m) / 2 + mo32 (X 2 2) (X 3 k) (X 2 1)) n) := fun k n m X => by
    simp only [pmW]; rw [mst_ne _ _ _ (by decide), mst_self, mst_ne _ _ _ (by decide)]
  have p13 : ∀ (k : Nat) (n m : Int32) (X : Mem), pmW k n m X 13 = upd (X 13) k ((n - bn ((n + 2 * X 14 k - m) / 2 + mo32 (X 2 2) (X 3 k) (X 2 1)) n) / 2) := fun k n m X => by
    simp only [pmW]; rw [mst_self, mst_ne _ _ _ (by decide), mst_ne _ _ _ (by decide)]
  have c2 : cmW w 2 = w 2 := cmW_o (by decide)
  have c3 : cmW w 3 = w 3 := cmW_o (by decide)
  have s14 : ∀ (k : Nat) (n m : Int32) (X : Mem), pmW k n m X 14 = X 14 := fun k n m X => o k 14 n m X (by decide)
  have s2 : ∀ (k : Nat) (n m : Int32) (X : Mem), pmW k n m X 2 = X 2 := fun k n m X => o k 2 n m X (by decide)
  have s3 : ∀ (k : Nat) (n m : Int32) (X : Mem), pmW k n m X 3 = X 3 := fun k n m X => o k 3 n m X (by decide)
  have c12 : smW w 12 l = bn ((w 2 0 + 2 * cmW w 14 l - (gM (cmW w 14) + lM (cmW w 14))) / 2 + mo32 (w 2 2) (w 3 l) (w 2 1)) (w 2 0) := by
    simp only [smW, p12, s14, s2, s3, c2, c3]
    exact u3 (g := fun l => bn ((w 2 0 + 2 * cmW w 14 l - (gM (cmW w 14) + lM (cmW w 14))) / 2 + mo32 (w 2 2) (w 3 l) (w 2 1)) (w 2 0)) hl
  refine ⟨?_, c12, ?_⟩
  · simp only [smW, p11, s14]
    exact u3 (g := fun l => bn ((w 2 0 + 2 * cmW w 14 l - (gM (cmW w 14) + lM (cmW w 14))) / 2) (w 2 0)) hl
  · rw [c12]
    simp only [smW, p13, s14, s2, s3, c2, c3]
    exact u3 (g := fun l => (w 2 0 - bn ((w 2 0 + 2 * cmW w 14 l - (gM (cmW w 14) + lM (cmW w 14))) / 2 + mo32 (w 2 2) (w 3 l) (w 2 1)) (w 2 0)) / 2) hl
theorem plM {w : Mem} (h : InM w) {l : Nat} (hl : l < 3) :
    (smW w 11 l).toInt = pB (w 2 0).toInt (tI (w 4)) l ∧ (smW w 12 l).toInt = pH (w 2 0).toInt (w 2 2) (w 2 1).toInt (tI (w 4)) (tI (w 3)) l ∧ (smW w 13 l).toInt = pT (w 2 0).toInt (w 2 2) (w 2 1).toInt (tI (w 4)) (tI (w 3)) l := by
  obtain ⟨c11, c12, c13⟩ := sm_cells (w := w) hl
  have hN := h.1.n
  have hd := h.1.d
  have b := pB_bd (u := tI (w 4)) (N := (w 2 0).toInt) (by omega) hl
  have k := bare_i (N := (w 2 0).toInt) (u := tI (w 4)) hl h.2 (by omega) rfl (mM_i h) (cm14_i h hl)
  have q := pD_bd (c := w 2 2) (d := (w 2 1).toInt) (i := (w 3 l).toInt) hd
  have a12 : (smW w 12 l).toInt = pH (w 2 0).toInt (w 2 2) (w 2 1).toInt (tI (w 4)) (tI (w 3)) l := by
    rw [c12, bn_i (by omega), i_add k (mo_i hd) (by omega)]
    rfl
  refine ⟨?_, a12, ?_⟩
  · rw [c11, bn_i (by omega), k]; omega
  · rw [c13]
    have q := pH_bd (N := (w 2 0).toInt) (by omega) (w 2 2) (w 2 1).toInt (tI (w 4)) (tI (w 3)) l
    exact half_i rfl a12 (by omega)
