/-! steering keeps RD -/
theorem RD.frameM {d : Nat} {W V V' : Mem} (h : RD d W V) (e : vM V' = vM V) : RD d W V' := by
  simp only [vM, Prod.mk.injEq] at e
  obtain ⟨m1, m2, m3, m4, m5, m6, m7, m8, m9, m10, -⟩ := e
  unfold RD
  rw [m1, m2, m3, m4, m5, m6, m7, m8, m9, m10]
  exact h
theorem RD.frameC {d : Nat} {W W' V : Mem} (h : RD d W V) (e : ∀ i, d ≤ i → i ≤ d + 7 → W' i = W i) : RD d W' V := by
  unfold RD
  rw [e d (by omega) (by omega), e (d + 1) (by omega) (by omega), e (d + 2) (by omega) (by omega), e (d + 3) (by omega) (by omega), e (d + 4) (by omega) (by omega), e (d + 5) (by omega) (by omega), e (d + 6) (by omega) (by omega), e (d + 7) (by omega) (by omega)]
  exact h
theorem pw_bd {x lo hi : Int32} {n : Int} (h1 : lo.toInt = -n) (h2 : hi.toInt = n) (hn : 0 ≤ n) : Bd n (pw x lo hi) := by
  unfold Bd
  rw [pw_i, h1, h2]
  omega
theorem sS_bd {a e s : Int32} (h : Bd 5000 s) : Bd 5000 (sS a e s) := by
  unfold sS
  split
  · exact pw_bd (by decide) (by decide) (by decide)
  · split
    · exact pw_bd (by decide) (by decide) (by decide)
    · exact h
theorem sU_bd {e p i s : Int32} : Bd 200 (sU e p i s) := pw_bd (by decide) (by decide) (by decide)
theorem RV_ad {a b c d a' b' c' d' : Nat → Int32} (h : RV a b c d a' b' c' d') {l : Nat} {x y : Int32} (hx : Bd 200 x) (hy : Bd 5000 y) : RV (upd a l x) b c (upd d l y) (upd a' l x) b' c' (upd d' l y) := by
  intro j hj
  have q := h j hj
  by_cases e : j = l
  · subst e
    rw [upd_eq, upd_eq, upd_eq, upd_eq]
    exact ⟨⟨rfl, hx⟩, q.2.1, q.2.2.1, ⟨rfl, hy⟩⟩
  · rw [upd_ne e, upd_ne e, upd_ne e, upd_ne e]
    exact q
theorem RD.st {d : Nat} {W V : Mem} (h : RD d W V) (a : Int32) {l : Nat} (hl : l < 3) : RD d (stW d a l W) (stV a l V) := by
  have e : stV a l V = mst (mst V 6 l (sS a (W (d + 4) l - W (d + 3) l) (W (d + 5) l))) 4 l (sU (W (d + 4) l - W (d + 3) l) (W (d + 1) 4) (W (d + 1) 5) (sS a (W (d + 4) l - W (d + 3) l) (W (d + 5) l))) := by
    unfold stV
    rw [(h.2.1 l hl).2.1.1, (h.2.1 l hl).2.2.1.1, (h.2.1 l hl).2.2.2.1, h.1.1 4 (by decide), h.1.1 5 (by decide)]
  have b5 : Bd 5000 (W (d + 5) l) := by rw [(h.2.1 l hl).2.2.2.1]; exact (h.2.1 l hl).2.2.2.2
  have v := RV_ad h.2.1 (l := l) (sU_bd (e := W (d + 4) l - W (d + 3) l) (p := W (d + 1) 4) (i := W (d + 1) 5) (s := sS a (W (d + 4) l - W (d + 3) l) (W (d + 5) l))) (sS_bd (a := a) (e := W (d + 4) l - W (d + 3) l) b5)
  rw [e]
  unfold stW RD
  rw [ms_ne (show d + 1 ≠ d + 2 by omega), ms_ne (show d + 1 ≠ d + 5 by omega), ms_eq, ms_ne (show d + 2 ≠ d + 5 by omega), ms_ne (show d + 3 ≠ d + 2 by omega), ms_ne (show d + 3 ≠ d + 5 by omega), ms_ne (show d + 4 ≠ d + 2 by omega), ms_ne (show d + 4 ≠ d + 5 by omega), ms_ne (show d + 5 ≠ d + 2 by omega), ms_eq, ms_ne (show d ≠ d + 2 by omega), ms_ne (show d ≠ d + 5 by omega), ms_ne (show d + 6 ≠ d + 2 by omega), ms_ne (show d + 6 ≠ d + 5 by omega), ms_ne (show d + 7 ≠ d + 2 by omega), ms_ne (show d + 7 ≠ d + 5 by omega)]
  exact ⟨h.1, v, h.2.2⟩
theorem RD.InM {d : Nat} {W V : Mem} (h : RD d W V) : InM V := ⟨h.1.2, fun l hl => (h.2.1 l hl).1.2⟩
def stVs (V : Mem) : Mem := stV (smW V 0 14) 2 (stV (smW V 0 14) 1 (stV (smW V 0 14) 0 (smW V)))
theorem RD.steer {d : Nat} {W V : Mem} (h : RD d W V) : F_X7_steers V = some ((), stVs V) ∧ RD d (stWs d W) (stVs V) := by
  have hI := h.InM
  have e : smW V 0 14 = ov32 (gr32 (W (d + 2)) - ls32 (W (d + 2))) (W (d + 1) 0) := by
    have := (GC_of (d := d) (w := W) h.1.1 (fun l hl => (h.2.1 l hl).1.1) (fun l hl => (h.2.1 l hl).2.1.1) hI).2.2.1
    rw [← this, plW_ov]
  constructor
  · unfold F_X7_steers
    rw [setPlan_e V (by have := hI.1.n; omega), bd_m, show (300 : Nat) = 296 + 1 + 1 + 1 + 1 from rfl, show L_X7_steers_11 (smW V 0 14) (fun w37 => some ((), w37)) (296 + 1 + 1 + 1 + 1) 0 (smW V) = L_X7_steers_11 (smW V 0 14) (fun w37 => some ((), w37)) (296 + 1 + 1 + 1 + 1) (nI 0) (smW V) by rw [z0], steers_step (by decide), steers_step (by decide), steers_step (by decide), L_X7_steers_11, if_pos (by decide)]
    rfl
  · unfold stWs stVs
    rw [← e]
    exact (((h.frameM (vM_sm V)).st _ (by decide)).st _ (by decide)).st _ (by decide)
theorem stW_o {d : Nat} {a : Int32} {l : Nat} {W : Mem} {i : Nat} (h : i ≠ d + 2) (h' : i ≠ d + 5) : stW d a l W i = W i := by
  unfold stW
  rw [ms_ne h, ms_ne h']
theorem stWs_o {d : Nat} {W : Mem} {i : Nat} (h : i ≠ d + 2) (h' : i ≠ d + 5) : stWs d W i = W i := by
  unfold stWs
  rw [stW_o h h', stW_o h h', stW_o h h']
theorem stV_o {a : Int32} {l : Nat} {V : Mem} {i : Nat} (h : i ≠ 6) (h' : i ≠ 4) : stV a l V i = V i := by
  unfold stV
  rw [ms_ne h', ms_ne h]
theorem stVs_o {V : Mem} {i : Nat} (h : i ≠ 6) (h' : i ≠ 4) : stVs V i = smW V i := by
  unfold stVs
  rw [stV_o h h', stV_o h h', stV_o h h']
