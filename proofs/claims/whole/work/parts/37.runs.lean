/-! runs: patterns and changes -/
def pa (s h : Nat → Nat) (t : Nat) : Nat := (if wt (s 0) (h 0) t = true then 1 else 0) + (if wt (s 1) (h 1) t = true then 2 else 0) + (if wt (s 2) (h 2) t = true then 4 else 0)
theorem pa_le (s h : Nat → Nat) (t : Nat) : pa s h t ≤ 7 := by unfold pa; split <;> split <;> split <;> omega
/-- starts and highs, wherever they lie -/
def RO (N : Nat) (s h : Nat → Nat) : Prop := 12 ≤ N ∧ N ≤ 96 ∧ ∀ l, l < 3 → s l + h l ≤ N
def SH (W : Mem) (q3 q4 : Nat) (s h : Nat → Nat) : Prop := ∀ l, l < 3 → W q3 l = nI (s l) ∧ W q4 l = nI (h l)
theorem pat_step {W : Mem} {q3 q4 N : Nat} {s h : Nat → Nat} (g : SH W q3 q4 s h) (o : RO N s h) {l t : Nat} (hl : l < 3) (ht : t ≤ 96) {v : Int32} {k : Int32 → Mem → Option (Int32 × Mem)} {F : Nat} :
    L_X2_patternAt_5 (nI t) q3 q4 k (F + 1) v (nI l) W = L_X2_patternAt_5 (nI t) q3 q4 k F (if wt (s l) (h l) t = true then v ||| ((1 : Int32) <<< (nI l &&& 31)) else v) (nI (l + 1)) W := by
  have ho := o.2.2 l hl
  have hN := o.2.1
  rw [L_X2_patternAt_5, if_neg (by rw [show (3 : Int32) = nI 3 from rfl, nI_lek (by omega) (by omega)]; omega)]
  simp only [inb_nI hl (by decide), gd_t, ix_nI (show l < 2 ^ 31 by omega), (g l hl).1, (g l hl).2, nI_add, nI_ltk (show t < 2 ^ 31 by omega) (show s l < 2 ^ 31 by omega), nI_lek (show s l + h l < 2 ^ 31 by omega) (show t < 2 ^ 31 by omega), nI_p1, lt_m]
  by_cases h1 : t < s l
  · rw [if_pos h1, if_neg (by simp [wt]; omega)]
  · rw [if_neg h1]
    by_cases h2 : s l + h l ≤ t
    · rw [if_pos h2, if_neg (by simp [wt]; omega)]
    · rw [if_neg h2, if_pos (by simp [wt]; omega)]
theorem pat_e {W : Mem} {q3 q4 N : Nat} {s h : Nat → Nat} (g : SH W q3 q4 s h) (o : RO N s h) {t : Nat} (ht : t ≤ 96) : F_X2_patternAt (nI t) q3 q4 W = some (nI (pa s h t), W) := by
  unfold F_X2_patternAt pa
  rw [show (300 : Nat) = 296 + 1 + 1 + 1 + 1 from rfl, show L_X2_patternAt_5 (nI t) q3 q4 (fun x9 w8 => some (x9, w8)) (296 + 1 + 1 + 1 + 1) 0 0 W = L_X2_patternAt_5 (nI t) q3 q4 (fun x9 w8 => some (x9, w8)) (296 + 1 + 1 + 1 + 1) 0 (nI 0) W by rw [z0], pat_step g o (by decide) ht, pat_step g o (by decide) ht, pat_step g o (by decide) ht, L_X2_patternAt_5, if_pos (by decide)]
  cases wt (s 0) (h 0) t <;> cases wt (s 1) (h 1) t <;> cases wt (s 2) (h 2) t <;> rfl
theorem w7_e {V : Mem} {q3 q4 N : Nat} {s h : Nat → Nat} (g : SH V 13 12 s h) (o : RO N s h) {l t : Nat} (hl : l < 3) (ht : t ≤ 96) : F_X7_wanted (nI l) (nI t) V = some (b32 (wt (s l) (h l) t), V) := by
  unfold F_X7_wanted
  have ho := o.2.2 l hl
  have hN := o.2.1
  simp only [inb_nI hl (by decide), gd_t, ix_nI (show l < 2 ^ 31 by omega), (g l hl).1, (g l hl).2]
  exact wt32 (by omega) (by omega) (by omega) V
theorem patM_e {V : Mem} {N : Nat} {s h : Nat → Nat} (g : SH V 13 12 s h) (o : RO N s h) {t : Nat} (ht : t ≤ 96) : F_X7_patternAt (nI t) V = some (nI (pa s h t), V) := by
  unfold F_X7_patternAt pa
  rw [show F_X7_wanted 0 (nI t) V = _ from w7_e (q3 := 0) (q4 := 0) g o (l := 0) (by decide) ht, bd_m, jn_ite, show F_X7_wanted 1 (nI t) V = _ from w7_e (q3 := 0) (q4 := 0) g o (l := 1) (by decide) ht, bd_m, jn_ite, show F_X7_wanted 2 (nI t) V = _ from w7_e (q3 := 0) (q4 := 0) g o (l := 2) (by decide) ht, bd_m]
  cases wt (s 0) (h 0) t <;> cases wt (s 1) (h 1) t <;> cases wt (s 2) (h 2) t <;> rfl
/-- the next change of one leg -/
def nc (s h t v : Nat) : Nat := if h = 0 then v else if t < s then min v s else if t < s + h then min v (s + h) else v
def nxt (N : Nat) (s h : Nat → Nat) (t : Nat) : Nat := nc (s 2) (h 2) t (nc (s 1) (h 1) t (nc (s 0) (h 0) t N))
theorem imin_n {a b : Nat} (ha : a < 2 ^ 31) (hb : b < 2 ^ 31) : imin (nI a) (nI b) = nI (min a b) := by
  unfold imin
  simp only [nI_ltk hb ha]
  split
  · rw [Nat.min_eq_right (by omega)]
  · rw [Nat.min_eq_left (by omega)]
theorem nc_le (s h t v : Nat) : nc s h t v ≤ v := by unfold nc; split <;> (try split) <;> (try split) <;> omega
theorem nch_step {W : Mem} {q3 q4 N : Nat} {s h : Nat → Nat} (g : SH W q3 q4 s h) (o : RO N s h) {l t v : Nat} (hl : l < 3) (ht : t ≤ 96) (hv : v ≤ 96) {k : Int32 → Mem → Option (Int32 × Mem)} {F : Nat} :
    L_X2_nextChange_6 (nI t) q3 q4 k (F + 1) (nI v) (nI l) W = L_X2_nextChange_6 (nI t) q3 q4 k F (nI (nc (s l) (h l) t v)) (nI (l + 1)) W := by
  have ho := o.2.2 l hl
  have hN := o.2.1
  have z : ∀ a, a < 2 ^ 31 → (nI a ≤ 0) = (a = 0) := fun a ha => by
    rw [show (0 : Int32) = nI 0 from rfl, nI_lek ha (by decide)]
    exact propext ⟨by omega, by omega⟩
  rw [L_X2_nextChange_6, if_neg (by rw [show (3 : Int32) = nI 3 from rfl, nI_lek (by omega) (by omega)]; omega)]
  simp only [inb_nI hl (by decide), gd_t, ix_nI (show l < 2 ^ 31 by omega), (g l hl).1, (g l hl).2, nI_add, nI_lek (show s l < 2 ^ 31 by omega) (show t < 2 ^ 31 by omega), nI_lek (show s l + h l < 2 ^ 31 by omega) (show t < 2 ^ 31 by omega), nI_p1, lt_m, z (h l) (by omega), imin_n (show v < 2 ^ 31 by omega) (show s l < 2 ^ 31 by omega), imin_n (show v < 2 ^ 31 by omega) (show s l + h l < 2 ^ 31 by omega), jn_m]
  unfold nc
  by_cases h0 : h l = 0
  · simp only [if_pos h0]
    split <;> (try split) <;> rfl
  · simp only [if_neg h0]
    by_cases h1 : t < s l
    · rw [if_neg (by omega), if_pos h1]
    · rw [if_pos (by omega), if_neg h1]
      by_cases h2 : t < s l + h l
      · rw [if_neg (by omega), if_pos h2]
      · rw [if_pos (by omega), if_neg h2]
theorem next_e {W : Mem} {q3 q4 N : Nat} {s h : Nat → Nat} (g : SH W q3 q4 s h) (o : RO N s h) {t : Nat} (ht : t ≤ 96) : F_X2_nextChange (nI t) (nI N) q3 q4 W = some (nI (nxt N s h t), W) := by
  have hN := o.2.1
  have a0 := nc_le (s 0) (h 0) t N
  have a1 := nc_le (s 1) (h 1) t (nc (s 0) (h 0) t N)
  unfold F_X2_nextChange nxt
  rw [show (300 : Nat) = 296 + 1 + 1 + 1 + 1 from rfl, show L_X2_nextChange_6 (nI t) q3 q4 (fun x9 w8 => some (x9, w8)) (296 + 1 + 1 + 1 + 1) (nI N) 0 W = L_X2_nextChange_6 (nI t) q3 q4 (fun x9 w8 => some (x9, w8)) (296 + 1 + 1 + 1 + 1) (nI N) (nI 0) W by rw [z0], nch_step g o (by decide) ht (by omega), nch_step g o (by decide) ht (Nat.le_trans (nc_le _ _ _ _) hN), nch_step g o (by decide) ht (Nat.le_trans (nc_le _ _ _ _) (Nat.le_trans (nc_le _ _ _ _) hN)), L_X2_nextChange_6, if_pos (by decide)]
theorem nc_gt {s h t v : Nat} (hv : t < v) : t < nc s h t v := by unfold nc; split <;> (try split) <;> (try split) <;> omega
theorem nxt_gt {N : Nat} {s h : Nat → Nat} {t : Nat} (ht : t < N) : t < nxt N s h t := nc_gt (nc_gt (nc_gt ht))
theorem nxt_le (N : Nat) (s h : Nat → Nat) (t : Nat) : nxt N s h t ≤ N := Nat.le_trans (nc_le _ _ _ _) (Nat.le_trans (nc_le _ _ _ _) (nc_le _ _ _ _))
/-- before the leg's change nothing changes -/
theorem nc_wt {s h t v x : Nat} (h1 : t ≤ x) (h2 : x < nc s h t v) : wt s h x = wt s h t := by
  unfold nc at h2
  unfold wt
  rw [Bool.eq_iff_iff]
  simp only [Bool.and_eq_true, decide_eq_true_eq]
  split at h2
  · omega
  · split at h2
    · omega
    · split at h2 <;> omega
theorem nc_cases (s h t v : Nat) (ht : t < v) : nc s h t v = v ∨ (wt s h (nc s h t v) ≠ wt s h t ∧ (nc s h t v = s ∨ nc s h t v = s + h)) := by
  unfold nc
  by_cases h0 : h = 0
  · rw [if_pos h0]; exact Or.inl rfl
  rw [if_neg h0]
  by_cases h1 : t < s
  · rw [if_pos h1]
    by_cases q : v ≤ s
    · left; omega
    · right
      rw [Nat.min_eq_right (by omega)]
      refine ⟨?_, Or.inl rfl⟩
      unfold wt
      rw [ne_eq, Bool.eq_iff_iff]
      simp only [Bool.and_eq_true, decide_eq_true_eq]
      omega
  · rw [if_neg h1]
    by_cases h2 : t < s + h
    · rw [if_pos h2]
      by_cases q : v ≤ s + h
      · left; omega
      · right
        rw [Nat.min_eq_right (by omega)]
        refine ⟨?_, Or.inr rfl⟩
        unfold wt
        rw [ne_eq, Bool.eq_iff_iff]
        simp only [Bool.and_eq_true, decide_eq_true_eq]
        omega
    · rw [if_neg h2]; exact Or.inl rfl
theorem nxt_pa {N : Nat} {s h : Nat → Nat} {t x : Nat} (h1 : t ≤ x) (h2 : x < nxt N s h t) : pa s h x = pa s h t := by
  unfold nxt at h2
  have a1 := nc_le (s 2) (h 2) t (nc (s 1) (h 1) t (nc (s 0) (h 0) t N))
  have a2 := nc_le (s 1) (h 1) t (nc (s 0) (h 0) t N)
  unfold pa
  rw [nc_wt h1 h2, nc_wt h1 (show x < nc (s 1) (h 1) t (nc (s 0) (h 0) t N) by omega), nc_wt h1 (show x < nc (s 0) (h 0) t N by omega)]
theorem pa_inj {s h : Nat → Nat} {t x : Nat} (e : pa s h x = pa s h t) : wt (s 0) (h 0) x = wt (s 0) (h 0) t ∧ wt (s 1) (h 1) x = wt (s 1) (h 1) t ∧ wt (s 2) (h 2) x = wt (s 2) (h 2) t := by
  unfold pa at e
  revert e
  cases wt (s 0) (h 0) x <;> cases wt (s 1) (h 1) x <;> cases wt (s 2) (h 2) x <;> cases wt (s 0) (h 0) t <;> cases wt (s 1) (h 1) t <;> cases wt (s 2) (h 2) t <;> decide
theorem nxt_ch {N : Nat} {s h : Nat → Nat} {t : Nat} (ht : t < N) (hx : nxt N s h t < N) : pa s h (nxt N s h t) ≠ pa s h t ∧ ∃ l, l < 3 ∧ (nxt N s h t = s l ∨ nxt N s h t = s l + h l) := by
  have b0 := nc_cases (s 0) (h 0) t N ht
  have b1 := nc_cases (s 1) (h 1) t _ (nc_gt (s := s 0) (h := h 0) ht)
  have b2 := nc_cases (s 2) (h 2) t _ (nc_gt (s := s 1) (h := h 1) (nc_gt (s := s 0) (h := h 0) ht))
  change nxt N s h t = _ ∨ (wt (s 2) (h 2) (nxt N s h t) ≠ _ ∧ (nxt N s h t = _ ∨ nxt N s h t = _)) at b2
  rcases b2 with e | ⟨e, f⟩
  · rw [← e] at b1
    rcases b1 with e1 | ⟨e1, f1⟩
    · rw [← e1] at b0
      rcases b0 with e0 | ⟨e0, f0⟩
      · omega
      · exact ⟨fun q => e0 (pa_inj q).1, 0, by decide, f0⟩
    · exact ⟨fun q => e1 (pa_inj q).2.1, 1, by decide, f1⟩
  · exact ⟨fun q => e (pa_inj q).2.2, 2, by decide, f⟩
/-- how many changes are still to come, at most -/
def be (N x t : Nat) : Nat := if t < x ∧ x < N then 1 else 0
def bs (N : Nat) (s h : Nat → Nat) (t : Nat) : Nat := be N (s 0) t + be N (s 0 + h 0) t + be N (s 1) t + be N (s 1 + h 1) t + be N (s 2) t + be N (s 2 + h 2) t
theorem be_le (N x t : Nat) : be N x t ≤ 1 := by unfold be; split <;> omega
theorem be_mono {N x t t' : Nat} (h : t ≤ t') : be N x t' ≤ be N x t := by unfold be; split <;> split <;> omega
theorem be_lt {N x t t' : Nat} (h : t < t') (hx : t' = x) (hN : t' < N) : be N x t' < be N x t := by
  unfold be
  rw [if_neg (by omega), if_pos (by omega)]
  omega
theorem bs_6 (N : Nat) (s h : Nat → Nat) (t : Nat) : bs N s h t ≤ 6 := by
  unfold bs
  have := be_le N (s 0) t
  have := be_le N (s 0 + h 0) t
  have := be_le N (s 1) t
  have := be_le N (s 1 + h 1) t
  have := be_le N (s 2) t
  have := be_le N (s 2 + h 2) t
  omega
theorem bs_lt {N : Nat} {s h : Nat → Nat} {t : Nat} (ht : t < N) (hx : nxt N s h t < N) : bs N s h (nxt N s h t) < bs N s h t := by
  obtain ⟨-, l, hl, f⟩ := nxt_ch ht hx
  have g := nxt_gt (s := s) (h := h) ht
  have m : ∀ x, be N x (nxt N s h t) ≤ be N x t := fun x => be_mono (by omega)
  have m0 := m (s 0)
  have m1 := m (s 0 + h 0)
  have m2 := m (s 1)
  have m3 := m (s 1 + h 1)
  have m4 := m (s 2)
  have m5 := m (s 2 + h 2)
  unfold bs
  have q : ∀ x, nxt N s h t = x → be N x (nxt N s h t) < be N x t := fun x e => be_lt g e hx
  have : l = 0 ∨ l = 1 ∨ l = 2 := by omega
  rcases this with rfl | rfl | rfl <;> rcases f with f | f <;> have := q _ f <;> omega
/-- the runs from t on -/
def rns (N : Nat) (s h : Nat → Nat) : Nat → Nat → List (Nat × Nat)
  | 0, _ => []
  | f + 1, t => if t < N then (t, nxt N s h t - t) :: rns N s h f (nxt N s h t) else []
