/-! THE PLAN of the reference -/
def gM (f : Nat → Int32) : Int32 := let v := if f 0 ≤ f 1 then f 1 else f 0; if v ≤ f 2 then f 2 else v
def lM (f : Nat → Int32) : Int32 := let v := if f 1 ≤ f 0 then f 1 else f 0; if f 2 ≤ v then f 2 else v
theorem greatest_e (q : Nat) (w : Mem) : F_X7_greatest q w = some (gM (w q), w) := by
  unfold F_X7_greatest gM
  simp only [jn_ite]
  generalize (if w q 0 ≤ w q 1 then w q 1 else w q 0) = v
  split <;> rfl
theorem least_e (q : Nat) (w : Mem) : F_X7_least q w = some (lM (w q), w) := by
  unfold F_X7_least lM
  simp only [jn_ite]
  generalize (if w q 1 ≤ w q 0 then w q 1 else w q 0) = v
  split <;> rfl
def bn (v n : Int32) : Int32 := if 0 ≤ v then (if v ≤ n then v else n) else 0
theorem bound_e (v n : Int32) (w : Mem) : F_X7_bound v n w = some (bn v n, w) := by
  unfold F_X7_bound bn
  split
  · split <;> rfl
  · rfl
def ct32 (N S ov x : Int32) : Int32 := if ov = 0 then x else x * N / S
theorem cts_step {a1 : Int32} {k : Mem → Option (Unit × Mem)} {N l : Nat} {w : Mem} (hl : l < 3) (hz : w 0 14 = 0 ∨ nz (w 0 13) = true) : L_X7_setPlan_45 a1 k (N + 1) (nI l) w = L_X7_setPlan_45 a1 k N (nI (l + 1)) (mst w 14 l (ct32 a1 (w 0 13) (w 0 14) (w 4 l))) := by
  rw [L_X7_setPlan_45, if_neg (by rw [show (3 : Int32) = nI 3 from rfl, nI_lek (by decide) (by omega)]; omega)]
  simp only [inb_nI hl (by decide), gd_t, lt_m, ix_nI (show l < 2 ^ 31 by omega), nI_p1]
  unfold ct32
  split
  · rfl
  · rename_i h
    rcases hz with hz | hz
    · exact absurd hz h
    · rw [hz, gd_t]
theorem cts_end {a1 : Int32} {k : Mem → Option (Unit × Mem)} {N : Nat} {w : Mem} : L_X7_setPlan_45 a1 k (N + 1) (nI 3) w = k w := by
  rw [L_X7_setPlan_45, if_pos (by decide)]
def mo32 (c i d : Int32) : Int32 := if c = 0 then 0 else if i = 0 then 0 else if i ≤ 0 then -d else d
def pmW (l : Nat) (n m : Int32) (w : Mem) : Mem :=
  let bare := (n + 2 * w 14 l - m) / 2
  let hi := bn (bare + mo32 (w 2 2) (w 3 l) (w 2 1)) n
  mst (mst (mst w 11 l (bn bare n)) 12 l hi) 13 l ((n - hi) / 2)
theorem pm_step {n m : Int32} {k : Mem → Option (Unit × Mem)} {N l : Nat} {w : Mem} (hl : l < 3) : L_X7_setPlan_109 n m k (N + 1) (nI l) w = L_X7_setPlan_109 n m k N (nI (l + 1)) (pmW l n m w) := by
  rw [L_X7_setPlan_109, if_neg (by rw [show (3 : Int32) = nI 3 from rfl, nI_lek (by decide) (by omega)]; omega)]
  simp only [inb_nI hl (by decide), gd_t, lt_m, ix_nI (show l < 2 ^ 31 by omega), nI_p1, bound_e, bd_m]
  have f2 : ∀ v : Int32, (mst w 11 l v) 2 = w 2 := fun v => mst_ne _ _ _ (by decide)
  have f3 : ∀ v : Int32, (mst w 11 l v) 3 = w 3 := fun v => mst_ne _ _ _ (by decide)
  have f14 : ∀ v : Int32, (mst w 11 l v) 14 = w 14 := fun v => mst_ne _ _ _ (by decide)
  have g : ∀ v x : Int32, (mst (mst w 11 l v) 12 l x) 12 l = x := fun v x => by rw [mst_self, upd_eq]
  simp only [f2, f3, f14, g]
  unfold jn pmW mo32
  split
  · rfl
  · split
    · rfl
    · split <;> rfl
theorem pm_end {n m : Int32} {k : Mem → Option (Unit × Mem)} {N : Nat} {w : Mem} : L_X7_setPlan_109 n m k (N + 1) (nI 3) w = k w := by
  rw [L_X7_setPlan_109, if_pos (by decide)]
def hmW (w : Mem) : Mem := mst (mst w 0 13 (gM (w 4) - lM (w 4))) 0 14 (ov32 (gM (w 4) - lM (w 4)) (w 2 0))
def cmW (w : Mem) : Mem :=
  let S := gM (w 4) - lM (w 4)
  let ov := ov32 S (w 2 0)
  mst (mst (mst (hmW w) 14 0 (ct32 (w 2 0) S ov (w 4 0))) 14 1 (ct32 (w 2 0) S ov (w 4 1))) 14 2 (ct32 (w 2 0) S ov (w 4 2))
def smW (w : Mem) : Mem :=
  let m := gM (cmW w 14) + lM (cmW w 14)
  pmW 2 (w 2 0) m (pmW 1 (w 2 0) m (pmW 0 (w 2 0) m (cmW w)))
theorem setPlan_e (w : Mem) (h0 : 0 ≤ (w 2 0).toInt) : F_X7_setPlan w = some ((), smW w) := by
  unfold F_X7_setPlan
  simp only [greatest_e, least_e, bd_m, lt_m, jn_ite, bz_ite', gd_t]
  have e13 : ∀ a b : Int32, (mst (mst w 0 13 a) 0 14 b) 0 13 = a := fun a b => rfl
  have e14 : ∀ a b : Int32, (mst (mst w 0 13 a) 0 14 b) 0 14 = b := fun a b => rfl
  have hS : (mst w 0 13 (gM (w 4) - lM (w 4))) 0 13 = gM (w 4) - lM (w 4) := rfl
  rw [hS]
  show L_X7_setPlan_45 (w 2 0) _ (299 + 1) (nI 0) (hmW w) = _
  have hz : ov32 (gM (w 4) - lM (w 4)) (w 2 0) = 0 ∨ nz (gM (w 4) - lM (w 4)) = true := by
    unfold ov32
    split
    · exact Or.inl rfl
    · rename_i h
      refine Or.inr ?_
      simp only [nz, Bool.not_eq_true', decide_eq_false_iff_not]
      intro q
      rw [q, Int32.le_iff_toInt_le] at h
      exact h h0
  rw [cts_step (by decide) hz]
  show L_X7_setPlan_45 (w 2 0) _ (298 + 1) (nI 1) _ = _
  rw [cts_step (by decide) hz]
  show L_X7_setPlan_45 (w 2 0) _ (297 + 1) (nI 2) _ = _
  rw [cts_step (by decide) hz]
  show L_X7_setPlan_45 (w 2 0) _ (296 + 1) (nI 3) _ = _
  rw [cts_end]
  show L_X7_setPlan_109 (w 2 0) (gM (cmW w 14) + lM (cmW w 14)) _ (299 + 1) (nI 0) (cmW w) = _
  rw [pm_step (by decide)]
  show L_X7_setPlan_109 (w 2 0) (gM (cmW w 14) + lM (cmW w 14)) _ (298 + 1) (nI 1) _ = _
  rw [pm_step (by decide)]
  show L_X7_setPlan_109 (w 2 0) (gM (cmW w 14) + lM (cmW w 14)) _ (297 + 1) (nI 2) _ = _
  rw [pm_step (by decide)]
  show L_X7_setPlan_109 (w 2 0) (gM (cmW w 14) + lM (cmW w 14)) _ (296 + 1) (nI 3) _ = _
  rw [pm_end]
  rfl
/-! what the plan is, in numbers -/
def cntI (N S x : Int) : Int := if N < S then (x * N).tdiv S else x
theorem cnt_mono {N S x y : Int} (hN : 0 ≤ N) (h : x ≤ y) : cntI N S x ≤ cntI N S y := by
  unfold cntI
  split
  · exact Int.tdiv_le_tdiv (by omega) (Int.mul_le_mul_of_nonneg_right h hN)
  · exact h
theorem tdiv_up {A S : Int} (hS : 0 < S) : S * A.tdiv S < A + S ∧ (0 ≤ A → S * A.tdiv S ≤ A) := by
  rcases Int.le_total 0 A with h | h
  · have h1 := Int.mul_tdiv_self_le (k := S) h
    exact ⟨by omega, fun _ => h1⟩
  · have e : A.tdiv S = -((-A).tdiv S) := by rw [Int.neg_tdiv]; omega
    have h2 : (-A).tdiv S = (-A) / S := Int.tdiv_eq_ediv_of_nonneg (by omega)
    have h3 := Int.lt_mul_ediv_self_add (x := -A) hS
    have h4 : S * A.tdiv S = -(S * (-A / S)) := by rw [e, h2, Int.mul_neg]
    refine ⟨by omega, fun h5 => ?_⟩
    have : A = 0 := by omega
    subst this
    simp
theorem tdiv_lo {A S : Int} (hS : 0 < S) : A - S < S * A.tdiv S ∧ (A ≤ 0 → A ≤ S * A.tdiv S) := by
  have h := tdiv_up (A := -A) hS
  rw [Int.neg_tdiv, Int.mul_neg] at h
  exact ⟨by omega, fun h1 => by have := h.2 (by omega); omega⟩
theorem cnt_gap {N g l : Int} (hN : 0 ≤ N) (h : l ≤ g) : cntI N (g - l) g - cntI N (g - l) l ≤ N := by
  unfold cntI
  by_cases hS : N < g - l
  · rw [if_pos hS, if_pos hS]
    have p : 0 < g - l := by omega
    have a := tdiv_up (A := g * N) p
    have b := tdiv_lo (A := l * N) p
    have eS : (g - l) * (N + 1) = g * N - l * N + (g - l) := by rw [Int.mul_add, Int.mul_one, Int.sub_mul]
    have eD : (g - l) * ((g * N).tdiv (g - l) - (l * N).tdiv (g - l)) = (g - l) * (g * N).tdiv (g - l) - (g - l) * (l * N).tdiv (g - l) := Int.mul_sub _ _ _
    have key : (g - l) * ((g * N).tdiv (g - l) - (l * N).tdiv (g - l)) < (g - l) * (N + 1) := by
      rw [eS, eD]
      have hm : l * N ≤ g * N := Int.mul_le_mul_of_nonneg_right h hN
      rcases Int.lt_or_le (g * N) 0 with q | q
      · have := b.2 (by omega)
        omega
      · have := a.2 q
        omega
    have := Int.lt_of_mul_lt_mul_left key (by omega)
    omega
  · rw [if_neg hS, if_neg hS]
    omega
theorem cnt_bd {N S x : Int} (hN : 0 ≤ N ∧ N ≤ 96) (hx : -200 ≤ x ∧ x ≤ 200) : -19200 ≤ cntI N S x ∧ cntI N S x ≤ 19200 := by
  unfold cntI
  split
  · apply tdiv_bd
    have h1 : x * N ≤ 200 * N := Int.mul_le_mul_of_nonneg_right hx.2 hN.1
    have h2 : -200 * N ≤ x * N := Int.mul_le_mul_of_nonneg_right hx.1 hN.1
    omega
  · omega
