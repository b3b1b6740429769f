/-! draw -/
theorem l_in {x : Int64} : -(2 ^ 63) ≤ x.toInt ∧ x.toInt < 2 ^ 63 := ⟨Int64.le_toInt x, Int64.toInt_lt x⟩
theorem l_sub {a b : Int64} {x y : Int} (ha : a.toInt = x) (hb : b.toInt = y) (h : -(2 ^ 63) ≤ x - y ∧ x - y < 2 ^ 63) : (a - b).toInt = x - y := by
  rw [Int64.toInt_sub, ha, hb]
  apply Int.bmod_eq_of_le <;> omega
theorem l_add {a b : Int64} {x y : Int} (ha : a.toInt = x) (hb : b.toInt = y) (h : -(2 ^ 63) ≤ x + y ∧ x + y < 2 ^ 63) : (a + b).toInt = x + y := by
  rw [Int64.toInt_add, ha, hb]
  apply Int.bmod_eq_of_le <;> omega
theorem l_mul {a b : Int64} {x y : Int} (ha : a.toInt = x) (hb : b.toInt = y) (h : -(2 ^ 63) ≤ x * y ∧ x * y < 2 ^ 63) : (a * b).toInt = x * y := by
  rw [Int64.toInt_mul, ha, hb]
  apply Int.bmod_eq_of_le <;> omega
theorem l_div {a b : Int64} {x y : Int} (ha : a.toInt = x) (hb : b.toInt = y) (h0 : 0 ≤ x) (h : 0 < y) : (a / b).toInt = x / y := by
  have h1 := (l_in (x := a)).2
  have h2 : x / y ≤ x := Int.ediv_le_self y h0
  have h3 : 0 ≤ x / y := Int.ediv_nonneg h0 (by omega)
  rw [Int64.toInt_div, ha, hb, Int.tdiv_eq_ediv_of_nonneg h0]
  rw [ha] at h1
  apply Int.bmod_eq_of_le <;> omega
theorem l_lrm {x y : Int64} {a m : Int} (hx : x.toInt = a) (hy : y.toInt = m) (h0 : 0 ≤ a) (hm : 0 < m) : (lrm x y).toInt = a % m := by
  have h1 := (l_in (x := x)).2
  rw [hx] at h1
  have e : a / m * m = a - a % m := by have := Int.emod_add_mul_ediv a m; rw [Int.mul_comm] at this; omega
  have q0 : 0 ≤ a / m := Int.ediv_nonneg h0 (by omega)
  have q1 : 0 ≤ a / m * m := Int.mul_nonneg q0 (by omega)
  have q2 : 0 ≤ a % m := Int.emod_nonneg a (by omega)
  unfold lrm
  rw [l_sub hx (l_mul (l_div hx hy h0 hm) hy (by omega)) (by omega)]
  omega
def X31 (x : Int64) : Prop := 0 ≤ x.toInt ∧ x.toInt < 2147483648
theorem nx_b {x : Int64} (h : X31 x) : X31 (nx x) := by
  unfold X31 at h ⊢
  unfold nx
  rw [l_lrm (l_add (l_mul rfl (show (1103515245 : Int64).toInt = 1103515245 by decide) (by omega)) (show (12345 : Int64).toInt = 12345 by decide) (by omega)) (show (2147483648 : Int64).toInt = 2147483648 by decide) (by omega) (by omega)]
  omega
theorem toI_bd {x : Int64} {a : Int} (h : 0 ≤ x.toInt ∧ x.toInt ≤ a) (ha : a < 2 ^ 31) : (Int64.toInt32 x).toInt = x.toInt := by
  rw [Int64.toInt_toInt32]
  apply Int.bmod_eq_of_le <;> omega
theorem dr_bd {x y m : Int64} {k : Int32} {v u z : Int} (h : X31 x) (hy : y.toInt = v) (hv : 0 < v) (hm : m.toInt = u) (hu : 0 < u ∧ u < 1000) (hk : k.toInt = z) (hz : 0 ≤ z ∧ z < 1000) : -z ≤ (Int64.toInt32 (lrm (x / y) m) - k).toInt ∧ (Int64.toInt32 (lrm (x / y) m) - k).toInt ≤ u - 1 - z := by
  have e := l_lrm (l_div rfl hy h.1 hv) hm (Int.ediv_nonneg h.1 (by omega)) hu.1
  have q1 := Int.emod_nonneg (x.toInt / v) (show u ≠ 0 by omega)
  have q2 := Int.emod_lt_of_pos (x.toInt / v) hu.1
  have e2 := toI_bd (x := lrm (x / y) m) (a := 1000) (by rw [e]; omega) (by omega)
  rw [i_sub (e2.trans e) hk (by omega)]
  omega
theorem RV_c {a b c d a' b' c' d' : Nat → Int32} (h : RV a b c d a' b' c' d') {l : Nat} {x y : Int32} (hx : Bd 200 x) (hy : Bd 999 y) : RV (upd a l x) (upd b l y) c d (upd a' l x) (upd b' l y) c' d' := by
  intro j hj
  have q := h j hj
  by_cases e : j = l
  · subst e
    rw [upd_eq, upd_eq, upd_eq, upd_eq]
    exact ⟨⟨rfl, hx⟩, ⟨rfl, hy⟩, q.2.2.1, q.2.2.2⟩
  · rw [upd_ne e, upd_ne e, upd_ne e, upd_ne e]
    exact q
theorem Rel.dr {wC wM : Mem} (h : Rel wC wM) {x : Int64} (hx : X31 x) (l : Nat) : Rel (drC l x wC) (drM l x wM) := by
  have a := dr_bd (k := 100) hx (show (65536 : Int64).toInt = 65536 by decide) (by decide) (show (201 : Int64).toInt = 201 by decide) (by decide) (show (100 : Int32).toInt = 100 by decide) (by decide)
  have b := dr_bd (k := 200) hx (show (1024 : Int64).toInt = 1024 by decide) (by decide) (show (401 : Int64).toInt = 401 by decide) (by decide) (show (200 : Int32).toInt = 200 by decide) (by decide)
  have v := RV_c h.2.1 (l := l) (x := Int64.toInt32 (lrm (x / 65536) 201) - 100) (y := Int64.toInt32 (lrm (x / 1024) 401) - 200) ⟨by omega, by omega⟩ ⟨by omega, by omega⟩
  exact ⟨h.1, v, h.2.2⟩
theorem sim_draw : S1 Rel F_X6_draw F_X7_draw := by
  intro a wC wM h
  unfold F_X6_draw F_X7_draw
  simp only [within_e, in_e, bd_m]
  by_cases ha : wi a 0 999999 = 0
  · rw [if_pos ha, if_pos ha]; exact S_bad h
  rw [if_neg ha, if_neg ha]
  have hx : X31 (Int32.toInt64 a) := by
    have h1 := wi_1 ha
    have e0 : (0 : Int32).toInt = 0 := by decide
    have e1 : (999999 : Int32).toInt = 999999 := by decide
    unfold X31
    rw [Int32.toInt_toInt64]
    omega
  have x1 := nx_b hx
  have x2 := nx_b x1
  have x3 := nx_b x2
  rw [show (0 : Int32) = nI 0 from rfl, show (300 : Nat) = 296 + 1 + 1 + 1 + 1 from rfl, drC_step (by decide), drC_step (by decide), drC_step (by decide), drC_end, drM_step (by decide), drM_step (by decide), drM_step (by decide), drM_end]
  have g := ((h.dr x1 0).dr x2 1).dr x3 2
  rw [planNow_e, bd_m, g.setPlan, bd_m, g.plan.2.1]
  exact ⟨_, _, _, rfl, rfl, g.pl⟩
