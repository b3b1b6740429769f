/-! the calls that only look up or note down -/
theorem wi_ne {b lo hi k : Int32} (h : wi b lo hi = 0) (hk : wi k lo hi = 1) : ¬ b = k := by
  rintro rfl
  rw [h] at hk
  exact absurd hk (by decide)
theorem rng {a c : Int32} {N : Nat} (h : ¬ wi a 0 c = 0) (hc : c.toInt = (N : Int)) : ∃ n : Nat, n ≤ N ∧ a = nI n := by
  have h1 := wi_1 h
  have e0 : (0 : Int32).toInt = 0 := by decide
  have hb : c.toInt < 2 ^ 31 := Int32.toInt_lt c
  refine ⟨a.toInt.toNat, by omega, i_ext ?_⟩
  rw [nI_toInt (by omega)]
  omega
theorem sim_state : S2 Rel F_X6_state F_X7_state := by
  intro a b wC wM h
  unfold F_X6_state F_X7_state
  simp only [isLeg_e, isLeg7_e, in_e, bd_m]
  by_cases ha : wi a 0 2 = 0
  · rw [if_pos ha, if_pos ha]; exact S_bad h
  rw [if_neg ha, if_neg ha]
  have hl := leg3 ha
  have hv := h.2.1 (ix a) (ixL hl)
  simp only [F_X7_stateBy, inbL hl, gd_t]
  by_cases hb : wi b 0 3 = 0
  · rw [if_pos hb, if_neg (wi_ne hb (by decide)), if_neg (wi_ne hb (by decide)), if_neg (wi_ne hb (by decide)), if_neg (wi_ne hb (by decide))]
    exact S_bad h
  rw [if_neg hb]
  obtain ⟨n, hn, rfl⟩ := rng (N := 3) hb (by decide)
  match n, hn with
  | 0, _ => exact ⟨wC 4 (ix a), wC, wM, rfl, by rw [hv.2.1.1]; rfl, h⟩
  | 1, _ => exact ⟨wC 3 (ix a), wC, wM, rfl, by rw [hv.1.1]; rfl, h⟩
  | 2, _ => exact ⟨wC 5 (ix a), wC, wM, rfl, by rw [hv.2.2.1.1]; rfl, h⟩
  | 3, _ => exact ⟨wC 6 (ix a), wC, wM, rfl, by rw [hv.2.2.2.1]; rfl, h⟩
  | q + 4, hq => exact absurd hq (by omega)
theorem sim_clear : S0 Rel F_X6_clear F_X7_clear := by
  intro wC wM h
  obtain ⟨t, -, e1, e2, -⟩ := h.2.2.2.2.2.1
  refine ⟨wC 41 2, mst wC 41 2 0, mst wM 0 32 0, rfl, ?_, h.1, h.2.1, h.2.2.1, h.2.2.2.1, h.2.2.2.2.1, ⟨0, by decide, rfl, rfl, fun k hk => absurd hk (Nat.not_lt_zero _)⟩, h.2.2.2.2.2.2.1, h.2.2.2.2.2.2.2⟩
  rw [e1, ← e2]; rfl
theorem inb_nI {k n : Nat} (h : k < n) (hn : n < 2 ^ 31) : inb (nI k) n = true := by
  simp only [inb, nI_clamp (show k < 2 ^ 31 by omega), Bool.and_eq_true, Bool.not_eq_true', decide_eq_false_iff_not]
  exact ⟨nI_pos (by omega), by omega⟩
theorem ix_nI {k : Nat} (h : k < 2 ^ 31) : ix (nI k) = k := nI_clamp h
theorem nI_p1 (n : Nat) : nI n + 1 = nI (n + 1) := (nI_succ n).symm
theorem nI_inj {a b : Nat} (ha : a < 2 ^ 31) (hb : b < 2 ^ 31) (h : nI a = nI b) : a = b := by
  have h1 := nI_toInt ha
  rw [h, nI_toInt hb] at h1
  omega
theorem nI_eqk {a k : Nat} (ha : a < 2 ^ 31) (hk : k < 2 ^ 31) : (nI a = nI k) = (a = k) := propext ⟨nI_inj ha hk, fun h => by rw [h]⟩
theorem nI_ltk {a k : Nat} (ha : a < 2 ^ 31) (hk : k < 2 ^ 31) : (nI a < nI k) = (a < k) := by
  rw [Int32.lt_iff_toInt_lt, nI_toInt ha, nI_toInt hk]
  exact propext ⟨fun h => by omega, fun h => by omega⟩
theorem nI_lek {a k : Nat} (ha : a < 2 ^ 31) (hk : k < 2 ^ 31) : (nI a ≤ nI k) = (a ≤ k) := by
  rw [Int32.le_iff_toInt_le, nI_toInt ha, nI_toInt hk]
  exact propext ⟨fun h => by omega, fun h => by omega⟩
theorem RT.add {n m : Int32} {c a : Nat → Int32} {t : Nat} (ht : t < 120) (en : n = nI t) (em : m = nI t) (hk : ∀ k, k < t → c k = a k) (v : Int32) : RT (n + 1) (upd c t v) (m + 1) (upd a t v) := by
  refine ⟨t + 1, by omega, by rw [en, nI_p1], by rw [em, nI_p1], fun k hk' => ?_⟩
  simp only [upd]
  split
  · rfl
  · exact hk k (by omega)
theorem sim_type : S1 Rel F_X6_type F_X7_type := by
  intro a wC wM h
  obtain ⟨t, ht, e1, e2, hk⟩ := h.2.2.2.2.2.1
  unfold F_X6_type F_X7_type
  simp only [within_e, in_e, bd_m]
  by_cases ha : wi a 0 127 = 0
  · rw [if_pos ha, if_pos ha]; exact S_bad h
  rw [if_neg ha, if_neg ha]
  rcases Nat.lt_or_ge t 120 with hlt | hge
  · have l1 : nI t < (120 : Int32) := by rw [show (120 : Int32) = nI 120 from rfl, nI_ltk (by omega) (by decide)]; exact hlt
    have l2 : ¬ (120 : Int32) ≤ nI t := by rw [show (120 : Int32) = nI 120 from rfl, nI_lek (by decide) (by omega)]; omega
    have l3 : ¬ nI t = (120 : Int32) := by rw [show (120 : Int32) = nI 120 from rfl, nI_eqk (by omega) (by decide)]; omega
    simp only [F_X5_append, e1, e2, if_pos l1, if_neg l2, if_neg l3, inb_nI hlt (by decide), gd_t, lt_m, bd_m, ix_nI (show t < 2 ^ 31 by omega)]
    refine ⟨nI t + 1, mst (mst wC 42 t a) 41 2 (nI t + 1), mst (mst wM 21 t a) 0 32 (nI t + 1), ?_, ?_, h.1, h.2.1, h.2.2.1, h.2.2.2.1, h.2.2.2.2.1, ?_, h.2.2.2.2.2.2.1, h.2.2.2.2.2.2.2⟩
    · have q : (mst wC 42 t a) 41 2 = nI t := e1
      rw [q]; rfl
    · have q : (mst wM 21 t a) 0 32 = nI t := e2
      rw [q]; rfl
    · exact RT.add hlt rfl rfl hk a
  · have : t = 120 := by omega
    subst this
    rw [e1, e2, if_neg (by decide), if_pos (by decide)]
    exact S_full h
/-! arithmetic: what an int is as a number -/
theorem i_lit {a : Int32} {x : Int} (h : a.toInt = x := by decide) : a.toInt = x := h
theorem i_add {a b : Int32} {x y : Int} (ha : a.toInt = x) (hb : b.toInt = y) (h : -2147483648 ≤ x + y ∧ x + y ≤ 2147483647) : (a + b).toInt = x + y := by
  rw [Int32.toInt_add, ha, hb]
  apply Int.bmod_eq_of_le <;> omega
theorem i_sub {a b : Int32} {x y : Int} (ha : a.toInt = x) (hb : b.toInt = y) (h : -2147483648 ≤ x - y ∧ x - y ≤ 2147483647) : (a - b).toInt = x - y := by
  rw [Int32.toInt_sub, ha, hb]
  apply Int.bmod_eq_of_le <;> omega
theorem i_mul {a b : Int32} {x y : Int} (ha : a.toInt = x) (hb : b.toInt = y) (h : -2147483648 ≤ x * y ∧ x * y ≤ 2147483647) : (a * b).toInt = x * y := by
  rw [Int32.toInt_mul, ha, hb]
  apply Int.bmod_eq_of_le <;> omega
theorem i_neg {a : Int32} {x : Int} (ha : a.toInt = x) (h : -2147483647 ≤ x) : (-a).toInt = -x := by
  have hl : a.toInt < 2 ^ 31 := Int32.toInt_lt a
  rw [Int32.toInt_neg, ha]
  apply Int.bmod_eq_of_le <;> omega
theorem tdiv_bd {x y : Int} (B : Int) (h : -B ≤ x ∧ x ≤ B) : -B ≤ x.tdiv y ∧ x.tdiv y ≤ B := by
  have h1 : (x.tdiv y).natAbs ≤ x.natAbs := by
    rw [Int.natAbs_tdiv]
    exact Nat.div_le_self _ _
  omega
theorem i_div {a b : Int32} {x y : Int} (ha : a.toInt = x) (hb : b.toInt = y) (h : -2147483647 ≤ x ∧ x ≤ 2147483647) : (a / b).toInt = x.tdiv y := by
  have := tdiv_bd (y := y) 2147483647 h
  rw [Int32.toInt_div, ha, hb]
  apply Int.bmod_eq_of_le <;> omega
theorem i_lt {a b : Int32} {x y : Int} (ha : a.toInt = x) (hb : b.toInt = y) : (a < b) = (x < y) := by rw [Int32.lt_iff_toInt_lt, ha, hb]
theorem i_le {a b : Int32} {x y : Int} (ha : a.toInt = x) (hb : b.toInt = y) : (a ≤ b) = (x ≤ y) := by rw [Int32.le_iff_toInt_le, ha, hb]
theorem i_eq {a b : Int32} {x y : Int} (ha : a.toInt = x) (hb : b.toInt = y) : (a = b) = (x = y) := propext ⟨fun h => by rw [← ha, ← hb, h], fun h => i_ext (by rw [ha, hb, h])⟩
theorem i_nI {n : Nat} (h : n < 2 ^ 31 := by omega) : (nI n).toInt = (n : Int) := nI_toInt h
theorem nI_sub1 {n : Nat} (h : n < 1000000) : (nI n - 1).toInt = (n : Int) - 1 := i_sub (i_nI (by omega)) (i_lit) (by omega)
theorem nI_m4 {n : Nat} (h : n < 1000000) : nI n * 4 = nI (4 * n) := i_ext (by rw [i_mul (x := n) (y := 4) (i_nI (by omega)) (i_lit) (by omega), i_nI (by omega)]; omega)
theorem wi_t {a b c : Int32} (h : b.toInt ≤ a.toInt ∧ a.toInt ≤ c.toInt) : wi a b c = 1 := by
  unfold wi
  rw [if_neg (by rw [Int32.lt_iff_toInt_lt]; omega), if_neg (by rw [Int32.lt_iff_toInt_lt]; omega)]
theorem wi_f {a b c : Int32} (h : ¬ (b.toInt ≤ a.toInt ∧ a.toInt ≤ c.toInt)) : wi a b c = 0 := by
  by_cases q : wi a b c = 0
  · exact q
  · exact absurd (wi_1 q) h
/-! tables -/
theorem isFull_f {w : Mem} {t n m : Nat} (hn : w t 2 = nI n) (hm : w t 0 = nI m) (h : n < m) (hb : m ≤ 1000) : F_X4_isFull t w = some (0, w) := by
  unfold F_X4_isFull
  rw [hn, hm, if_pos (by rw [nI_ltk (by omega) (by omega)]; exact h)]
theorem isFull_t {w : Mem} {t n m : Nat} (hn : w t 2 = nI n) (hm : w t 0 = nI m) (h : m ≤ n) (hb : n ≤ 1000) : F_X4_isFull t w = some (1, w) := by
  unfold F_X4_isFull
  rw [hn, hm, if_neg (by rw [nI_ltk (by omega) (by omega)]; omega)]
theorem cellOr_in {w : Mem} {t n m k j : Nat} (hn : w t 2 = nI n) (hnm : n ≤ m) (hm : m ≤ 12) (hL : lnC (t + 1) = 4 * m) (hk : k < n) (hj : j < 4) (d : Int32) : F_X4_cellOr t d (nI k) (nI j) w = some (w (t + 1) (4 * k + j), w) := by
  unfold F_X4_cellOr
  have e0 : (0 : Int32).toInt = 0 := by decide
  have e3 : (3 : Int32).toInt = 3 := by decide
  have h1 : wi (nI k) 0 (w t 2 - 1) = 1 := wi_t (by rw [hn, nI_sub1 (by omega), i_nI (by omega), e0]; omega)
  have h2 : wi (nI j) 0 3 = 1 := wi_t (by rw [i_nI (by omega), e0, e3]; omega)
  simp only [within_e, bd_m, h1, h2, if_neg (show ¬ (1 : Int32) = 0 by decide), nI_m4 (show k < 1000000 by omega), nI_add, hL, inb_nI (show 4 * k + j < 4 * m by omega) (by omega), gd_t, ix_nI (show 4 * k + j < 2 ^ 31 by omega)]
theorem cellOr_out {w : Mem} {t n : Nat} {r c : Int32} (hn : w t 2 = nI n) (hb : n ≤ 1000) (h : r.toInt < 0 ∨ (n : Int) ≤ r.toInt) (d : Int32) : F_X4_cellOr t d r c w = some (d, w) := by
  unfold F_X4_cellOr
  have e0 : (0 : Int32).toInt = 0 := by decide
  have h1 : wi r 0 (w t 2 - 1) = 0 := wi_f (by rw [hn, nI_sub1 (by omega), e0]; omega)
  simp only [within_e, bd_m, h1, if_pos]
def addW (w : Mem) (t n : Nat) (a b c d : Int32) : Mem := mst (mst (mst (mst (mst w (t + 1) (4 * n) a) (t + 1) (4 * n + 1) b) (t + 1) (4 * n + 2) c) (t + 1) (4 * n + 3) d) t 2 (nI (n + 1))
theorem add_in {w : Mem} {t n m : Nat} (hn : w t 2 = nI n) (hmo : w t 0 = nI m) (hnm : n < m) (hm : m ≤ 12) (hL : lnC (t + 1) = 4 * m) (a b c d : Int32) : F_X4_add t a b c d w = some ((), addW w t n a b c d) := by
  unfold F_X4_add
  have e1 : (nI (4 * n) + 1) = nI (4 * n + 1) := nI_p1 _
  have e2 : (nI (4 * n) + 2) = nI (4 * n + 2) := nI_pl _ 2
  have e3 : (nI (4 * n) + 3) = nI (4 * n + 3) := nI_pl _ 3
  have x : ∀ j, j < 4 → ix (nI (4 * n + j)) = 4 * n + j := fun j hj => ix_nI (by omega)
  have y : ∀ j, j < 4 → inb (nI (4 * n + j)) (4 * m) = true := fun j hj => inb_nI (by omega) (by omega)
  have x0 := x 0 (by decide)
  have y0 := y 0 (by decide)
  simp only [Nat.add_zero] at x0 y0
  simp only [isFull_f hn hmo hnm (by omega), bd_m, if_pos, hn, nI_m4 (show n < 1000000 by omega), lt_m, hL, e1, e2, e3, x0, y0, x 1 (by decide), x 2 (by decide), x 3 (by decide), y 1 (by decide), y 2 (by decide), y 3 (by decide), gd_t]
  have q : (mst (mst (mst (mst w (t + 1) (4 * n) a) (t + 1) (4 * n + 1) b) (t + 1) (4 * n + 2) c) (t + 1) (4 * n + 3) d) t 2 = nI n := by simp [mst, hn]
  rw [q, nI_p1]
  rfl
theorem add_full {w : Mem} {t n m : Nat} (hn : w t 2 = nI n) (hmo : w t 0 = nI m) (hnm : m ≤ n) (hb : n ≤ 1000) (a b c d : Int32) : F_X4_add t a b c d w = some ((), w) := by
  unfold F_X4_add
  simp only [isFull_t hn hmo hnm hb, bd_m, if_neg (show ¬ (1 : Int32) = 0 by decide)]
theorem cut0_e (w : Mem) (t : Nat) : F_X4_cutTo t 0 w = some ((), mst w t 2 0) := by
  unfold F_X4_cutTo F_X6_pulledWithin
  simp only [bd_m, lt_m]
  have : imax 0 (imin (w t 2) 0) = 0 := by
    unfold imax imin
    by_cases h : (0 : Int32) < w t 2
    · rw [if_pos h]; rfl
    · rw [if_neg h, if_neg h]
  rw [this]
