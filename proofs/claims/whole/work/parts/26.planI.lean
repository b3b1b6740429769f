/-! both plans in numbers -/
def mx3 (u : Nat → Int) : Int := max (u 0) (max (u 1) (u 2))
def mn3 (u : Nat → Int) : Int := min (u 0) (min (u 1) (u 2))
def pS (u : Nat → Int) : Int := mx3 u - mn3 u
def pM (N : Int) (u : Nat → Int) : Int := cntI N (pS u) (mx3 u) + cntI N (pS u) (mn3 u)
def pB (N : Int) (u : Nat → Int) (l : Nat) : Int := (N + 2 * cntI N (pS u) (u l) - pM N u) / 2
def pD (c : Int32) (d i : Int) : Int := if c = 0 then 0 else if i = 0 then 0 else if i ≤ 0 then -d else d
def pH (N : Int) (c : Int32) (d : Int) (u i : Nat → Int) (l : Nat) : Int := max 0 (min N (pB N u l + pD c d (i l)))
def pT (N : Int) (c : Int32) (d : Int) (u i : Nat → Int) (l : Nat) : Int := (N - pH N c d u i l) / 2
def tI (f : Nat → Int32) : Nat → Int := fun l => (f l).toInt
theorem imax_i (a b : Int32) : (imax a b).toInt = max a.toInt b.toInt := by
  unfold imax
  by_cases h : a < b
  · rw [if_pos h]; rw [Int32.lt_iff_toInt_lt] at h; omega
  · rw [if_neg h]; rw [Int32.lt_iff_toInt_lt] at h; omega
theorem imin_i (a b : Int32) : (imin a b).toInt = min a.toInt b.toInt := by
  unfold imin
  by_cases h : b < a
  · rw [if_pos h]; rw [Int32.lt_iff_toInt_lt] at h; omega
  · rw [if_neg h]; rw [Int32.lt_iff_toInt_lt] at h; omega
theorem gr32_i (f : Nat → Int32) : (gr32 f).toInt = mx3 (tI f) := by unfold gr32 mx3 tI; rw [imax_i, imax_i]
theorem ls32_i (f : Nat → Int32) : (ls32 f).toInt = mn3 (tI f) := by unfold ls32 mn3 tI; rw [imin_i, imin_i]
theorem ite_i {c : Prop} [Decidable c] {a b : Int32} : (if c then a else b).toInt = if c then a.toInt else b.toInt := by split <;> rfl
theorem gM_i (f : Nat → Int32) : (gM f).toInt = mx3 (tI f) := by
  unfold gM mx3 tI
  simp only [ite_i, Int32.le_iff_toInt_le]
  omega
theorem lM_i (f : Nat → Int32) : (lM f).toInt = mn3 (tI f) := by
  unfold lM mn3 tI
  simp only [ite_i, Int32.le_iff_toInt_le]
  omega
theorem mx3_mem (u : Nat → Int) : mx3 u = u 0 ∨ mx3 u = u 1 ∨ mx3 u = u 2 := by unfold mx3; omega
theorem mn3_mem (u : Nat → Int) : mn3 u = u 0 ∨ mn3 u = u 1 ∨ mn3 u = u 2 := by unfold mn3; omega
theorem mx3_ge (u : Nat → Int) {l : Nat} (h : l < 3) : u l ≤ mx3 u := by
  unfold mx3
  rcases (show l = 0 ∨ l = 1 ∨ l = 2 by omega) with rfl | rfl | rfl <;> omega
theorem mn3_le (u : Nat → Int) {l : Nat} (h : l < 3) : mn3 u ≤ u l := by
  unfold mn3
  rcases (show l = 0 ∨ l = 1 ∨ l = 2 by omega) with rfl | rfl | rfl <;> omega
def UB (u : Nat → Int) : Prop := ∀ l, l < 3 → -200 ≤ u l ∧ u l ≤ 200
theorem UB.mx {u : Nat → Int} (h : UB u) : -200 ≤ mx3 u ∧ mx3 u ≤ 200 := by
  have := h 0 (by decide); have := h 1 (by decide); have := h 2 (by decide)
  unfold mx3; omega
theorem UB.mn {u : Nat → Int} (h : UB u) : -200 ≤ mn3 u ∧ mn3 u ≤ 200 := by
  have := h 0 (by decide); have := h 1 (by decide); have := h 2 (by decide)
  unfold mn3; omega
theorem pS_nn (u : Nat → Int) : 0 ≤ pS u := by
  have := mx3_ge u (l := 0) (by decide)
  have := mn3_le u (l := 0) (by decide)
  unfold pS; omega
theorem S_i {f : Nat → Int32} (h : UB (tI f)) : (gr32 f - ls32 f).toInt = pS (tI f) := i_sub (gr32_i f) (ls32_i f) (by have := h.mx; have := h.mn; omega)
theorem gM_e (f : Nat → Int32) : gM f = gr32 f := i_ext (by rw [gM_i, gr32_i])
theorem lM_e (f : Nat → Int32) : lM f = ls32 f := i_ext (by rw [lM_i, ls32_i])
theorem ov_0 {S N : Int32} : (ov32 S N = 0) = (S.toInt ≤ N.toInt) := by
  unfold ov32
  rw [← Int32.le_iff_toInt_le]
  apply propext
  split
  · rename_i h; exact ⟨fun _ => h, fun _ => rfl⟩
  · rename_i h; exact ⟨fun q => absurd q (by decide), fun q => absurd q h⟩
theorem dc_i {N S x : Int32} (hN : 0 ≤ N.toInt ∧ N.toInt ≤ 96) (hx : -200 ≤ x.toInt ∧ x.toInt ≤ 200) : (dc32 N S (ov32 S N) x).toInt = cntI N.toInt S.toInt x.toInt := by
  unfold dc32 cntI
  by_cases h : ov32 S N = 0
  · rw [if_pos h]
    rw [ov_0] at h
    rw [if_neg (by omega)]
  · rw [if_neg h]
    rw [ov_0] at h
    have e0 : (0 : Int32).toInt = 0 := by decide
    rw [if_neg (by rw [Int32.le_iff_toInt_le]; omega), if_pos (by omega)]
    have h1 : x.toInt * N.toInt ≤ 200 * N.toInt := Int.mul_le_mul_of_nonneg_right hx.2 hN.1
    have h2 : -200 * N.toInt ≤ x.toInt * N.toInt := Int.mul_le_mul_of_nonneg_right hx.1 hN.1
    exact i_div (i_mul rfl rfl (by omega)) rfl (by omega)
theorem ct_i {N S x : Int32} (hN : 0 ≤ N.toInt ∧ N.toInt ≤ 96) (hx : -200 ≤ x.toInt ∧ x.toInt ≤ 200) : (ct32 N S (ov32 S N) x).toInt = cntI N.toInt S.toInt x.toInt := by
  rw [← dc_i hN hx]
  unfold ct32 dc32
  by_cases h : ov32 S N = 0
  · rw [if_pos h, if_pos h]
  · rw [if_neg h, if_neg h]
    rw [ov_0] at h
    have e0 : (0 : Int32).toInt = 0 := by decide
    rw [if_neg (by rw [Int32.le_iff_toInt_le]; omega)]
theorem mx3_map {u : Nat → Int} {f : Int → Int} (hf : ∀ x y, x ≤ y → f x ≤ f y) : mx3 (fun l => f (u l)) = f (mx3 u) := by
  have h0 := hf _ _ (mx3_ge u (l := 0) (by decide))
  have h1 := hf _ _ (mx3_ge u (l := 1) (by decide))
  have h2 := hf _ _ (mx3_ge u (l := 2) (by decide))
  rcases mx3_mem u with e | e | e <;> (have e' := congrArg f e; show max (f (u 0)) (max (f (u 1)) (f (u 2))) = _; omega)
theorem mn3_map {u : Nat → Int} {f : Int → Int} (hf : ∀ x y, x ≤ y → f x ≤ f y) : mn3 (fun l => f (u l)) = f (mn3 u) := by
  have h0 := hf _ _ (mn3_le u (l := 0) (by decide))
  have h1 := hf _ _ (mn3_le u (l := 1) (by decide))
  have h2 := hf _ _ (mn3_le u (l := 2) (by decide))
  rcases mn3_mem u with e | e | e <;> (have e' := congrArg f e; show min (f (u 0)) (min (f (u 1)) (f (u 2))) = _; omega)
theorem pB_num {N : Int} {u : Nat → Int} (hN : 0 ≤ N) {l : Nat} (hl : l < 3) : 0 ≤ N + 2 * cntI N (pS u) (u l) - pM N u ∧ N + 2 * cntI N (pS u) (u l) - pM N u ≤ 2 * N := by
  have a := cnt_mono (S := pS u) hN (mx3_ge u hl)
  have b := cnt_mono (S := pS u) hN (mn3_le u hl)
  have g : cntI N (pS u) (mx3 u) - cntI N (pS u) (mn3 u) ≤ N := cnt_gap hN (by have := pS_nn u; unfold pS at this; omega)
  unfold pM
  omega
theorem pB_bd {N : Int} {u : Nat → Int} (hN : 0 ≤ N) {l : Nat} (hl : l < 3) : 0 ≤ pB N u l ∧ pB N u l ≤ N := by
  have := pB_num (u := u) hN hl
  unfold pB
  omega
/-- the number whose half the bare HIGH is, as an int of either side -/
theorem bare_i {n m x : Int32} {N : Int} {u : Nat → Int} {l : Nat} (hl : l < 3) (hu : UB u) (hN : 0 ≤ N ∧ N ≤ 96) (en : n.toInt = N) (em : m.toInt = pM N u) (ex : x.toInt = cntI N (pS u) (u l)) : ((n + 2 * x - m) / 2).toInt = pB N u l := by
  have b := cnt_bd (S := pS u) hN (hu l hl)
  have g := cnt_bd (S := pS u) hN hu.mx
  have k := cnt_bd (S := pS u) hN hu.mn
  have q := pB_num (u := u) hN.1 hl
  have hM : pM N u = cntI N (pS u) (mx3 u) + cntI N (pS u) (mn3 u) := rfl
  have e2 : (2 : Int32).toInt = 2 := by decide
  have h1 : (n + 2 * x - m).toInt = N + 2 * cntI N (pS u) (u l) - pM N u := i_sub (i_add en (i_mul e2 ex (by omega)) (by omega)) em (by omega)
  rw [i_div h1 e2 (by omega), Int.tdiv_eq_ediv_of_nonneg q.1]
  rfl
theorem pw_i (a b c : Int32) : (pw a b c).toInt = max b.toInt (min c.toInt a.toInt) := by unfold pw; rw [imax_i, imin_i]
theorem bn_i {v n : Int32} (hn : 0 ≤ n.toInt) : (bn v n).toInt = max 0 (min n.toInt v.toInt) := by
  unfold bn
  have e0 : (0 : Int32).toInt = 0 := by decide
  simp only [ite_i, Int32.le_iff_toInt_le, e0]
  omega
theorem mo_i {c i d : Int32} (hd : 0 ≤ d.toInt ∧ d.toInt ≤ 5) : (mo32 c i d).toInt = pD c d.toInt i.toInt := by
  unfold mo32 pD
  have e0 : (0 : Int32).toInt = 0 := by decide
  have en : (-d).toInt = -d.toInt := i_neg rfl (by omega)
  by_cases hc : c = 0
  · rw [if_pos hc, if_pos hc, e0]
  rw [if_neg hc, if_neg hc]
  by_cases hi : i = 0
  · rw [if_pos hi, if_pos (by rw [hi, e0]), e0]
  have hq : ¬ i.toInt = 0 := fun q => hi (i_ext (by rw [q, e0]))
  rw [if_neg hi, if_neg hq]
  by_cases hl : i ≤ 0
  · rw [if_pos hl, if_pos (by rw [Int32.le_iff_toInt_le, e0] at hl; exact hl), en]
  · rw [if_neg hl, if_neg (by rw [Int32.le_iff_toInt_le, e0] at hl; exact hl)]
theorem pD_bd {c : Int32} {d i : Int} (hd : 0 ≤ d ∧ d ≤ 5) : -5 ≤ pD c d i ∧ pD c d i ≤ 5 := by
  unfold pD
  split
  · omega
  · split
    · omega
    · split <;> omega
theorem hi_i {n d c un cur : Int32} {B : Int} (hn : 0 ≤ n.toInt ∧ n.toInt ≤ 96) (hd : 0 ≤ d.toInt ∧ d.toInt ≤ 5) (hB : un.toInt = B) (hb : 0 ≤ B ∧ B ≤ n.toInt) : (hi32 n d c un cur).toInt = max 0 (min n.toInt (B + pD c d.toInt cur.toInt)) := by
  unfold hi32
  have e0 : (0 : Int32).toInt = 0 := by decide
  have en : (-d).toInt = -d.toInt := i_neg rfl (by omega)
  unfold pD
  by_cases hc : c = 0
  · rw [if_pos hc, if_pos hc, hB]; omega
  rw [if_neg hc, if_neg hc]
  by_cases hi : cur = 0
  · rw [if_pos hi, if_pos (by rw [hi, e0]), hB]; omega
  have hq : ¬ cur.toInt = 0 := fun q => hi (i_ext (by rw [q, e0]))
  rw [if_neg hi, if_neg hq, pw_i, e0]
  by_cases hl : cur ≤ 0
  · rw [if_pos hl, if_pos (by rw [Int32.le_iff_toInt_le, e0] at hl; exact hl), i_add hB en (by omega)]
  · rw [if_neg hl, if_neg (by rw [Int32.le_iff_toInt_le, e0] at hl; exact hl), i_add hB rfl (by omega)]
theorem half_i {n h : Int32} {N K : Int} (en : n.toInt = N) (eh : h.toInt = K) (hb : 0 ≤ K ∧ K ≤ N ∧ N ≤ 96) : ((n - h) / 2).toInt = (N - K) / 2 := by
  have e2 : (2 : Int32).toInt = 2 := by decide
  rw [i_div (i_sub en eh (by omega)) e2 (by omega), Int.tdiv_eq_ediv_of_nonneg (by omega)]
