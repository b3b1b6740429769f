/-! GATES -/
theorem nI_eq0 {a : Nat} (ha : a < 2 ^ 31) : (nI a = 0) = (a = 0) := nI_eqk ha (by decide)
def b32 (b : Bool) : Int32 := if b = true then 1 else 0
def wt (s h t : Nat) : Bool := decide (s ≤ t) && decide (t < s + h)
def bk (N t k : Nat) : Nat := if k ≤ t then t - k else t + N - k
def up (N d s h t : Nat) : Bool := (List.range (d + 1)).all (fun k => wt s h (bk N t k))
def lo (N d s h t : Nat) : Bool := (List.range (d + 1)).all (fun k => !(wt s h (bk N t k)))
theorem b32_0 (b : Bool) : (b32 b = 0) = (b = false) := by cases b <;> decide
theorem b32_bz (b : Bool) : bz (b32 b) = true := by cases b <;> rfl
theorem wt32 {s h t : Nat} (hs : s ≤ 1000) (hh : h ≤ 1000) (ht : t ≤ 1000) (w : Mem) : (if nI t < nI s then some ((0 : Int32), w) else (if nI s + nI h ≤ nI t then some ((0 : Int32), w) else some ((1 : Int32), w))) = some (b32 (wt s h t), w) := by
  simp only [nI_add, nI_ltk (show t < 2 ^ 31 by omega) (show s < 2 ^ 31 by omega), nI_lek (show s + h < 2 ^ 31 by omega) (show t < 2 ^ 31 by omega)]
  unfold wt
  by_cases h1 : t < s
  · rw [if_pos h1]; simp [b32, show ¬ s ≤ t by omega]
  · rw [if_neg h1]
    by_cases h2 : s + h ≤ t
    · rw [if_pos h2]; simp [b32, show ¬ t < s + h by omega]
    · rw [if_neg h2]; simp [b32, show s ≤ t by omega, show t < s + h by omega]
theorem POK.s_le {N d : Nat} {s h : Nat → Nat} (k : POK N d s h) {l : Nat} (hl : l < 3) : s l ≤ 96 ∧ h l ≤ 96 ∧ s l + h l ≤ N ∧ (h l < N → s l + h l < N) := by
  have := k.2.2.2.2 l hl
  have := k.2.1
  omega
theorem wanted_e {p : Nat} {W : Mem} {N d : Nat} {s h : Nat → Nat} (g : GC p W N d s h) (k : POK N d s h) {l t : Nat} (hl : l < 3) (ht : t ≤ 1000) : F_X1_isWanted p (nI l) (nI t) W = some (b32 (wt (s l) (h l) t), W) := by
  unfold F_X1_isWanted
  have q := k.s_le hl
  simp only [inb_nI hl (by decide), gd_t, ix_nI (show l < 2 ^ 31 by omega), (g.2.2 l hl).1, (g.2.2 l hl).2]
  exact wt32 (by omega) (by omega) ht W
theorem wantedM_e {V : Mem} {N d : Nat} {s h : Nat → Nat} (g : GM V N d s h) (k : POK N d s h) {l t : Nat} (hl : l < 3) (ht : t ≤ 1000) : F_X7_wanted (nI l) (nI t) V = some (b32 (wt (s l) (h l) t), V) := by
  unfold F_X7_wanted
  have q := k.s_le hl
  simp only [inb_nI hl (by decide), gd_t, ix_nI (show l < 2 ^ 31 by omega), (g.2.2 l hl).1, (g.2.2 l hl).2]
  exact wt32 (by omega) (by omega) ht V
theorem bk_lt {N t k : Nat} (ht : t < N) (hk : k ≤ N) : bk N t k < N ∨ k = 0 := by unfold bk; split <;> omega
theorem bk_lt' {N t k : Nat} (ht : t < N) (hk : k ≤ N) : bk N t k < N := by unfold bk; split <;> omega
theorem behind_e {p : Nat} {W : Mem} {N d : Nat} {s h : Nat → Nat} (g : GC p W N d s h) (k0 : POK N d s h) {t k : Nat} (ht : t < N) (hk : k ≤ 5) : F_X1_tickBehindBy p (nI k) (nI t) W = some (nI (bk N t k), W) := by
  unfold F_X1_tickBehindBy bk
  have := k0.2.1
  have := k0.1
  simp only [nI_ltk (show t < 2 ^ 31 by omega) (show k < 2 ^ 31 by omega), g.1]
  by_cases q : t < k
  · rw [if_pos q, if_neg (by omega)]
    congr 2
    exact i_ext (by rw [i_add (i_sub (i_nI (by omega)) (i_nI (by omega)) (by omega)) (i_nI (by omega)) (by omega), i_nI (by omega)]; omega)
  · rw [if_neg q, if_pos (by omega)]
    congr 2
    exact i_ext (by rw [i_sub (i_nI (by omega)) (i_nI (by omega)) (by omega), i_nI (by omega)]; omega)
theorem rem_nn {a b : Nat} (ha : a < 1000000) (hb : 0 < b) (hb' : b < 1000000) : irm (nI a) (nI b) = nI (a % b) := by
  unfold irm
  have h1 : (nI a / nI b).toInt = ((a / b : Nat) : Int) := by
    rw [i_div (i_nI (by omega)) (i_nI (by omega)) (by omega), Int.tdiv_eq_ediv_of_nonneg (by omega)]
    exact (Int.natCast_ediv a b).symm
  have h2 : a / b * b ≤ a := Nat.div_mul_le_self a b
  have h3 : (nI a / nI b * nI b).toInt = ((a / b * b : Nat) : Int) := by
    rw [i_mul h1 (i_nI (by omega)) (by rw [← Int.natCast_mul]; omega), ← Int.natCast_mul]
  have h4 : a % b = a - a / b * b := by
    have := Nat.div_add_mod a b
    rw [Nat.mul_comm] at this
    omega
  refine i_ext ?_
  rw [i_sub (i_nI (by omega)) h3 (by omega), i_nI (by have := Nat.mod_lt a hb; omega), h4]
  omega
theorem behindM {N t k : Nat} (hN : 12 ≤ N ∧ N ≤ 96) (ht : t < N) (hk : k ≤ 5) : irm ((nI t - nI k) + nI N) (nI N) = nI (bk N t k) := by
  have e : (nI t - nI k) + nI N = nI (t + N - k) := i_ext (by rw [i_add (i_sub (i_nI (by omega)) (i_nI (by omega)) (by omega)) (i_nI (by omega)) (by omega), i_nI (by omega)]; omega)
  rw [e, rem_nn (by omega) (by omega) (by omega)]
  congr 1
  unfold bk
  split
  · rw [show t + N - k = (t - k) + N by omega, Nat.add_mod_right, Nat.mod_eq_of_lt (by omega)]
  · rw [Nat.mod_eq_of_lt (by omega)]
/-- the class's loop over the ticks ahead -/
theorem isOn_loop {p : Nat} {W : Mem} {N d : Nat} {s h : Nat → Nat} (g : GC p W N d s h) (k0 : POK N d s h) {l t : Nat} (hl : l < 3) (ht : t < N) (b : Bool) {k : Mem → Option (Int32 × Mem)} (hk : k W = some (1, W)) :
    ∀ (r j F : Nat), j + r = d + 1 → r < F → L_X1_isOn_14 p (nI l) (nI t) (b32 b) k F (nI j) W = some (b32 ((List.range r).all (fun i => wt (s l) (h l) (bk N t (j + i)) == b)), W) := by
  intro r
  induction r with
  | zero =>
    intro j F hj hF
    obtain ⟨F, rfl⟩ := Nat.exists_eq_add_of_lt hF
    rw [show 0 + F + 1 = F + 1 by omega, L_X1_isOn_14, g.2.1, if_pos (by rw [nI_ltk (by have := k0.2.2.2.1; omega) (by have := k0.2.2.2.1; omega)]; omega), hk]
    rfl
  | succ r ih =>
    intro j F hj hF
    have hd := k0.2.2.2.1
    have hN := k0.2.1
    obtain ⟨F, rfl⟩ : ∃ F', F = F' + 1 := ⟨F - 1, by omega⟩
    rw [L_X1_isOn_14, g.2.1, if_neg (by rw [nI_ltk (by omega) (by omega)]; omega), behind_e g k0 ht (by omega), bd_m, wanted_e g k0 hl (by have := bk_lt' ht (show j ≤ N by have := k0.1; omega); omega), bd_m]
    have er : (List.range (r + 1)).all (fun i => wt (s l) (h l) (bk N t (j + i)) == b) = ((wt (s l) (h l) (bk N t j) == b) && (List.range r).all (fun i => wt (s l) (h l) (bk N t (j + 1 + i)) == b)) := by
      rw [List.range_succ_eq_map]
      simp only [List.all_cons, List.all_map, Nat.add_zero]
      congr 2
      funext i
      simp only [Function.comp, Nat.succ_eq_add_one, show j + (i + 1) = j + 1 + i by omega]
    rw [er]
    by_cases q : wt (s l) (h l) (bk N t j) = b
    · rw [if_pos (by rw [q]), nI_p1, ih (j + 1) F (by omega) (by omega)]
      simp [q]
    · rw [if_neg (by intro z; apply q; revert z; cases wt (s l) (h l) (bk N t j) <;> cases b <;> decide)]
      have : (wt (s l) (h l) (bk N t j) == b) = false := by simp [q]
      rw [this]
      rfl
theorem isOn_up {p : Nat} {W : Mem} {N d : Nat} {s h : Nat → Nat} (g : GC p W N d s h) (k0 : POK N d s h) {l t : Nat} (hl : l < 3) (ht : t < N) : F_X1_isOn p (nI l) 0 (nI t) W = some (b32 (up N d (s l) (h l) t), W) := by
  unfold F_X1_isOn
  rw [jn_ite, if_pos rfl]
  have := isOn_loop g k0 hl ht true (k := fun w11 => some (1, w11)) rfl (d + 1) 0 300 (by omega) (by have := k0.2.2.2.1; omega)
  simp only [Nat.zero_add, beq_true] at this
  exact this
theorem isOn_lo {p : Nat} {W : Mem} {N d : Nat} {s h : Nat → Nat} (g : GC p W N d s h) (k0 : POK N d s h) {l t : Nat} (hl : l < 3) (ht : t < N) : F_X1_isOn p (nI l) 1 (nI t) W = some (b32 (lo N d (s l) (h l) t), W) := by
  unfold F_X1_isOn
  rw [jn_ite, if_neg (by decide)]
  have := isOn_loop g k0 hl ht false (k := fun w11 => some (1, w11)) rfl (d + 1) 0 300 (by omega) (by have := k0.2.2.2.1; omega)
  simp only [Nat.zero_add, beq_false] at this
  exact this
/-- the reference's count of the ticks ahead -/
def cw (N d s h t : Nat) : Nat := (List.range (d + 1)).countP (fun k => wt s h (bk N t k))
theorem ahead_loop {V : Mem} {N d : Nat} {s h : Nat → Nat} (g : GM V N d s h) (k0 : POK N d s h) {l t : Nat} (hl : l < 3) (ht : t < N) {k : Int32 → Mem → Option (Int32 × Mem)} :
    ∀ (r j c F : Nat), j + r = d + 1 → r < F → c ≤ j → L_X7_wantedAhead_5 (nI l) (nI t) k F (nI c) (nI j) V = k (nI (c + (List.range r).countP (fun i => wt (s l) (h l) (bk N t (j + i))))) V := by
  intro r
  induction r with
  | zero =>
    intro j c F hj hF hc
    obtain ⟨F, rfl⟩ : ∃ F', F = F' + 1 := ⟨F - 1, by omega⟩
    have hd := k0.2.2.2.1
    rw [L_X7_wantedAhead_5, g.2.1, if_pos (by rw [nI_ltk (by omega) (by omega)]; omega)]
    rfl
  | succ r ih =>
    intro j c F hj hF hc
    have hd := k0.2.2.2.1
    have hN := k0.2.1
    have hN' := k0.1
    obtain ⟨F, rfl⟩ : ∃ F', F = F' + 1 := ⟨F - 1, by omega⟩
    have enz : nz (nI N) = true := by
      simp only [nz, Bool.not_eq_true', decide_eq_false_iff_not]
      rw [show (0 : Int32) = nI 0 from rfl, nI_eqk (by omega) (by decide)]; omega
    rw [L_X7_wantedAhead_5, g.2.1, if_neg (by rw [nI_ltk (by omega) (by omega)]; omega), g.1, enz, gd_t, behindM ⟨hN', hN⟩ ht (by omega), wantedM_e g k0 hl (by have := bk_lt' ht (show j ≤ N by omega); omega), bd_m]
    have er : (List.range (r + 1)).countP (fun i => wt (s l) (h l) (bk N t (j + i))) = (if wt (s l) (h l) (bk N t j) = true then 1 else 0) + (List.range r).countP (fun i => wt (s l) (h l) (bk N t (j + 1 + i))) := by
      rw [List.range_succ_eq_map, List.countP_cons, List.countP_map]
      simp only [Nat.add_zero]
      rw [Nat.add_comm]
      congr 2
      funext i
      simp only [Function.comp, Nat.succ_eq_add_one, show j + (i + 1) = j + 1 + i by omega]
    rw [er]
    cases q : wt (s l) (h l) (bk N t j)
    · rw [if_pos (by decide), nI_p1, show nI c + 0 = nI c by simp, ih (j + 1) c F (by omega) (by omega) (by omega)]
      simp
    · rw [if_neg (by decide), nI_p1, nI_p1, ih (j + 1) (c + 1) F (by omega) (by omega) (by omega)]
      simp only [if_true]
      rw [show c + 1 + (List.range r).countP (fun i => wt (s l) (h l) (bk N t (j + 1 + i))) = c + (1 + (List.range r).countP (fun i => wt (s l) (h l) (bk N t (j + 1 + i)))) by omega]
theorem ahead_e {V : Mem} {N d : Nat} {s h : Nat → Nat} (g : GM V N d s h) (k0 : POK N d s h) {l t : Nat} (hl : l < 3) (ht : t < N) : F_X7_wantedAhead (nI l) (nI t) V = some (nI (cw N d (s l) (h l) t), V) := by
  unfold F_X7_wantedAhead
  have := ahead_loop g k0 hl ht (k := fun x8 w7 => some (x8, w7)) (d + 1) 0 0 300 (by omega) (by have := k0.2.2.2.1; omega) (by omega)
  simp only [Nat.zero_add] at this
  exact this
theorem cw_le (N d s h t : Nat) : cw N d s h t ≤ d + 1 := by
  unfold cw
  have := List.countP_le_length (p := fun k => wt s h (bk N t k)) (l := List.range (d + 1))
  simpa using this
theorem cw_up (N d s h t : Nat) : (cw N d s h t = d + 1) = (up N d s h t = true) := by
  apply propext
  unfold cw up
  have := List.countP_eq_length (p := fun k => wt s h (bk N t k)) (l := List.range (d + 1))
  rw [List.length_range] at this
  rw [this, List.all_eq_true]
theorem cw_lo (N d s h t : Nat) : (cw N d s h t = 0) = (lo N d s h t = true) := by
  apply propext
  unfold cw lo
  rw [List.countP_eq_zero, List.all_eq_true]
  simp
theorem up_lo {N d s h t : Nat} (h1 : up N d s h t = true) : lo N d s h t = false := by
  cases q : lo N d s h t
  · rfl
  · rw [← cw_up] at h1
    rw [← cw_lo] at q
    omega
theorem upper_e {V : Mem} {N d : Nat} {s h : Nat → Nat} (g : GM V N d s h) (k0 : POK N d s h) {l t : Nat} (hl : l < 3) (ht : t < N) : F_X7_upper (nI l) (nI t) V = some (b32 (up N d (s l) (h l) t), V) := by
  unfold F_X7_upper
  have hd := k0.2.2.2.1
  have := cw_le N d (s l) (h l) t
  rw [ahead_e g k0 hl ht, bd_m, g.2.1, nI_p1]
  simp only [nI_eqk (show cw N d (s l) (h l) t < 2 ^ 31 by omega) (show d + 1 < 2 ^ 31 by omega), cw_up]
  cases up N d (s l) (h l) t <;> rfl
theorem lower_e {V : Mem} {N d : Nat} {s h : Nat → Nat} (g : GM V N d s h) (k0 : POK N d s h) {l t : Nat} (hl : l < 3) (ht : t < N) : F_X7_lower (nI l) (nI t) V = some (b32 (lo N d (s l) (h l) t), V) := by
  unfold F_X7_lower
  have hd := k0.2.2.2.1
  have := cw_le N d (s l) (h l) t
  rw [ahead_e g k0 hl ht, bd_m]
  simp only [nI_eq0 (show cw N d (s l) (h l) t < 2 ^ 31 by omega), cw_lo]
  cases lo N d (s l) (h l) t <;> rfl
def gv (N d s h : Nat) (neg : Bool) (t : Nat) : Bool := if up N d s h t = true then true else if lo N d s h t = true then false else neg
theorem neg_b (a : Int32) : (0 ≤ a) = (decide (a < 0) = false) := by
  apply propext
  rw [decide_eq_false_iff_not, Int32.le_iff_toInt_le, Int32.lt_iff_toInt_lt]
  omega
theorem gives_e {V : Mem} {N d : Nat} {s h : Nat → Nat} (g : GM V N d s h) (k0 : POK N d s h) {l t : Nat} (hl : l < 3) (ht : t < N) : F_X7_gives (nI l) (nI t) V = some (b32 (gv N d (s l) (h l) (decide (V 3 l < 0)) t), V) := by
  unfold F_X7_gives gv
  have hd := k0.2.2.2.1
  have := cw_le N d (s l) (h l) t
  rw [ahead_e g k0 hl ht, bd_m, g.2.1, nI_p1]
  simp only [nI_eqk (show cw N d (s l) (h l) t < 2 ^ 31 by omega) (show d + 1 < 2 ^ 31 by omega), cw_up, nI_eq0 (show cw N d (s l) (h l) t < 2 ^ 31 by omega), cw_lo, inb_nI hl (by decide), gd_t, ix_nI (show l < 2 ^ 31 by omega), neg_b]
  cases up N d (s l) (h l) t
  · cases lo N d (s l) (h l) t
    · cases decide (V 3 l < 0) <;> rfl
    · rfl
  · rfl
theorem givesOne_e {p : Nat} {W : Mem} {N d : Nat} {s h : Nat → Nat} (g : GC p W N d s h) (k0 : POK N d s h) {l t : Nat} (hl : l < 3) (ht : t < N) : F_X1_givesOne p (nI l) (nI t) W = some (b32 (gv N d (s l) (h l) (decide (W (p + 4) l < 0)) t), W) := by
  unfold F_X1_givesOne gv
  rw [isOn_up g k0 hl ht, bd_m, isOn_lo g k0 hl ht, bd_m]
  simp only [inb_nI hl (by decide), gd_t, ix_nI (show l < 2 ^ 31 by omega), neg_b, b32_0]
  cases up N d (s l) (h l) t
  · cases lo N d (s l) (h l) t
    · cases decide (W (p + 4) l < 0) <;> rfl
    · rfl
  · rfl
