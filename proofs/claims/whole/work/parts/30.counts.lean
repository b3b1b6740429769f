/-! how many ticks -/
theorem wt_iff {s h t : Nat} : wt s h t = true ↔ s ≤ t ∧ t < s + h := by simp [wt]
theorem up_iff {N d s h t : Nat} (hN : 12 ≤ N) (hd : d ≤ 5) (hh : h ≤ N) (hs : s = (N - h) / 2) (ht : t < N) : up N d s h t = true ↔ h = N ∨ (s + d ≤ t ∧ t < s + h) := by
  unfold up
  rw [List.all_eq_true]
  constructor
  · intro H
    have H : ∀ k, k ≤ d → s ≤ bk N t k ∧ bk N t k < s + h := fun k hk => wt_iff.mp (H k (List.mem_range.mpr (by omega)))
    have h0 := H 0 (by omega)
    have hd' := H d (by omega)
    by_cases q : d ≤ t
    · simp only [bk, Nat.zero_le, if_true, if_pos q] at h0 hd'
      omega
    · have h1 := H (t + 1) (by omega)
      simp only [bk, if_neg (show ¬ t + 1 ≤ t by omega)] at h1
      omega
  · intro H k hk
    have hk := List.mem_range.mp hk
    rw [wt_iff]
    unfold bk
    split <;> omega
theorem lo_iff {N d s h t : Nat} (hN : 12 ≤ N) (hd : d ≤ 5) (hh : h ≤ N) (hs : s = (N - h) / 2) (ht : t < N) : lo N d s h t = true ↔ h = 0 ∨ s + h + d ≤ t ∨ (t < s ∧ s + h + d ≤ t + N) := by
  unfold lo
  rw [List.all_eq_true]
  constructor
  · intro H
    have H : ∀ k, k ≤ d → ¬ (s ≤ bk N t k ∧ bk N t k < s + h) := fun k hk => by
      have := H k (List.mem_range.mpr (by omega))
      rw [Bool.not_eq_true'] at this
      intro q
      rw [wt_iff.mpr q] at this
      exact absurd this (by decide)
    by_cases z : h = 0
    · exact Or.inl z
    refine Or.inr ?_
    have h0 := H 0 (by omega)
    simp only [bk, Nat.zero_le, if_true] at h0
    rcases Nat.lt_or_ge t s with q | q
    · refine Or.inr ⟨q, ?_⟩
      rcases Nat.lt_or_ge (t + N) (s + h + d) with z1 | z1
      · have hk := H (t + N - (s + h - 1)) (by omega)
        simp only [bk, if_neg (show ¬ t + N - (s + h - 1) ≤ t by omega)] at hk
        omega
      · exact z1
    · refine Or.inl ?_
      rcases Nat.lt_or_ge t (s + h + d) with z1 | z1
      · have hk := H (t - (s + h - 1)) (by omega)
        simp only [bk, if_pos (show t - (s + h - 1) ≤ t by omega)] at hk
        omega
      · exact z1
  · intro H k hk
    have hk := List.mem_range.mp hk
    rw [Bool.not_eq_true']
    cases q : wt s h (bk N t k)
    · rfl
    · rw [wt_iff] at q
      unfold bk at q
      split at q <;> omega
/-- how many of the first n numbers lie in a stretch -/
theorem cI (a b : Nat) : ∀ n, (List.range n).countP (fun t => decide (a ≤ t ∧ t < b)) = min b n - a
  | 0 => by simp
  | n + 1 => by
    rw [List.range_succ, List.countP_append, cI a b n]
    simp only [List.countP_cons, List.countP_nil]
    by_cases q : a ≤ n ∧ n < b
    · simp only [q, decide_true, if_true, and_self]; omega
    · simp only [q, decide_false, Bool.false_eq_true, if_false]; omega
theorem cC {p q : Nat → Bool} {n : Nat} (h : ∀ t, t < n → p t = q t) : (List.range n).countP p = (List.range n).countP q := by
  apply List.countP_congr
  intro t ht
  rw [h t (List.mem_range.mp ht)]
theorem cOr {p q : Nat → Bool} (hd : ∀ t, ¬ (p t = true ∧ q t = true)) : ∀ n, (List.range n).countP (fun t => p t || q t) = (List.range n).countP p + (List.range n).countP q
  | 0 => by simp
  | n + 1 => by
    rw [List.range_succ, List.countP_append, List.countP_append, List.countP_append, cOr hd n]
    simp only [List.countP_cons, List.countP_nil]
    cases hp : p n
    · cases hq : q n <;> simp <;> omega
    · cases hq : q n
      · simp; omega
      · exact absurd ⟨hp, hq⟩ (hd n)
theorem cNot (p : Nat → Bool) : ∀ n, (List.range n).countP (fun t => !(p t)) = n - (List.range n).countP p
  | 0 => by simp
  | n + 1 => by
    have hl : (List.range n).countP p ≤ n := by simpa using List.countP_le_length (p := p) (l := List.range n)
    rw [List.range_succ, List.countP_append, List.countP_append, cNot p n]
    simp only [List.countP_cons, List.countP_nil]
    cases p n <;> simp <;> omega
def tOn (N d k : Nat) : Nat := if N ≤ k then N else k - d
theorem cUp {N d s h : Nat} (hN : 12 ≤ N) (hd : d ≤ 5) (hh : h ≤ N) (hs : s = (N - h) / 2) : (List.range N).countP (up N d s h) = tOn N d h := by
  unfold tOn
  by_cases q : h = N
  · rw [cC (q := fun t => decide (0 ≤ t ∧ t < N)) (fun t ht => ?_), cI, if_pos (by omega)]
    · omega
    · rw [(up_iff hN hd hh hs ht).mpr (Or.inl q)]; simp [ht]
  · rw [cC (q := fun t => decide (s + d ≤ t ∧ t < s + h)) (fun t ht => ?_), cI, if_neg (by omega)]
    · omega
    · rw [Bool.eq_iff_iff, up_iff hN hd hh hs ht, decide_eq_true_iff]; omega
theorem cLo {N d s h : Nat} (hN : 12 ≤ N) (hd : d ≤ 5) (hh : h ≤ N) (hs : s = (N - h) / 2) : (List.range N).countP (lo N d s h) = tOn N d (N - h) := by
  unfold tOn
  by_cases q : h = 0
  · rw [cC (q := fun t => decide (0 ≤ t ∧ t < N)) (fun t ht => ?_), cI, if_pos (by omega)]
    · omega
    · rw [(lo_iff hN hd hh hs ht).mpr (Or.inl q)]; simp [ht]
  · rw [cC (q := fun t => (decide (s + h + d ≤ t ∧ t < N) || decide (s + h + d - N ≤ t ∧ t < s))) (fun t ht => ?_), cOr (fun t => by simp only [decide_eq_true_eq]; omega), cI, cI, if_neg (by omega)]
    · omega
    · rw [Bool.eq_iff_iff, lo_iff hN hd hh hs ht, Bool.or_eq_true, decide_eq_true_iff, decide_eq_true_iff]; omega
theorem cGv {N d s h : Nat} (hN : 12 ≤ N) (hd : d ≤ 5) (hh : h ≤ N) (hs : s = (N - h) / 2) (neg : Bool) : (List.range N).countP (gv N d s h neg) = if neg = true then N - tOn N d (N - h) else tOn N d h := by
  cases neg
  · rw [if_neg (by decide), ← cUp hN hd hh hs]
    apply cC
    intro t ht
    unfold gv
    cases up N d s h t
    · cases lo N d s h t <;> rfl
    · rfl
  · rw [if_pos rfl, ← cLo hN hd hh hs, ← cNot]
    apply cC
    intro t ht
    unfold gv
    cases q : up N d s h t
    · cases lo N d s h t <;> rfl
    · rw [up_lo q]; rfl
/-! the class's numbers -/
theorem ticksOn_e {p : Nat} {W : Mem} {N k d : Nat} (e : W p 0 = nI N) (hN : N ≤ 96) (hk : k ≤ 96) (hd : d ≤ 5) : F_X1_ticksOn p (nI k) (nI d) W = some (nI (tOn N d k), W) := by
  unfold F_X1_ticksOn tOn
  simp only [e, nI_ltk (show k < 2 ^ 31 by omega) (show N < 2 ^ 31 by omega)]
  by_cases q : k < N
  · rw [if_pos q, if_neg (by omega)]
    congr 2
    have e0 : (0 : Int32).toInt = 0 := by decide
    exact i_ext (by rw [imax_i, e0, i_sub (i_nI (by omega)) (i_nI (by omega)) (by omega), i_nI (by omega)]; omega)
  · rw [if_neg q, if_pos (by omega)]
theorem upperTicks_e {p : Nat} {W : Mem} {N d : Nat} {s h : Nat → Nat} (g : GC p W N d s h) (k0 : POK N d s h) {l : Nat} (hl : l < 3) : F_X1_upperTicks p (nI l) W = some (nI (tOn N d (h l)), W) := by
  unfold F_X1_upperTicks
  have q := k0.s_le hl
  have := k0.2.1
  have := k0.2.2.2.1
  simp only [inb_nI hl (by decide), gd_t, ix_nI (show l < 2 ^ 31 by omega), (g.2.2 l hl).1, g.2.1, ticksOn_e g.1 (by omega) (show h l ≤ 96 by omega) (show d ≤ 5 by omega), bd_m]
theorem lowerTicks_e {p : Nat} {W : Mem} {N d : Nat} {s h : Nat → Nat} (g : GC p W N d s h) (k0 : POK N d s h) {l : Nat} (hl : l < 3) : F_X1_lowerTicks p (nI l) W = some (nI (tOn N d (N - h l)), W) := by
  unfold F_X1_lowerTicks
  have q := k0.s_le hl
  have := k0.2.1
  have := k0.2.2.2.1
  have e : nI N - nI (h l) = nI (N - h l) := i_ext (by rw [i_sub (i_nI (by omega)) (i_nI (by omega)) (by omega), i_nI (by omega)]; omega)
  simp only [inb_nI hl (by decide), gd_t, ix_nI (show l < 2 ^ 31 by omega), (g.2.2 l hl).1, g.2.1]
  rw [g.1, e, ticksOn_e g.1 (by omega) (show N - h l ≤ 96 by omega) (show d ≤ 5 by omega), bd_m]
def mn (N d h : Nat) (neg : Bool) : Nat := if neg = true then N - tOn N d (N - h) else tOn N d h
theorem tOn_le (N d k : Nat) (h : k ≤ N) : tOn N d k ≤ N := by unfold tOn; split <;> omega
theorem mn_le (N d h : Nat) (neg : Bool) (hh : h ≤ N) : mn N d h neg ≤ N := by
  unfold mn
  have := tOn_le N d h hh
  split <;> omega
theorem nI_sb {a b : Nat} (h : b ≤ a) (ha : a < 1000000) : nI a - nI b = nI (a - b) := i_ext (by rw [i_sub (i_nI (by omega)) (i_nI (by omega)) (by omega), i_nI (by omega)]; omega)
theorem mean_e {p : Nat} {W : Mem} {N d : Nat} {s h : Nat → Nat} (g : GC p W N d s h) (k0 : POK N d s h) {l : Nat} (hl : l < 3) : F_X1_mean p (nI l) W = some (nI (mn N d (h l) (decide (W (p + 4) l < 0))), W) := by
  unfold F_X1_mean mn
  have q := k0.s_le hl
  have := k0.2.1
  simp only [inb_nI hl (by decide), gd_t, ix_nI (show l < 2 ^ 31 by omega), neg_b, upperTicks_e g k0 hl, lowerTicks_e g k0 hl, bd_m, g.1]
  cases decide (W (p + 4) l < 0)
  · rfl
  · rw [nI_sb (tOn_le N d _ (by omega)) (by omega)]
    rfl
theorem neither_e {p : Nat} {W : Mem} {N d : Nat} {s h : Nat → Nat} (g : GC p W N d s h) (k0 : POK N d s h) {l : Nat} (hl : l < 3) : F_X1_neitherTicks p (nI l) W = some (nI (N - tOn N d (h l) - tOn N d (N - h l)), W) := by
  unfold F_X1_neitherTicks
  have q := k0.s_le hl
  have := k0.2.1
  simp only [upperTicks_e g k0 hl, lowerTicks_e g k0 hl, bd_m, g.1]
  have a := tOn_le N d (h l) (by omega)
  have b : tOn N d (N - h l) ≤ N - tOn N d (h l) := by unfold tOn; split <;> split <;> omega
  rw [nI_sb a (by omega), nI_sb b (by omega)]
def con (N d h : Nat) : Nat := if 0 < tOn N d h ∧ tOn N d h < N then 1 else 0
theorem comes_e {p : Nat} {W : Mem} {N d : Nat} {s h : Nat → Nat} (g : GC p W N d s h) (k0 : POK N d s h) {l : Nat} (hl : l < 3) : F_X1_timesUpperComesOn p (nI l) W = some (nI (con N d (h l)), W) := by
  unfold F_X1_timesUpperComesOn con
  have q := k0.s_le hl
  have := k0.2.1
  have a := tOn_le N d (h l) (by omega)
  have e0 : (nI (tOn N d (h l)) ≤ 0) = (tOn N d (h l) ≤ 0) := nI_lek (k := 0) (by omega) (by decide)
  simp only [upperTicks_e g k0 hl, bd_m, g.1, e0, nI_lek (show N < 2 ^ 31 by omega) (show tOn N d (h l) < 2 ^ 31 by omega)]
  by_cases q1 : tOn N d (h l) ≤ 0
  · rw [if_pos q1, if_neg (by omega)]; rfl
  · rw [if_neg q1]
    by_cases q2 : N ≤ tOn N d (h l)
    · rw [if_pos q2, if_neg (by omega)]; rfl
    · rw [if_neg q2, if_pos (by omega)]; rfl
/-! the reference's counts -/
theorem cnt_split (p : Nat → Bool) (j r : Nat) : (List.range (r + 1)).countP (fun i => p (j + i)) = (if p j = true then 1 else 0) + (List.range r).countP (fun i => p (j + 1 + i)) := by
  rw [List.range_succ_eq_map, List.countP_cons, List.countP_map]
  simp only [Nat.add_zero]
  rw [Nat.add_comm]
  congr 2
  funext i
  simp only [Function.comp, Nat.succ_eq_add_one, show j + (i + 1) = j + 1 + i by omega]
theorem b32_nI (b : Bool) : b32 b = nI (if b = true then 1 else 0) := by cases b <;> rfl
theorem mean_loop {V : Mem} {N d : Nat} {s h : Nat → Nat} (g : GM V N d s h) (k0 : POK N d s h) {l : Nat} (hl : l < 3) {k : Int32 → Mem → Option (Int32 × Mem)} :
    ∀ (r j c F : Nat), j + r = N → r < F → L_X7_meanOf_4 (nI l) k F (nI c) (nI j) V = k (nI (c + (List.range r).countP (fun i => gv N d (s l) (h l) (decide (V 3 l < 0)) (j + i)))) V := by
  intro r
  have hN := k0.2.1
  induction r with
  | zero =>
    intro j c F hj hF
    obtain ⟨F, rfl⟩ : ∃ F', F = F' + 1 := ⟨F - 1, by omega⟩
    rw [L_X7_meanOf_4, g.1, if_pos (by rw [nI_lek (by omega) (by omega)]; omega)]
    rfl
  | succ r ih =>
    intro j c F hj hF
    obtain ⟨F, rfl⟩ : ∃ F', F = F' + 1 := ⟨F - 1, by omega⟩
    rw [L_X7_meanOf_4, g.1, if_neg (by rw [nI_lek (by omega) (by omega)]; omega), gives_e g k0 hl (by omega), bd_m, b32_nI, nI_add, nI_p1, ih (j + 1) _ F (by omega) (by omega), cnt_split (gv N d (s l) (h l) (decide (V 3 l < 0))) j r, Nat.add_assoc]
theorem meanOf_e {V : Mem} {N d : Nat} {s h : Nat → Nat} (g : GM V N d s h) (k0 : POK N d s h) {l : Nat} (hl : l < 3) : F_X7_meanOf (nI l) V = some (nI (mn N d (h l) (decide (V 3 l < 0))), V) := by
  unfold F_X7_meanOf mn
  have hN := k0.2.1
  have q := k0.2.2.2.2 l hl
  have := mean_loop g k0 hl (k := fun x6 w5 => some (x6, w5)) N 0 0 300 (by omega) (by omega)
  simp only [Nat.zero_add] at this
  rw [← cGv k0.1 k0.2.2.2.1 q.1 q.2]
  exact this
