/-! events -/
abbrev Row := Nat × Nat × Nat × Bool
def fd (x : Row) : Nat → Int32
  | 0 => nI x.1
  | 1 => nI x.2.1
  | 2 => nI x.2.2.1
  | _ => b32 x.2.2.2
def sv (N d : Nat) (s h : Nat → Nat) (l sd t : Nat) : Bool := if sd = 0 then up N d (s l) (h l) t else lo N d (s l) (h l) t
def chg (N d : Nat) (s h : Nat → Nat) (l sd t : Nat) : Bool := sv N d s h l sd t != sv N d s h l sd (bk N t 1)
def e1 (N d : Nat) (s h : Nat → Nat) (t l sd : Nat) : List Row := if chg N d s h l sd t = true then [(t, l, sd, sv N d s h l sd t)] else []
def e6 (N d : Nat) (s h : Nat → Nat) (t : Nat) : List Row := e1 N d s h t 0 0 ++ (e1 N d s h t 0 1 ++ (e1 N d s h t 1 0 ++ (e1 N d s h t 1 1 ++ (e1 N d s h t 2 0 ++ e1 N d s h t 2 1))))
def evs (N d : Nat) (s h : Nat → Nat) : Nat → List Row
  | 0 => []
  | t + 1 => evs N d s h t ++ e6 N d s h t
theorem e1_len (N d : Nat) (s h : Nat → Nat) (t l sd : Nat) : (e1 N d s h t l sd).length = if chg N d s h l sd t = true then 1 else 0 := by
  unfold e1; split <;> rfl
theorem evs_len (N d : Nat) (s h : Nat → Nat) : ∀ T, (evs N d s h T).length = (List.range T).countP (chg N d s h 0 0) + (List.range T).countP (chg N d s h 0 1) + (List.range T).countP (chg N d s h 1 0) + (List.range T).countP (chg N d s h 1 1) + (List.range T).countP (chg N d s h 2 0) + (List.range T).countP (chg N d s h 2 1)
  | 0 => by simp [evs]
  | T + 1 => by
    simp only [evs, e6, List.length_append, evs_len N d s h T, e1_len, List.range_succ, List.countP_append, List.countP_singleton]
    omega
theorem two_pts {p : Nat → Bool} {n x y : Nat} (h : ∀ t, t < n → p t = true → t = x ∨ t = y) : (List.range n).countP p ≤ 2 := by
  have a1 := cI x (x + 1) n
  have a2 := cI y (y + 1) n
  have : ∀ m, m ≤ n → (List.range m).countP p ≤ (List.range m).countP (fun t => decide (x ≤ t ∧ t < x + 1)) + (List.range m).countP (fun t => decide (y ≤ t ∧ t < y + 1)) := by
    intro m
    induction m with
    | zero => intro _; simp
    | succ m ih =>
      intro hm
      have i := ih (by omega)
      simp only [List.range_succ, List.countP_append, List.countP_singleton, decide_eq_true_eq]
      by_cases q : p m = true
      · rcases h m (by omega) q with e | e
        · rw [if_pos q, if_pos (show x ≤ m ∧ m < x + 1 by omega)]; omega
        · rw [if_pos q, if_pos (show y ≤ m ∧ m < y + 1 by omega)]; omega
      · rw [if_neg q]; omega
  have := this n (Nat.le_refl n)
  omega
theorem chg_up {N d : Nat} {s h : Nat → Nat} (k0 : POK N d s h) {l : Nat} (hl : l < 3) : (List.range N).countP (chg N d s h l 0) ≤ 2 := by
  obtain ⟨h1, h2⟩ := k0.2.2.2.2 l hl
  have h3 := (k0.s_le hl).2.2.2
  have hN := k0.1
  apply two_pts (x := s l + d) (y := s l + h l)
  intro t ht c
  unfold chg sv at c
  rw [if_pos rfl, if_pos rfl, bne_iff_ne, ne_eq, Bool.eq_iff_iff, up_iff hN k0.2.2.2.1 h1 h2 ht, up_iff hN k0.2.2.2.1 h1 h2 (bk_lt' ht (by omega))] at c
  unfold bk at c
  split at c <;> omega
theorem chg_lo {N d : Nat} {s h : Nat → Nat} (k0 : POK N d s h) {l : Nat} (hl : l < 3) : (List.range N).countP (chg N d s h l 1) ≤ 2 := by
  obtain ⟨h1, h2⟩ := k0.2.2.2.2 l hl
  have h3 := (k0.s_le hl).2.2.2
  have hN := k0.1
  have hd := k0.2.2.2.1
  by_cases q : s l + h l + d < N
  · apply two_pts (x := s l) (y := s l + h l + d)
    intro t ht c
    unfold chg sv at c
    rw [if_neg (by decide), if_neg (by decide), bne_iff_ne, ne_eq, Bool.eq_iff_iff, lo_iff hN k0.2.2.2.1 h1 h2 ht, lo_iff hN k0.2.2.2.1 h1 h2 (bk_lt' ht (by omega))] at c
    unfold bk at c
    split at c <;> omega
  · apply two_pts (x := s l) (y := s l + h l + d - N)
    intro t ht c
    unfold chg sv at c
    rw [if_neg (by decide), if_neg (by decide), bne_iff_ne, ne_eq, Bool.eq_iff_iff, lo_iff hN k0.2.2.2.1 h1 h2 ht, lo_iff hN k0.2.2.2.1 h1 h2 (bk_lt' ht (by omega))] at c
    unfold bk at c
    split at c <;> omega
theorem cnt_le {p : Nat → Bool} {a b : Nat} (h : a ≤ b) : (List.range a).countP p ≤ (List.range b).countP p := by
  obtain ⟨c, rfl⟩ := Nat.exists_eq_add_of_le h
  rw [List.range_add, List.countP_append]
  omega
theorem evs_12 {N d : Nat} {s h : Nat → Nat} (k0 : POK N d s h) {T : Nat} (hT : T ≤ N) : (evs N d s h T).length ≤ 12 := by
  rw [evs_len]
  have a0 := cnt_le (p := chg N d s h 0 0) hT
  have a1 := cnt_le (p := chg N d s h 0 1) hT
  have a2 := cnt_le (p := chg N d s h 1 0) hT
  have a3 := cnt_le (p := chg N d s h 1 1) hT
  have a4 := cnt_le (p := chg N d s h 2 0) hT
  have a5 := cnt_le (p := chg N d s h 2 1) hT
  have b0 := chg_up k0 (show 0 < 3 by decide)
  have b1 := chg_lo k0 (show 0 < 3 by decide)
  have b2 := chg_up k0 (show 1 < 3 by decide)
  have b3 := chg_lo k0 (show 1 < 3 by decide)
  have b4 := chg_up k0 (show 2 < 3 by decide)
  have b5 := chg_lo k0 (show 2 < 3 by decide)
  omega
/-! the class's table of events -/
def CE (W0 W : Mem) (R : List Row) : Prop := (∀ i, i ≠ 30 → i ≠ 31 → W i = W0 i) ∧ W 30 0 = 12 ∧ W 30 2 = nI R.length ∧ ∀ i (hi : i < R.length) j, j < 4 → W 31 (4 * i + j) = fd R[i] j
theorem CE.add {W0 W : Mem} {R : List Row} (c : CE W0 W R) (x : Row) (h : R.length < 12) : F_X4_add 30 (fd x 0) (fd x 1) (fd x 2) (fd x 3) W = some ((), addW W 30 R.length (fd x 0) (fd x 1) (fd x 2) (fd x 3)) ∧ CE W0 (addW W 30 R.length (fd x 0) (fd x 1) (fd x 2) (fd x 3)) (R ++ [x]) := by
  obtain ⟨c1, c2, c3, c4⟩ := c
  refine ⟨add_in c3 (m := 12) c2 h (by decide) rfl _ _ _ _, ?_, ?_, ?_, ?_⟩
  · intro i h1 h2
    rw [← c1 i h1 h2]
    unfold addW mst
    simp [h1, h2]
  · rw [← c2]; simp [addW, mst, upd]
  · simp [addW, mst, upd]
  · intro i hi j hj
    rw [List.length_append, List.length_singleton] at hi
    have e : addW W 30 R.length (fd x 0) (fd x 1) (fd x 2) (fd x 3) 31 = upd (upd (upd (upd (W 31) (4 * R.length) (fd x 0)) (4 * R.length + 1) (fd x 1)) (4 * R.length + 2) (fd x 2)) (4 * R.length + 3) (fd x 3) := by
      simp [addW, mst]
    rw [e]
    by_cases q : i < R.length
    · rw [upd_ne (by omega), upd_ne (by omega), upd_ne (by omega), upd_ne (by omega), c4 i q j hj, List.getElem_append_left q]
    · obtain rfl : i = R.length := by omega
      rw [List.getElem_concat_length rfl]
      have : j = 0 ∨ j = 1 ∨ j = 2 ∨ j = 3 := by omega
      rcases this with rfl | rfl | rfl | rfl <;> simp [upd]
theorem GC.of30 {W0 W : Mem} {N d : Nat} {s h : Nat → Nat} (g : GC 9 W0 N d s h) {R : List Row} (c : CE W0 W R) : GC 9 W N d s h := by
  unfold GC at g ⊢
  rw [c.1 9 (by decide) (by decide), c.1 11 (by decide) (by decide), c.1 12 (by decide) (by decide)]
  exact g
theorem b32_inj (a b : Bool) : (b32 a = b32 b) = (a = b) := by cases a <;> cases b <;> decide
theorem listEvent_e {W0 W : Mem} {N d : Nat} {s h : Nat → Nat} (g : GC 9 W0 N d s h) (k0 : POK N d s h) {R : List Row} (c : CE W0 W R) {t l sd : Nat} (ht : t < N) (hl : l < 3) (hsd : sd < 2) (hlen : (R ++ e1 N d s h t l sd).length ≤ 12) :
    ∃ W', F_X1_listEvent 9 30 (nI t) (nI l) (nI sd) W = some ((), W') ∧ CE W0 W' (R ++ e1 N d s h t l sd) := by
  have g' := g.of30 c
  have hN := k0.1
  have on : ∀ {t'}, t' < N → F_X1_isOn 9 (nI l) (nI sd) (nI t') W = some (b32 (sv N d s h l sd t'), W) := by
    intro t' ht'
    have : sd = 0 ∨ sd = 1 := by omega
    rcases this with rfl | rfl
    · exact isOn_up g' k0 hl ht'
    · exact isOn_lo g' k0 hl ht'
  have hb : bk N t 1 < N := bk_lt' ht (by omega)
  have be := behind_e g' k0 (k := 1) ht (by decide)
  unfold F_X1_listEvent
  rw [on ht, bd_m, show F_X1_tickBehindBy 9 1 (nI t) W = some (nI (bk N t 1), W) from be, bd_m, on hb, bd_m]
  simp only [b32_inj]
  by_cases q : sv N d s h l sd t = sv N d s h l sd (bk N t 1)
  · rw [if_pos q]
    have : e1 N d s h t l sd = [] := by unfold e1 chg; rw [if_neg (by simp [q])]
    rw [this, List.append_nil]
    exact ⟨W, rfl, c⟩
  · rw [if_neg q]
    have e : e1 N d s h t l sd = [(t, l, sd, sv N d s h l sd t)] := by unfold e1 chg; rw [if_pos (by simp [q])]
    rw [e, List.length_append, List.length_singleton] at hlen
    obtain ⟨a1, a2⟩ := c.add (t, l, sd, sv N d s h l sd t) (by omega)
    rw [e]
    refine ⟨_, ?_, a2⟩
    rw [← a1]
    cases sv N d s h l sd t
    · rw [if_pos (by decide)]
      show bd (F_X4_add 30 (nI t) (nI l) (nI sd) 0 W) _ = F_X4_add 30 (nI t) (nI l) (nI sd) 0 W
      cases F_X4_add 30 (nI t) (nI l) (nI sd) 0 W <;> rfl
    · rw [if_neg (by decide)]
      show bd (F_X4_add 30 (nI t) (nI l) (nI sd) 1 W) _ = F_X4_add 30 (nI t) (nI l) (nI sd) 1 W
      cases F_X4_add 30 (nI t) (nI l) (nI sd) 1 W <;> rfl
theorem le_step {W0 W : Mem} {N d : Nat} {s h : Nat → Nat} (g : GC 9 W0 N d s h) (k0 : POK N d s h) {R : List Row} (c : CE W0 W R) {t l : Nat} (ht : t < N) (hl : l < 3) (hlen : (R ++ (e1 N d s h t l 0 ++ e1 N d s h t l 1)).length ≤ 12) {k : Mem → Option (Unit × Mem)} {F : Nat} :
    ∃ W', L_X1_listEvents_17 9 30 (nI t) k (F + 1) (nI l) W = L_X1_listEvents_17 9 30 (nI t) k F (nI (l + 1)) W' ∧ CE W0 W' (R ++ (e1 N d s h t l 0 ++ e1 N d s h t l 1)) := by
  simp only [List.length_append] at hlen
  obtain ⟨W1, f1, c1⟩ := listEvent_e g k0 c ht hl (sd := 0) (by decide) (by rw [List.length_append]; omega)
  obtain ⟨W2, f2, c2⟩ := listEvent_e g k0 c1 ht hl (sd := 1) (by decide) (by rw [List.length_append, List.length_append]; omega)
  refine ⟨W2, ?_, by rw [← List.append_assoc]; exact c2⟩
  rw [L_X1_listEvents_17, if_neg (by rw [show (3 : Int32) = nI 3 from rfl, nI_lek (by omega) (by omega)]; omega), show F_X1_listEvent 9 30 (nI t) (nI l) 0 W = some ((), W1) from f1, bd_m, show F_X1_listEvent 9 30 (nI t) (nI l) 1 W1 = some ((), W2) from f2, bd_m, nI_p1]
theorem le_tick {W0 W : Mem} {N d : Nat} {s h : Nat → Nat} (g : GC 9 W0 N d s h) (k0 : POK N d s h) {t : Nat} (ht : t < N) (c : CE W0 W (evs N d s h t)) {k : Mem → Option (Unit × Mem)} :
    ∃ W', L_X1_listEvents_17 9 30 (nI t) k 300 (nI 0) W = k W' ∧ CE W0 W' (evs N d s h (t + 1)) := by
  have hlen := evs_12 k0 (T := t + 1) (by omega)
  simp only [evs, e6, List.length_append] at hlen
  obtain ⟨W1, f1, c1⟩ := le_step g k0 c ht (l := 0) (by decide) (by simp only [List.length_append]; omega) (k := k) (F := 299)
  obtain ⟨W2, f2, c2⟩ := le_step g k0 c1 ht (l := 1) (by decide) (by simp only [List.length_append]; omega) (k := k) (F := 298)
  obtain ⟨W3, f3, c3⟩ := le_step g k0 c2 ht (l := 2) (by decide) (by simp only [List.length_append]; omega) (k := k) (F := 297)
  refine ⟨W3, ?_, ?_⟩
  · rw [f1, f2, f3, L_X1_listEvents_17, if_pos (by decide)]
  · simp only [evs, e6]
    simp only [List.append_assoc] at c3
    exact c3
theorem le_loop {W0 : Mem} {N d : Nat} {s h : Nat → Nat} (g : GC 9 W0 N d s h) (k0 : POK N d s h) {k : Mem → Option (Unit × Mem)} :
    ∀ (r j F : Nat) (W : Mem), j + r = N → r < F → CE W0 W (evs N d s h j) → ∃ W', L_X1_listEvents_7 9 30 k F (nI j) W = k W' ∧ CE W0 W' (evs N d s h N) := by
  intro r
  have hN := k0.2.1
  induction r with
  | zero =>
    intro j F W hj hF c
    obtain ⟨F, rfl⟩ : ∃ F', F = F' + 1 := ⟨F - 1, by omega⟩
    obtain rfl : j = N := by omega
    refine ⟨W, ?_, c⟩
    rw [L_X1_listEvents_7, (g.of30 c).1, if_pos (by rw [nI_lek (by omega) (by omega)]; omega)]
  | succ r ih =>
    intro j F W hj hF c
    obtain ⟨F, rfl⟩ : ∃ F', F = F' + 1 := ⟨F - 1, by omega⟩
    obtain ⟨W1, f1, c1⟩ := le_tick g k0 (show j < N by omega) c (k := fun w11 => L_X1_listEvents_7 9 30 k F (nI j + 1) w11)
    obtain ⟨W2, f2, c2⟩ := ih (j + 1) F W1 (by omega) (by omega) c1
    refine ⟨W2, ?_, c2⟩
    rw [L_X1_listEvents_7, (g.of30 c).1, if_neg (by rw [nI_lek (by omega) (by omega)]; omega), ← f2, ← nI_p1]
    exact f1
