/-! over -/
theorem o1 : nI 1 = 1 := rfl
theorem ov_idx {k l : Nat} (hk : k ≤ 9) (hl : l ≤ 3) : (4 : Int32) * nI k + nI l = nI (4 * k + l) := i_ext (by rw [i_add (i_mul (x := 4) (i_lit) (i_nI (by omega)) (by omega)) (i_nI (by omega)) (by omega), i_nI (by omega)]; omega)
def oMX (c : Nat → Int32) (r : Nat) (x : Int32) : Prop := (∃ j, j < r ∧ x = c j) ∧ ∀ j, j < r → (c j).toInt ≤ x.toInt
theorem oMX_1 (c : Nat → Int32) : oMX c 1 (c 0) := ⟨⟨0, by decide, rfl⟩, fun j hj => by rw [show j = 0 by omega]; exact Int.le_refl _⟩
theorem oMX_u {c : Nat → Int32} {r : Nat} {x y : Int32} (h : oMX c r x) (g : oMX c r y) : x = y := by
  obtain ⟨⟨i, hi, rfl⟩, h2⟩ := h
  obtain ⟨⟨j, hj, rfl⟩, g2⟩ := g
  have a := h2 j hj
  have b := g2 i hi
  exact i_ext (by omega)
theorem ogr_loop {W : Mem} {l r : Nat} (e : W 39 2 = nI r) (hr : r ≤ 10) (hl : l < 3) : ∀ (n j F : Nat) (v : Int32), j + n = r → n < F → oMX (fun j => W 40 (4 * j + l)) j v →
    ∃ x, L_X4_greatestOr_11 39 (-1000) (nI l) (fun x w => some (x, w)) F v (nI j) W = some (x, W) ∧ oMX (fun j => W 40 (4 * j + l)) r x := by
  intro n
  induction n with
  | zero =>
    intro j F v hj hF m
    obtain ⟨F, rfl⟩ : ∃ F', F = F' + 1 := ⟨F - 1, by omega⟩
    obtain rfl : j = r := by omega
    refine ⟨v, ?_, m⟩
    rw [L_X4_greatestOr_11, e, if_pos (by rw [nI_lek (by omega) (by omega)]; omega)]
  | succ n ih =>
    intro j F v hj hF m
    obtain ⟨F, rfl⟩ : ∃ F', F = F' + 1 := ⟨F - 1, by omega⟩
    obtain ⟨⟨i, hi, ei⟩, m2⟩ := m
    have m' : oMX (fun j => W 40 (4 * j + l)) (j + 1) (imax v (W 40 (4 * j + l))) := by
      have q : (imax v (W 40 (4 * j + l))).toInt = max v.toInt (W 40 (4 * j + l)).toInt := imax_i _ _
      refine ⟨?_, fun i' hi' => ?_⟩
      · unfold imax
        split
        · exact ⟨j, by omega, rfl⟩
        · exact ⟨i, by omega, ei⟩
      · rw [q]
        by_cases z : i' = j
        · subst z; show (W 40 (4 * i' + l)).toInt ≤ max v.toInt (W 40 (4 * i' + l)).toInt; omega
        · have := m2 i' (by omega)
          omega
    obtain ⟨x, f, g⟩ := ih (j + 1) F _ (by omega) (by omega) m'
    refine ⟨x, ?_, g⟩
    rw [L_X4_greatestOr_11, e, if_neg (by rw [nI_lek (by omega) (by omega)]; omega), cellOr_in e hr (by decide) ln39 (by omega) (by omega), bd_m, nI_p1, f]
theorem ogr_e {W : Mem} {l r : Nat} (e : W 39 2 = nI r) (h1 : 1 ≤ r) (hr : r ≤ 10) (hl : l < 3) : ∃ x, F_X4_greatestOr 39 (-1000) (nI l) W = some (x, W) ∧ oMX (fun j => W 40 (4 * j + l)) r x := by
  obtain ⟨x, f, g⟩ := ogr_loop e hr hl (r - 1) 1 300 (W 40 (4 * 0 + l)) (by omega) (by omega) (oMX_1 _)
  refine ⟨x, ?_, g⟩
  unfold F_X4_greatestOr
  rw [show F_X4_cellOr 39 (-1000) 0 (nI l) W = _ from cellOr_in (k := 0) e hr (by decide) ln39 (by omega) (by omega) _, bd_m]
  rw [o1] at f
  exact f
theorem ogrM_loop {V : Mem} {l r : Nat} (e : V 0 11 = nI r) (hr : r ≤ 10) (hl : l < 3) : ∀ (n j F : Nat) (v : Int32), j + n = r → n < F → 1 ≤ r → oMX (fun j => V 10 (4 * j + l)) (max 1 j) v →
    ∃ x, L_X7_over_51 (nI l) 0 (fun x w => some (x, w)) F v (nI j) V = some (x, V) ∧ oMX (fun j => V 10 (4 * j + l)) r x := by
  intro n
  induction n with
  | zero =>
    intro j F v hj hF h1 m
    obtain ⟨F, rfl⟩ : ∃ F', F = F' + 1 := ⟨F - 1, by omega⟩
    obtain rfl : j = r := by omega
    rw [Nat.max_eq_right h1] at m
    refine ⟨v, ?_, m⟩
    rw [L_X7_over_51, e, if_pos (by rw [nI_lek (by omega) (by omega)]; omega)]
  | succ n ih =>
    intro j F v hj hF h1 m
    obtain ⟨F, rfl⟩ : ∃ F', F = F' + 1 := ⟨F - 1, by omega⟩
    obtain ⟨⟨i, hi, ei⟩, m2⟩ := m
    rw [L_X7_over_51, e, if_neg (by rw [nI_lek (by omega) (by omega)]; omega)]
    simp only [ov_idx (show j ≤ 9 by omega) (show l ≤ 3 by omega), inb_nI (show 4 * j + l < 40 by omega) (by decide), gd_t, lt_m, ix_nI (show 4 * j + l < 2 ^ 31 by omega), if_true, nI_p1]
    by_cases z : V 10 (4 * j + l) ≤ v
    · rw [if_pos z]
      refine ih (j + 1) F v (by omega) (by omega) h1 ⟨⟨i, by omega, ei⟩, fun i' hi' => ?_⟩
      by_cases y : i' = j
      · subst y; rw [Int32.le_iff_toInt_le] at z; exact z
      · exact m2 i' (by omega)
    · rw [if_neg z]
      rw [Int32.le_iff_toInt_le] at z
      refine ih (j + 1) F _ (by omega) (by omega) h1 ⟨⟨j, by omega, rfl⟩, fun i' hi' => ?_⟩
      by_cases y : i' = j
      · subst y; exact Int.le_refl _
      · have := m2 i' (by omega)
        show (V 10 (4 * i' + l)).toInt ≤ (V 10 (4 * j + l)).toInt
        dsimp only at this
        omega
theorem oMX_rev {c d : Nat → Int32} {r : Nat} (h : ∀ k, k < r → c (r - 1 - k) = d k) {x : Int32} (m : oMX d r x) : oMX c r x := by
  obtain ⟨⟨i, hi, ei⟩, m2⟩ := m
  refine ⟨⟨r - 1 - i, by omega, by rw [h i hi, ei]⟩, fun j hj => ?_⟩
  have := m2 (r - 1 - j) (by omega)
  rw [← h (r - 1 - j) (by omega), show r - 1 - (r - 1 - j) = j by omega] at this
  exact this
def oMI (c : Nat → Int32) (r : Nat) (x : Int32) : Prop := (∃ j, j < r ∧ x = c j) ∧ ∀ j, j < r → x.toInt ≤ (c j).toInt
theorem oMI_1 (c : Nat → Int32) : oMI c 1 (c 0) := ⟨⟨0, by decide, rfl⟩, fun j hj => by rw [show j = 0 by omega]; exact Int.le_refl _⟩
theorem oMI_u {c : Nat → Int32} {r : Nat} {x y : Int32} (h : oMI c r x) (g : oMI c r y) : x = y := by
  obtain ⟨⟨i, hi, rfl⟩, h2⟩ := h
  obtain ⟨⟨j, hj, rfl⟩, g2⟩ := g
  have a := h2 j hj
  have b := g2 i hi
  exact i_ext (by omega)
theorem ole_loop {W : Mem} {l r : Nat} (e : W 39 2 = nI r) (hr : r ≤ 10) (hl : l < 3) : ∀ (n j F : Nat) (v : Int32), j + n = r → n < F → oMI (fun j => W 40 (4 * j + l)) j v →
    ∃ x, L_X4_leastOr_11 39 (-1000) (nI l) (fun x w => some (x, w)) F v (nI j) W = some (x, W) ∧ oMI (fun j => W 40 (4 * j + l)) r x := by
  intro n
  induction n with
  | zero =>
    intro j F v hj hF m
    obtain ⟨F, rfl⟩ : ∃ F', F = F' + 1 := ⟨F - 1, by omega⟩
    obtain rfl : j = r := by omega
    refine ⟨v, ?_, m⟩
    rw [L_X4_leastOr_11, e, if_pos (by rw [nI_lek (by omega) (by omega)]; omega)]
  | succ n ih =>
    intro j F v hj hF m
    obtain ⟨F, rfl⟩ : ∃ F', F = F' + 1 := ⟨F - 1, by omega⟩
    obtain ⟨⟨i, hi, ei⟩, m2⟩ := m
    have m' : oMI (fun j => W 40 (4 * j + l)) (j + 1) (imin v (W 40 (4 * j + l))) := by
      have q : (imin v (W 40 (4 * j + l))).toInt = min v.toInt (W 40 (4 * j + l)).toInt := imin_i _ _
      refine ⟨?_, fun i' hi' => ?_⟩
      · unfold imin
        split
        · exact ⟨j, by omega, rfl⟩
        · exact ⟨i, by omega, ei⟩
      · rw [q]
        by_cases z : i' = j
        · subst z; show min v.toInt (W 40 (4 * i' + l)).toInt ≤ (W 40 (4 * i' + l)).toInt; omega
        · have := m2 i' (by omega)
          omega
    obtain ⟨x, f, g⟩ := ih (j + 1) F _ (by omega) (by omega) m'
    refine ⟨x, ?_, g⟩
    rw [L_X4_leastOr_11, e, if_neg (by rw [nI_lek (by omega) (by omega)]; omega), cellOr_in e hr (by decide) ln39 (by omega) (by omega), bd_m, nI_p1, f]
theorem ole_e {W : Mem} {l r : Nat} (e : W 39 2 = nI r) (h1 : 1 ≤ r) (hr : r ≤ 10) (hl : l < 3) : ∃ x, F_X4_leastOr 39 (-1000) (nI l) W = some (x, W) ∧ oMI (fun j => W 40 (4 * j + l)) r x := by
  obtain ⟨x, f, g⟩ := ole_loop e hr hl (r - 1) 1 300 (W 40 (4 * 0 + l)) (by omega) (by omega) (oMI_1 _)
  refine ⟨x, ?_, g⟩
  unfold F_X4_leastOr
  rw [show F_X4_cellOr 39 (-1000) 0 (nI l) W = _ from cellOr_in (k := 0) e hr (by decide) ln39 (by omega) (by omega) _, bd_m]
  rw [o1] at f
  exact f
theorem oleM_loop {V : Mem} {l r : Nat} (e : V 0 11 = nI r) (hr : r ≤ 10) (hl : l < 3) : ∀ (n j F : Nat) (v : Int32), j + n = r → n < F → 1 ≤ r → oMI (fun j => V 10 (4 * j + l)) (max 1 j) v →
    ∃ x, L_X7_over_51 (nI l) 1 (fun x w => some (x, w)) F v (nI j) V = some (x, V) ∧ oMI (fun j => V 10 (4 * j + l)) r x := by
  intro n
  induction n with
  | zero =>
    intro j F v hj hF h1 m
    obtain ⟨F, rfl⟩ : ∃ F', F = F' + 1 := ⟨F - 1, by omega⟩
    obtain rfl : j = r := by omega
    rw [Nat.max_eq_right h1] at m
    refine ⟨v, ?_, m⟩
    rw [L_X7_over_51, e, if_pos (by rw [nI_lek (by omega) (by omega)]; omega)]
  | succ n ih =>
    intro j F v hj hF h1 m
    obtain ⟨F, rfl⟩ : ∃ F', F = F' + 1 := ⟨F - 1, by omega⟩
    obtain ⟨⟨i, hi, ei⟩, m2⟩ := m
    rw [L_X7_over_51, e, if_neg (by rw [nI_lek (by omega) (by omega)]; omega)]
    simp only [ov_idx (show j ≤ 9 by omega) (show l ≤ 3 by omega), inb_nI (show 4 * j + l < 40 by omega) (by decide), gd_t, lt_m, ix_nI (show 4 * j + l < 2 ^ 31 by omega), if_neg (show ¬ (1 : Int32) = 0 by decide), if_true, nI_p1]
    by_cases z : v ≤ V 10 (4 * j + l)
    · rw [if_pos z]
      refine ih (j + 1) F v (by omega) (by omega) h1 ⟨⟨i, by omega, ei⟩, fun i' hi' => ?_⟩
      by_cases y : i' = j
      · subst y; rw [Int32.le_iff_toInt_le] at z; exact z
      · exact m2 i' (by omega)
    · rw [if_neg z]
      rw [Int32.le_iff_toInt_le] at z
      refine ih (j + 1) F _ (by omega) (by omega) h1 ⟨⟨j, by omega, rfl⟩, fun i' hi' => ?_⟩
      by_cases y : i' = j
      · subst y; exact Int.le_refl _
      · have := m2 i' (by omega)
        show (V 10 (4 * j + l)).toInt ≤ (V 10 (4 * i' + l)).toInt
        dsimp only at this
        omega
theorem oMI_rev {c d : Nat → Int32} {r : Nat} (h : ∀ k, k < r → c (r - 1 - k) = d k) {x : Int32} (m : oMI d r x) : oMI c r x := by
  obtain ⟨⟨i, hi, ei⟩, m2⟩ := m
  refine ⟨⟨r - 1 - i, by omega, by rw [h i hi, ei]⟩, fun j hj => ?_⟩
  have := m2 (r - 1 - j) (by omega)
  rw [← h (r - 1 - j) (by omega), show r - 1 - (r - 1 - j) = j by omega] at this
  exact this
/-! how many were over -/
def osm (c : Nat → Int32) : Nat → Int32
  | 0 => 0
  | n + 1 => osm c n + c n
theorem osm_c {c d : Nat → Int32} : ∀ (n : Nat), (∀ k, k < n → c k = d k) → osm c n = osm d n
  | 0, _ => rfl
  | n + 1, h => by
    show osm c n + c n = osm d n + d n
    rw [osm_c n (fun k hk => h k (by omega)), h n (by omega)]
theorem osm_0 (d : Nat → Int32) : ∀ (n : Nat), osm d (n + 1) = d 0 + osm (fun k => d (k + 1)) n
  | 0 => by show 0 + d 0 = d 0 + 0; rw [Int32.zero_add, Int32.add_zero]
  | n + 1 => by
    show osm d (n + 1) + d (n + 1) = d 0 + (osm (fun k => d (k + 1)) n + d (n + 1))
    rw [osm_0 d n, Int32.add_assoc]
theorem osm_rev (c : Nat → Int32) : ∀ (r : Nat) (d : Nat → Int32), (∀ k, k < r → c (r - 1 - k) = d k) → osm d r = osm c r
  | 0, _, _ => rfl
  | r + 1, d, h => by
    have ih := osm_rev c r (fun k => d (k + 1)) (fun k hk => by rw [← h (k + 1) (by omega)]; congr 1; omega)
    rw [osm_0, ih, ← h 0 (by omega)]
    show c r + osm c r = osm c r + c r
    rw [Int32.add_comm]
theorem otoC_loop {W : Mem} {r : Nat} (e : W 39 2 = nI r) (hr : r ≤ 10) : ∀ (n j F : Nat), j + n = r → n < F →
    L_X4_totalOr_11 39 (-1000) 3 (fun x w => some (x, w)) F (osm (fun j => W 40 (4 * j + 3)) j) (nI j) W = some (osm (fun j => W 40 (4 * j + 3)) r, W) := by
  intro n
  induction n with
  | zero =>
    intro j F hj hF
    obtain ⟨F, rfl⟩ : ∃ F', F = F' + 1 := ⟨F - 1, by omega⟩
    obtain rfl : j = r := by omega
    rw [L_X4_totalOr_11, e, if_pos (by rw [nI_lek (by omega) (by omega)]; omega)]
  | succ n ih =>
    intro j F hj hF
    obtain ⟨F, rfl⟩ : ∃ F', F = F' + 1 := ⟨F - 1, by omega⟩
    rw [L_X4_totalOr_11, e, if_neg (by rw [nI_lek (by omega) (by omega)]; omega), show F_X4_cellOr 39 (-1000) (nI j) 3 W = _ from cellOr_in (j := 3) e hr (by decide) ln39 (by omega) (by omega) _, bd_m, nI_p1]
    exact ih (j + 1) F (by omega) (by omega)
theorem otoM_loop {V : Mem} {l r : Nat} (e : V 0 11 = nI r) (hr : r ≤ 10) (hl : l < 3) : ∀ (n j F : Nat), j + n = r → n < F →
    L_X7_over_51 (nI l) 2 (fun x w => some (x, w)) F (osm (fun j => V 10 (4 * j + 3)) j) (nI j) V = some (osm (fun j => V 10 (4 * j + 3)) r, V) := by
  intro n
  induction n with
  | zero =>
    intro j F hj hF
    obtain ⟨F, rfl⟩ : ∃ F', F = F' + 1 := ⟨F - 1, by omega⟩
    obtain rfl : j = r := by omega
    rw [L_X7_over_51, e, if_pos (by rw [nI_lek (by omega) (by omega)]; omega)]
  | succ n ih =>
    intro j F hj hF
    obtain ⟨F, rfl⟩ : ∃ F', F = F' + 1 := ⟨F - 1, by omega⟩
    rw [L_X7_over_51, e, if_neg (by rw [nI_lek (by omega) (by omega)]; omega)]
    have e3 : (4 : Int32) * nI j + 3 = nI (4 * j + 3) := ov_idx (l := 3) (by omega) (by omega)
    simp only [ov_idx (show j ≤ 9 by omega) (show l ≤ 3 by omega), e3, inb_nI (show 4 * j + l < 40 by omega) (by decide), inb_nI (show 4 * j + 3 < 40 by omega) (by decide), gd_t, lt_m, ix_nI (show 4 * j + l < 2 ^ 31 by omega), ix_nI (show 4 * j + 3 < 2 ^ 31 by omega), if_neg (show ¬ (2 : Int32) = 0 by decide), if_neg (show ¬ (2 : Int32) = 1 by decide), nI_p1]
    exact ih (j + 1) F (by omega) (by omega)
theorem sim_over : S2 Rel F_X6_over F_X7_over := by
  intro a b wC wM h
  unfold F_X6_over F_X7_over
  simp only [isLeg_e, isLeg7_e, in_e, bd_m]
  by_cases ha : wi a 0 2 = 0
  · rw [if_pos ha, if_pos ha]; exact S_bad h
  rw [if_neg ha, if_neg ha]
  obtain ⟨l, hl, rfl⟩ := legN ha
  by_cases hb : wi b 0 2 = 0
  · rw [if_pos hb, if_neg (wi_ne hb (by decide)), if_neg (wi_ne hb (by decide)), if_neg (wi_ne hb (by decide))]
    exact S_bad h
  rw [if_neg hb]
  obtain ⟨n, hn, rfl⟩ := rng (N := 2) hb (by decide)
  obtain ⟨r, hr, e1, e2, hk⟩ := h.2.2.2.2.1
  have rev : ∀ c, c < 4 → ∀ k, k < r → (fun j => wC 40 (4 * j + c)) (r - 1 - k) = (fun j => wM 10 (4 * j + c)) k := fun c hc k hk' => hk k hk' c hc
  rcases Nat.eq_zero_or_pos r with z | z
  · subst z
    have e0 : (0 : Int32).toInt = 0 := by decide
    have co : ∀ c, F_X4_cellOr 39 (-1000) 0 c wC = some (-1000, wC) := fun c => cellOr_out e1 (by decide) (Or.inr (by rw [e0]; decide)) _
    rw [if_pos (show wM 0 11 = 0 from e2)]
    have g1 : F_X4_greatestOr 39 (-1000) (nI l) wC = some (-1000, wC) := by
      unfold F_X4_greatestOr
      rw [co, bd_m, show (300 : Nat) = 299 + 1 from rfl, L_X4_greatestOr_11, e1, if_pos (by decide)]
    have g2 : F_X4_leastOr 39 (-1000) (nI l) wC = some (-1000, wC) := by
      unfold F_X4_leastOr
      rw [co, bd_m, show (300 : Nat) = 299 + 1 from rfl, L_X4_leastOr_11, e1, if_pos (by decide)]
    have g3 : F_X4_totalOr 39 (-1000) 3 wC = some (-1000, wC) := by
      unfold F_X4_totalOr
      rw [co, bd_m, show (300 : Nat) = 299 + 1 from rfl, L_X4_totalOr_11, e1, if_pos (by decide)]
    match n, hn with
    | 0, _ => rw [if_pos (by decide), g1, bd_m]; exact ⟨_, _, _, rfl, rfl, h⟩
    | 1, _ => rw [if_neg (by decide), if_pos (by decide), g2, bd_m]; exact ⟨_, _, _, rfl, rfl, h⟩
    | 2, _ => rw [if_neg (by decide), if_neg (by decide), if_pos (by decide), g3, bd_m]; exact ⟨_, _, _, rfl, rfl, h⟩
    | q + 3, hq => exact absurd hq (by omega)
  · rw [if_neg (show ¬ wM 0 11 = 0 by rw [e2, show (0 : Int32) = nI 0 from rfl, nI_eqk (by omega) (by omega)]; omega), jn_m]
    simp only [inb_nI (show l < 40 by omega) (by decide), gd_t, ix_nI (show l < 2 ^ 31 by omega)]
    match n, hn with
    | 0, _ =>
      obtain ⟨x, f, g⟩ := ogr_e e1 (by omega) hr hl
      obtain ⟨y, f', g'⟩ := ogrM_loop e2 hr hl r 0 300 (wM 10 l) (by omega) (by omega) (by omega) (by have q := oMX_1 (fun j => wM 10 (4 * j + l)); rw [show 4 * 0 + l = l by omega] at q; exact q)
      obtain rfl := oMX_u g (oMX_rev (rev l (by omega)) g')
      rw [if_pos (by decide), f, bd_m, if_neg (by decide)]
      exact ⟨_, _, _, rfl, f', h⟩
    | 1, _ =>
      obtain ⟨x, f, g⟩ := ole_e e1 (by omega) hr hl
      obtain ⟨y, f', g'⟩ := oleM_loop e2 hr hl r 0 300 (wM 10 l) (by omega) (by omega) (by omega) (by have q := oMI_1 (fun j => wM 10 (4 * j + l)); rw [show 4 * 0 + l = l by omega] at q; exact q)
      obtain rfl := oMI_u g (oMI_rev (rev l (by omega)) g')
      rw [if_neg (by decide), if_pos (by decide), f, bd_m, if_neg (by decide)]
      exact ⟨_, _, _, rfl, f', h⟩
    | 2, _ =>
      have f := otoC_loop e1 hr (r - 1) 1 300 (by omega) (by omega)
      have f' := otoM_loop e2 hr hl r 0 300 (by omega) (by omega)
      rw [osm_rev (fun j => wC 40 (4 * j + 3)) r (fun j => wM 10 (4 * j + 3)) (rev 3 (by decide))] at f'
      have g : F_X4_totalOr 39 (-1000) 3 wC = some (osm (fun j => wC 40 (4 * j + 3)) r, wC) := by
        unfold F_X4_totalOr
        rw [show F_X4_cellOr 39 (-1000) 0 3 wC = _ from cellOr_in (k := 0) (j := 3) e1 hr (by decide) ln39 (by omega) (by omega) _, bd_m, ← f]
        show _ = L_X4_totalOr_11 39 (-1000) 3 (fun x w => some (x, w)) 300 (0 + wC 40 (4 * 0 + 3)) (nI 1) wC
        rw [Int32.zero_add]
        rfl
      rw [if_neg (by decide), if_neg (by decide), if_pos (by decide), g, bd_m, if_pos (by decide)]
      exact ⟨_, _, _, rfl, f', h⟩
    | q + 3, hq => exact absurd hq (by omega)
