/-! count, sets, leg, anew, wish, wished, memory -/
theorem S_bad' {wC wM : Mem} (h : Rel wC wM) : ∃ r wC' wM', (some (-2, mst wC 45 0 (wC 45 0 + 1)) : Option (Int32 × Mem)) = some (r, wC') ∧ (some (-2, mst wM 1 0 (wM 1 0 + 1)) : Option (Int32 × Mem)) = some (r, wM') ∧ Rel wC' wM' := ⟨_, _, _, rfl, rfl, h.bad⟩
theorem Bd_of {n : Int} {c lo hi : Int32} (h : lo.toInt ≤ c.toInt ∧ c.toInt ≤ hi.toInt) (h1 : lo.toInt = -n) (h2 : hi.toInt = n) : Bd n c := ⟨by omega, by omega⟩
theorem counted_e {wC wM : Mem} (h : Rel wC wM) {n : Nat} (hn : n ≤ 12) : ∃ r, F_X6_counted (nI n) wC = some (r, wC) ∧ F_X7_countBy (nI n) wM = some (r, wM) := by
  obtain ⟨q, -, q1, q2, -⟩ := h.2.2.2.1
  obtain ⟨t, -, t1, t2, -⟩ := h.2.2.2.2.2.1
  have hb := h.2.2.2.2.2.2.1
  have hs := h.1.1
  match n, hn with
  | 0, _ => exact ⟨wC 45 0, rfl, by rw [hb 0 (by decide)]; rfl⟩
  | 1, _ => exact ⟨wC 45 1, rfl, by rw [hb 1 (by decide)]; rfl⟩
  | 2, _ => exact ⟨wC 45 2, rfl, by rw [hb 2 (by decide)]; rfl⟩
  | 3, _ => exact ⟨wC 1 7, rfl, by rw [h.2.2.1]; rfl⟩
  | 4, _ => exact ⟨wC 7 2, rfl, by rw [q1, ← q2]; rfl⟩
  | 5, _ => exact ⟨wC 2 0, rfl, by rw [hs 0 (by decide)]; rfl⟩
  | 6, _ => exact ⟨wC 2 1, rfl, by rw [hs 1 (by decide)]; rfl⟩
  | 7, _ => exact ⟨wC 2 2, rfl, by rw [hs 2 (by decide)]; rfl⟩
  | 8, _ => exact ⟨wC 2 3, rfl, by rw [hs 3 (by decide)]; rfl⟩
  | 9, _ => exact ⟨wC 2 4, rfl, by rw [hs 4 (by decide)]; rfl⟩
  | 10, _ => exact ⟨wC 2 5, rfl, by rw [hs 5 (by decide)]; rfl⟩
  | 11, _ => exact ⟨wC 2 6, rfl, by rw [hs 6 (by decide)]; rfl⟩
  | 12, _ => exact ⟨wC 41 2, rfl, by rw [t1, ← t2]; rfl⟩
  | q + 13, hq => exact absurd hq (by omega)
theorem sim_count : S1 Rel F_X6_count F_X7_count := by
  intro a wC wM h
  unfold F_X6_count F_X7_count
  simp only [within_e, in_e, bd_m]
  by_cases ha : wi a 0 12 = 0
  · rw [if_pos ha, if_pos ha]; exact S_bad h
  rw [if_neg ha, if_neg ha]
  obtain ⟨n, hn, rfl⟩ := rng (N := 12) ha (by decide)
  obtain ⟨r, e1, e2⟩ := counted_e h hn
  rw [e1, e2]
  exact ⟨r, wC, wM, rfl, rfl, h⟩
theorem sim_leg : S3 Rel F_X6_leg F_X7_leg := by
  intro a b c wC wM h
  unfold F_X6_leg F_X7_leg
  simp only [isLeg_e, isLeg7_e, within_e, in_e, bd_m]
  by_cases ha : wi a 0 2 = 0
  · rw [if_pos ha, if_pos ha]; exact S_bad h
  rw [if_neg ha, if_neg ha]
  by_cases hb : wi b 0 1 = 0
  · rw [if_pos hb, if_pos hb]; exact S_bad h
  rw [if_neg hb, if_neg hb]
  have hl := leg3 ha
  have hx := ixL hl
  have hv := h.2.1 (ix a) hx
  obtain ⟨n, hn, rfl⟩ := rng (N := 1) hb (by decide)
  have up : ∀ (f g : Nat → Int32) (P : Int32 → Prop), (∀ l, l < 3 → f l = g l ∧ P (g l)) → P c → ∀ l, l < 3 → upd f (ix a) c l = upd g (ix a) c l ∧ P (upd g (ix a) c l) := by
    intro f g P hfg hc l hl
    simp only [upd]
    split
    · exact ⟨rfl, hc⟩
    · exact hfg l hl
  match n, hn with
  | 0, _ =>
    have e0 : nI 0 = (0 : Int32) := rfl
    simp only [e0, jn_m, if_true, inbL hl, gd_t, if_neg (show ¬ (0 : Int32) = 1 by decide), lt_m]
    rw [show (-(200 : Int32)) = -200 from rfl]
    by_cases hc : wi c (-200) 200 = 0
    · rw [if_pos hc, if_pos hc]; exact S_bad h
    rw [if_neg hc, if_neg hc]
    have hr := wi_1 hc
    have hr' : Bd 200 c := Bd_of hr (by decide) (by decide)
    refine ⟨wC 3 (ix a), mst wC 3 (ix a) c, mst (mst wM 4 (ix a) c) 3 (ix a) (wM 3 (ix a)), rfl, by rw [hv.1.1]; rfl, h.1, ?_, h.2.2.1, h.2.2.2.1, h.2.2.2.2.1, h.2.2.2.2.2.1, h.2.2.2.2.2.2.1, h.2.2.2.2.2.2.2⟩
    intro l hl
    refine ⟨up _ _ (Bd 200) (fun l hl => (h.2.1 l hl).1) hr' l hl, ?_, (h.2.1 l hl).2.2⟩
    show _ = upd (wM 3) (ix a) (wM 3 (ix a)) l ∧ Bd 999 (upd (wM 3) (ix a) (wM 3 (ix a)) l)
    have : upd (wM 3) (ix a) (wM 3 (ix a)) l = wM 3 l := by
      simp only [upd]
      split
      · rename_i q; rw [q]
      · rfl
    rw [this]
    exact (h.2.1 l hl).2.1
  | 1, _ =>
    have e0 : nI 1 = (1 : Int32) := rfl
    simp only [e0, jn_m, if_true, inbL hl, gd_t, if_neg (show ¬ (1 : Int32) = 0 by decide), lt_m]
    rw [show (-(999 : Int32)) = -999 from rfl]
    by_cases hc : wi c (-999) 999 = 0
    · rw [if_pos hc, if_pos hc]; exact S_bad h
    rw [if_neg hc, if_neg hc]
    have hr := wi_1 hc
    have hr' : Bd 999 c := Bd_of hr (by decide) (by decide)
    refine ⟨wC 4 (ix a), mst wC 4 (ix a) c, mst (mst wM 4 (ix a) (wM 4 (ix a))) 3 (ix a) c, rfl, by rw [hv.2.1.1], h.1, ?_, h.2.2.1, h.2.2.2.1, h.2.2.2.2.1, h.2.2.2.2.2.1, h.2.2.2.2.2.2.1, h.2.2.2.2.2.2.2⟩
    intro l hl
    refine ⟨?_, up _ _ (Bd 999) (fun l hl => (h.2.1 l hl).2.1) hr' l hl, (h.2.1 l hl).2.2⟩
    show _ = upd (wM 4) (ix a) (wM 4 (ix a)) l ∧ Bd 200 (upd (wM 4) (ix a) (wM 4 (ix a)) l)
    have : upd (wM 4) (ix a) (wM 4 (ix a)) l = wM 4 l := by
      simp only [upd]
      split
      · rename_i q; rw [q]
      · rfl
    rw [this]
    exact (h.2.1 l hl).1
  | q + 2, hq => exact absurd hq (by omega)
/-! anew -/
def z4 (d l : Nat) (w : Mem) : Mem := mst (mst (mst (mst w (d + 2) l 0) (d + 3) l 0) (d + 4) l 0) (d + 5) l 0
theorem begin_step {q : Nat} {k : Mem → Option (Unit × Mem)} {N l : Nat} {w : Mem} (hl : l < 3) : L_X0_beginAnew_16 q k (N + 1) (nI l) w = L_X0_beginAnew_16 q k N (nI (l + 1)) (z4 q l w) := by
  rw [L_X0_beginAnew_16, if_neg (by rw [show (3 : Int32) = nI 3 from rfl, nI_lek (by decide) (by omega)]; omega)]
  simp only [inb_nI hl (by decide), gd_t, lt_m, ix_nI (show l < 2 ^ 31 by omega), nI_p1]
  rfl
theorem begin_end {q : Nat} {k : Mem → Option (Unit × Mem)} {N : Nat} {w : Mem} : L_X0_beginAnew_16 q k (N + 1) (nI 3) w = k w := by
  rw [L_X0_beginAnew_16, if_pos (by decide)]
def bAw (d : Nat) (w : Mem) : Mem := mst (mst (z4 d 2 (z4 d 1 (z4 d 0 (mcp w (sct 0) 0 (d + 1) 0 7)))) (d + 6) 2 0) d 7 0
theorem beginAnew_e (d : Nat) (w : Mem) : F_X0_beginAnew d w = some ((), bAw d w) := by
  unfold F_X0_beginAnew
  rw [lt_m]
  show L_X0_beginAnew_16 d _ (299 + 1) (nI 0) _ = _
  rw [begin_step (by decide)]
  show L_X0_beginAnew_16 d _ (298 + 1) (nI 1) _ = _
  rw [begin_step (by decide)]
  show L_X0_beginAnew_16 d _ (297 + 1) (nI 2) _ = _
  rw [begin_step (by decide)]
  show L_X0_beginAnew_16 d _ (296 + 1) (nI 3) _ = _
  rw [begin_end, cut0_e, bd_m, lt_m]
  rfl
def y4 (l : Nat) (w : Mem) : Mem := mst (mst (mst (mst w 3 l 0) 4 l 0) 5 l 0) 6 l 0
theorem begins_step {k : Mem → Option (Unit × Mem)} {N l : Nat} {w : Mem} (hl : l < 3) : L_X7_begins_54 k (N + 1) (nI l) w = L_X7_begins_54 k N (nI (l + 1)) (y4 l w) := by
  rw [L_X7_begins_54, if_neg (by rw [show (3 : Int32) = nI 3 from rfl, nI_lek (by decide) (by omega)]; omega)]
  simp only [inb_nI hl (by decide), gd_t, lt_m, ix_nI (show l < 2 ^ 31 by omega), nI_p1]
  rfl
theorem begins_end {k : Mem → Option (Unit × Mem)} {N : Nat} {w : Mem} : L_X7_begins_54 k (N + 1) (nI 3) w = k w := by
  rw [L_X7_begins_54, if_pos (by decide)]
def s7 (w : Mem) : Mem := mst (mst (mst (mst (mst (mst (mst w 2 0 48) 2 1 2) 2 2 1) 2 3 4) 2 4 8) 2 5 4) 2 6 0
def bMw (w : Mem) : Mem := mst (mst (mst (y4 2 (y4 1 (y4 0 (s7 w)))) 0 6 0) 0 7 0) 0 11 0
theorem begins_e (w : Mem) : F_X7_begins w = some ((), bMw w) := by
  unfold F_X7_begins
  simp only [lt_m]
  show L_X7_begins_54 _ (299 + 1) (nI 0) (s7 w) = _
  rw [begins_step (by decide)]
  show L_X7_begins_54 _ (298 + 1) (nI 1) _ = _
  rw [begins_step (by decide)]
  show L_X7_begins_54 _ (297 + 1) (nI 2) _ = _
  rw [begins_step (by decide)]
  show L_X7_begins_54 _ (296 + 1) (nI 3) _ = _
  rw [begins_end]
  rfl
theorem cpy7 (g : Nat → Int32) (k : Nat) (h : k < 7 ∨ g k = 0) : va_cpy (sct 0) g 0 0 7 k = sct 0 k := by
  simp only [va_cpy, Nat.zero_le, true_and, Nat.zero_add, Nat.sub_zero]
  split
  · rfl
  · rename_i hk
    rcases h with h | h
    · omega
    · rw [h]
      simp [sct, List.getElem?_eq_none (show ([48, 2, 1, 4, 8, 4, 0] : List Int32).length ≤ k by simp; omega)]
theorem b0_e : F_X0_beginAnew 0 wX0a = some ((), wX0) := by
  rw [beginAnew_e]
  congr 2
  funext i k
  have z3 : ∀ k : Nat, upd (upd (upd (fun _ => (0 : Int32)) 0 0) 1 0) 2 0 k = 0 := fun k => by simp [upd]
  match i with
  | 0 => show upd (fun _ => (0 : Int32)) 7 0 k = 0; simp [upd]
  | 1 => exact cpy7 _ k (Or.inr rfl)
  | 2 => exact z3 k
  | 3 => exact z3 k
  | 4 => exact z3 k
  | 5 => exact z3 k
  | 6 =>
    show upd (wX4 12 0) 2 0 k = wX4 12 0 k
    simp only [upd]
    split
    · rename_i q; rw [q]; rfl
    · rfl
  | n + 7 => rfl
theorem b7_e : F_X7_begins wX7a = some ((), wX7) := by
  rw [begins_e]
  congr 2
  funext i k
  have z3 : ∀ k : Nat, upd (upd (upd (fun _ => (0 : Int32)) 0 0) 1 0) 2 0 k = 0 := fun k => by simp [upd]
  match i with
  | 0 => show upd (upd (upd (fun _ => (0 : Int32)) 6 0) 7 0) 11 0 k = 0; simp [upd]
  | 1 => rfl
  | 2 =>
    show upd (upd (upd (upd (upd (upd (upd (fun _ => (0 : Int32)) 0 48) 1 2) 2 1) 3 4) 4 8) 5 4) 6 0 k = sct 0 k
    match k with
    | 0 | 1 | 2 | 3 | 4 | 5 | 6 => rfl
    | n + 7 => rfl
  | 3 => exact z3 k
  | 4 => exact z3 k
  | 5 => exact z3 k
  | 6 => exact z3 k
  | n + 7 => rfl
theorem bAw_o {w : Mem} {i : Nat} (h : 8 ≤ i) : bAw 1 w i = w i := by
  simp only [bAw, z4, mst, mcp]
  repeat rw [if_neg (by omega)]
theorem bMw_o {w : Mem} {i : Nat} (h : 7 ≤ i ∨ i = 1) : bMw w i = w i := by
  simp only [bMw, y4, s7, mst]
  repeat rw [if_neg (by omega)]
theorem z3_e (f : Nat → Int32) {k : Nat} (h : k < 3) : upd (upd (upd f 0 0) 1 0) 2 0 k = 0 := by
  simp only [upd]
  split
  · rfl
  · split
    · rfl
    · rw [if_pos (by omega)]
theorem bAw_set {w : Mem} {k : Nat} (h : k < 7) : bAw 1 w 2 k = sct 0 k := by
  have e : bAw 1 w 2 = va_cpy (sct 0) (w 2) 0 0 7 := by simp [bAw, z4, mst, mcp]
  rw [e, cpy7 _ _ (Or.inl h)]
theorem bAw_z {w : Mem} {i k : Nat} (hi : 3 ≤ i ∧ i ≤ 6) (h : k < 3) : bAw 1 w i k = 0 := by
  have e : bAw 1 w i = upd (upd (upd (w i) 0 0) 1 0) 2 0 := by
    rcases (show i = 3 ∨ i = 4 ∨ i = 5 ∨ i = 6 by omega) with rfl | rfl | rfl | rfl <;> simp [bAw, z4, mst, mcp]
  rw [e, z3_e _ h]
theorem bMw_z {w : Mem} {i k : Nat} (hi : 3 ≤ i ∧ i ≤ 6) (h : k < 3) : bMw w i k = 0 := by
  have e : bMw w i = upd (upd (upd (w i) 0 0) 1 0) 2 0 := by
    rcases (show i = 3 ∨ i = 4 ∨ i = 5 ∨ i = 6 by omega) with rfl | rfl | rfl | rfl <;> simp [bMw, y4, s7, mst]
  rw [e, z3_e _ h]
theorem bMw_2 {w : Mem} {k : Nat} (h : k < 7) : bMw w 2 k = sct 0 k := by
  have e : bMw w 2 = upd (upd (upd (upd (upd (upd (upd (w 2) 0 48) 1 2) 2 1) 3 4) 4 8) 5 4) 6 0 := by simp [bMw, y4, s7, mst]
  rw [e]
  match k, h with
  | 0, _ | 1, _ | 2, _ | 3, _ | 4, _ | 5, _ | 6, _ => rfl
  | q + 7, hq => exact absurd hq (by omega)
theorem bMw_0 {w : Mem} : bMw w 0 = upd (upd (upd (w 0) 6 0) 7 0) 11 0 := by simp [bMw, y4, s7, mst]
theorem bAw_1 {w : Mem} : bAw 1 w 1 = upd (w 1) 7 0 := by simp [bAw, z4, mst, mcp]
theorem bAw_7 {w : Mem} : bAw 1 w 7 = upd (w 7) 2 0 := by simp [bAw, z4, mst, mcp]
theorem SetOK_0 : SetOK (sct 0) := by unfold SetOK; decide
theorem SetOK.congr {s t : Nat → Int32} (h : SetOK s) (e : ∀ k, k < 7 → t k = s k) : SetOK t := by
  unfold SetOK at *
  rw [e 0 (by decide), e 1 (by decide), e 2 (by decide), e 3 (by decide), e 4 (by decide), e 5 (by decide), e 6 (by decide)]
  exact h
theorem Bd_0 {n : Int} (hn : 0 ≤ n) : Bd n 0 := by
  have e : (0 : Int32).toInt = 0 := by decide
  exact ⟨by rw [e]; omega, by rw [e]; exact hn⟩
theorem sim_anew : S0 Rel F_X6_anew F_X7_anew := by
  intro wC wM h
  unfold F_X6_anew F_X7_anew
  simp only [beginAnew_e, begins_e, cut0_e, bd_m]
  refine ⟨wC 1 7, mst (bAw 1 wC) 39 2 0, bMw wM, rfl, by rw [h.2.2.1], ?_⟩
  have cN : ∀ i, i ≠ 39 → (mst (bAw 1 wC) 39 2 0) i = bAw 1 wC i := fun i hi => mst_ne _ _ _ hi
  have c39 : (mst (bAw 1 wC) 39 2 0) 39 = upd (wC 39) 2 0 := by rw [mst_self, bAw_o (by decide)]
  unfold Rel
  simp only [cN 1 (by decide), cN 2 (by decide), cN 3 (by decide), cN 4 (by decide), cN 5 (by decide), cN 6 (by decide), cN 7 (by decide), cN 8 (by decide), cN 20 (by decide), cN 28 (by decide), cN 30 (by decide), cN 34 (by decide), cN 40 (by decide), cN 41 (by decide), cN 42 (by decide), cN 43 (by decide), cN 45 (by decide), c39, bAw_o (show 8 ≤ 8 by decide), bAw_o (show 8 ≤ 20 by decide), bAw_o (show 8 ≤ 28 by decide), bAw_o (show 8 ≤ 30 by decide), bAw_o (show 8 ≤ 34 by decide), bAw_o (show 8 ≤ 40 by decide), bAw_o (show 8 ≤ 41 by decide), bAw_o (show 8 ≤ 42 by decide), bAw_o (show 8 ≤ 43 by decide), bAw_o (show 8 ≤ 45 by decide), bAw_1, bAw_7, bMw_0, bMw_o (show 7 ≤ 1 ∨ 1 = 1 by decide), bMw_o (show 7 ≤ 7 ∨ 7 = 1 by decide), bMw_o (show 7 ≤ 8 ∨ 8 = 1 by decide), bMw_o (show 7 ≤ 9 ∨ 9 = 1 by decide), bMw_o (show 7 ≤ 10 ∨ 10 = 1 by decide), bMw_o (show 7 ≤ 21 ∨ 21 = 1 by decide)]
  refine ⟨⟨fun k hk => by rw [bAw_set hk, bMw_2 hk], SetOK_0.congr (fun k hk => bMw_2 hk)⟩, fun l hl => ?_, rfl, ⟨0, by decide, rfl, rfl, fun k hk => absurd hk (Nat.not_lt_zero _)⟩, ⟨0, by decide, rfl, rfl, fun k hk => absurd hk (Nat.not_lt_zero _)⟩, h.2.2.2.2.2.1, h.2.2.2.2.2.2.1, h.2.2.2.2.2.2.2⟩
  rw [bAw_z (by decide) hl, bAw_z (by decide) hl, bAw_z (by decide) hl, bAw_z (by decide) hl, bMw_z (by decide) hl, bMw_z (by decide) hl, bMw_z (by decide) hl, bMw_z (by decide) hl]
  exact ⟨⟨rfl, Bd_0 (by decide)⟩, ⟨rfl, Bd_0 (by decide)⟩, ⟨rfl, Bd_0 (by decide)⟩, ⟨rfl, Bd_0 (by decide)⟩⟩
