theorem even_of {v : Int32} (hr : 12 ≤ v.toInt ∧ v.toInt ≤ 96) (h : irm v 2 = 0) : v.toInt % 2 = 0 := by
  unfold irm at h
  have e2 : (2 : Int32).toInt = 2 := by decide
  have h1 : (v / 2).toInt = v.toInt.tdiv 2 := i_div rfl e2 (by omega)
  have hb := tdiv_bd (x := v.toInt) (y := 2) 96 (by omega)
  have h2 : (v / 2 * 2).toInt = v.toInt.tdiv 2 * 2 := i_mul h1 e2 (by omega)
  have h3 : (v - v / 2 * 2).toInt = v.toInt - v.toInt.tdiv 2 * 2 := i_sub rfl h2 (by omega)
  rw [h] at h3
  have e0 : (0 : Int32).toInt = 0 := by decide
  omega
def mayv (n : Nat) (v : Int32) : Int32 := match n with
  | 0 => if wi v 12 96 = 0 then 0 else if irm v 2 = 0 then 1 else 0
  | 1 => wi v 0 5
  | 2 => wi v 0 1
  | 3 => wi v 1 20
  | 4 => wi v 0 20
  | 5 => wi v 0 20
  | _ => wi v 0 1
theorem may_e {n : Nat} (hn : n ≤ 6) (v : Int32) (w : Mem) : F_X7_may (nI n) v w = some (mayv n v, w) := by
  unfold F_X7_may
  simp only [in_e, bd_m, jn_m, wi_z, gd_t]
  match n, hn with
  | 0, _ =>
    rw [if_pos (by decide)]
    show _ = some ((if wi v 12 96 = 0 then (0 : Int32) else if irm v 2 = 0 then 1 else 0), w)
    split
    · rfl
    · split <;> rfl
  | 1, _ => rfl
  | 2, _ => rfl
  | 3, _ => rfl
  | 4, _ => rfl
  | 5, _ => rfl
  | 6, _ => rfl
  | q + 7, hq => exact absurd hq (by omega)
theorem RS.up {s t : Nat → Int32} (h : RS s t) {n : Nat} {v : Int32} (hs : SetOK (upd t n v)) : RS (upd s n v) (upd t n v) := by
  refine ⟨fun k hk => ?_, hs⟩
  simp only [upd]
  split
  · rfl
  · exact h.1 k hk
theorem ok01 {v : Int32} (h : ¬ wi v 0 1 = 0) : v = 0 ∨ v = 1 := by
  obtain ⟨n, hn, rfl⟩ := rng (N := 1) h (by decide)
  match n, hn with
  | 0, _ => exact Or.inl rfl
  | 1, _ => exact Or.inr rfl
  | q + 2, hq => exact absurd hq (by omega)
theorem lit_bd {v lo hi : Int32} {a b : Int} (h : ¬ wi v lo hi = 0) (h1 : lo.toInt = a) (h2 : hi.toInt = b) : a ≤ v.toInt ∧ v.toInt ≤ b := by
  have := wi_1 h
  omega
theorem may_ok {t : Nat → Int32} (h : SetOK t) {n : Nat} (hn : n ≤ 6) {v : Int32} (hm : ¬ mayv n v = 0) : SetOK (upd t n v) := by
  obtain ⟨h0, h1, h2, h3, h4, h5, h6⟩ := h
  match n, hn with
  | 0, _ =>
    have hm : ¬ (if wi v 12 96 = 0 then (0 : Int32) else if irm v 2 = 0 then 1 else 0) = 0 := hm
    by_cases q : wi v 12 96 = 0
    · rw [if_pos q] at hm; exact absurd rfl hm
    rw [if_neg q] at hm
    by_cases e : irm v 2 = 0
    · have hr := lit_bd q (a := 12) (b := 96) (by decide) (by decide)
      exact ⟨⟨hr.1, hr.2, even_of hr e⟩, h1, h2, h3, h4, h5, h6⟩
    · rw [if_neg e] at hm; exact absurd rfl hm
  | 1, _ => exact ⟨h0, lit_bd hm (a := 0) (b := 5) (by decide) (by decide), h2, h3, h4, h5, h6⟩
  | 2, _ => exact ⟨h0, h1, ok01 hm, h3, h4, h5, h6⟩
  | 3, _ => exact ⟨h0, h1, h2, lit_bd hm (a := 1) (b := 20) (by decide) (by decide), h4, h5, h6⟩
  | 4, _ => exact ⟨h0, h1, h2, h3, lit_bd hm (a := 0) (b := 20) (by decide) (by decide), h5, h6⟩
  | 5, _ => exact ⟨h0, h1, h2, h3, h4, lit_bd hm (a := 0) (b := 20) (by decide) (by decide), h6⟩
  | 6, _ => exact ⟨h0, h1, h2, h3, h4, h5, ok01 hm⟩
  | q + 7, hq => exact absurd hq (by omega)
theorem setsC {n : Nat} (hn : n ≤ 6) (v : Int32) (w : Mem) : F_X6_sets (nI n) v w = if mayv n v = 0 then some (-2, mst w 45 0 (w 45 0 + 1)) else some (w 2 n, mst w 2 n v) := by
  unfold F_X6_sets
  have e0 : (0 : Int32).toInt = 0 := by decide
  have e6 : (6 : Int32).toInt = 6 := by decide
  have h1 : wi (nI n) 0 6 = 1 := wi_t (by rw [i_nI (by omega), e0, e6]; omega)
  simp only [within_e, bd_m, h1, if_neg (show ¬ (1 : Int32) = 0 by decide), inb_nI (show n < 7 by omega) (by decide), gd_t, jn_m, lt_m, refuseBad_e, ix_nI (show n < 2 ^ 31 by omega)]
  match n, hn with
  | 0, _ =>
    show (if wi v 12 96 = 0 then _ else if nI 0 = 0 then (if irm v 2 = 0 then _ else _) else _) = if (if wi v 12 96 = 0 then (0 : Int32) else if irm v 2 = 0 then 1 else 0) = 0 then _ else _
    by_cases q : wi v 12 96 = 0
    · simp only [if_pos q, if_true]
    · simp only [if_neg q, if_pos (show nI 0 = (0 : Int32) from rfl)]
      by_cases e : irm v 2 = 0
      · simp only [if_pos e, if_neg (show ¬ (1 : Int32) = 0 by decide)]
      · simp only [if_neg e, if_true]
  | 1, _ => rfl
  | 2, _ => rfl
  | 3, _ => rfl
  | 4, _ => rfl
  | 5, _ => rfl
  | 6, _ => rfl
  | q + 7, hq => exact absurd hq (by omega)
theorem setsM {n : Nat} (hn : n ≤ 6) (v : Int32) (w : Mem) : F_X7_sets (nI n) v w = if mayv n v = 0 then some (-2, mst w 1 0 (w 1 0 + 1)) else some (w 2 n, mst w 2 n v) := by
  unfold F_X7_sets
  have e0 : (0 : Int32).toInt = 0 := by decide
  have e6 : (6 : Int32).toInt = 6 := by decide
  have h1 : wi (nI n) 0 6 = 1 := wi_t (by rw [i_nI (by omega), e0, e6]; omega)
  simp only [in_e, bd_m, h1, if_neg (show ¬ (1 : Int32) = 0 by decide), may_e hn, inb_nI (show n < 7 by omega) (by decide), gd_t, lt_m, bad_e, ix_nI (show n < 2 ^ 31 by omega)]
theorem sim_sets : S2 Rel F_X6_sets F_X7_sets := by
  intro a v wC wM h
  by_cases ha : wi a 0 6 = 0
  · unfold F_X6_sets F_X7_sets
    simp only [within_e, in_e, bd_m]
    rw [if_pos ha, if_pos ha]; exact S_bad h
  obtain ⟨n, hn, rfl⟩ := rng (N := 6) ha (by decide)
  rw [setsC hn, setsM hn]
  by_cases hm : mayv n v = 0
  · rw [if_pos hm, if_pos hm]; exact S_bad' h
  rw [if_neg hm, if_neg hm]
  refine ⟨wC 2 n, mst wC 2 n v, mst wM 2 n v, rfl, by rw [h.1.1 n (by omega)], ?_, h.2⟩
  exact h.1.up (may_ok h.1.2 hn hm)
/-! wish, wished, memory -/
theorem ln7 : lnC (7 + 1) = 4 * 12 := rfl
theorem ln39 : lnC (39 + 1) = 4 * 10 := rfl
theorem RQ.add {n m : Int32} {c a b v : Nat → Int32} {q : Nat} (hq : q < 12) (hk : ∀ k, k < q → c (4 * k) = a k ∧ c (4 * k + 1) = b k ∧ c (4 * k + 2) = v k ∧ WishOK (a k) (b k) (v k)) {x y z : Int32} (hw : WishOK x y z) (u : Int32) :
    RQ (nI (q + 1)) (upd (upd (upd (upd c (4 * q) x) (4 * q + 1) y) (4 * q + 2) z) (4 * q + 3) u) (nI (q + 1)) (upd a q x) (upd b q y) (upd v q z) := by
  refine ⟨q + 1, by omega, rfl, rfl, fun k hk' => ?_⟩
  by_cases e : k = q
  · subst e
    simp only [upd]
    refine ⟨?_, ?_, ?_, ?_⟩
    · rw [if_neg (by omega), if_neg (by omega), if_neg (by omega), if_pos trivial, if_pos trivial]
    · rw [if_neg (by omega), if_neg (by omega), if_pos trivial, if_pos trivial]
    · rw [if_neg (by omega), if_pos trivial, if_pos trivial]
    · rw [if_pos trivial, if_pos trivial, if_pos trivial]; exact hw
  · obtain ⟨h1, h2, h3, h4⟩ := hk k (by omega)
    simp only [upd]
    rw [if_neg e, if_neg e, if_neg e]
    refine ⟨?_, ?_, ?_, h4⟩
    · rw [if_neg (by omega), if_neg (by omega), if_neg (by omega), if_neg (by omega)]; exact h1
    · rw [if_neg (by omega), if_neg (by omega), if_neg (by omega), if_neg (by omega)]; exact h2
    · rw [if_neg (by omega), if_neg (by omega), if_neg (by omega), if_neg (by omega)]; exact h3
def cwM (w : Mem) (q : Nat) (x y z : Int32) : Mem := mst (mst (mst (mst w 7 q x) 8 q y) 9 q z) 0 7 (nI (q + 1))
theorem comesWish_e {w : Mem} {q : Nat} (e : w 0 7 = nI q) (hq : q < 12) (x y z : Int32) : F_X7_comesWish x y z w = some ((), cwM w q x y z) := by
  unfold F_X7_comesWish
  have e1 : (mst w 7 q x) 0 7 = nI q := e
  have e2 : (mst (mst w 7 q x) 8 q y) 0 7 = nI q := e
  have e3 : (mst (mst (mst w 7 q x) 8 q y) 9 q z) 0 7 = nI q := e
  simp only [e, inb_nI hq (by decide), gd_t, lt_m, ix_nI (show q < 2 ^ 31 by omega), e1, e2, e3, nI_p1]
  rfl
theorem Rel.wish {wC wM : Mem} (h : Rel wC wM) {q : Nat} (hq : q < 12) (e1 : wC 7 2 = nI q) (e2 : wM 0 7 = nI q) (hk : ∀ k, k < q → wC 8 (4 * k) = wM 7 k ∧ wC 8 (4 * k + 1) = wM 8 k ∧ wC 8 (4 * k + 2) = wM 9 k ∧ WishOK (wM 7 k) (wM 8 k) (wM 9 k)) {x y z : Int32} (hw : WishOK x y z) (u : Int32) : Rel (addW wC 7 q x y z u) (cwM wM q x y z) :=
  ⟨h.1, h.2.1, h.2.2.1, RQ.add (n := 0) (m := 0) hq hk hw u, h.2.2.2.2.1, h.2.2.2.2.2.1, h.2.2.2.2.2.2.1, h.2.2.2.2.2.2.2⟩
theorem sim_wish : S3 Rel F_X6_wish F_X7_wish := by
  intro a b c wC wM h
  obtain ⟨q, hq, e1, e2, hk⟩ := h.2.2.2.1
  have hK := h.2.2.2.2.2.2.2
  unfold F_X6_wish F_X7_wish
  simp only [isLeg_e, isLeg7_e, within_e, in_e, bd_m]
  by_cases ha : wi a 0 2 = 0
  · rw [if_pos ha, if_pos ha]; exact S_bad h
  rw [if_neg ha, if_neg ha]
  by_cases hb : wi b 0 999 = 0
  · rw [if_pos hb, if_pos hb]; exact S_bad h
  rw [if_neg hb, if_neg hb]
  by_cases hc : wi c (-500) 500 = 0
  · rw [if_pos hc, if_pos hc]; exact S_bad h
  rw [if_neg hc, if_neg hc]
  have ok : WishOK a b c := ⟨leg3 ha, (lit_bd hb (a := 0) (b := 999) (by decide) (by decide)).2, lit_bd hc (by decide) (by decide)⟩
  have hmo : wC 7 0 = nI 12 := hK.1
  rcases Nat.lt_or_ge q 12 with hlt | hge
  · rw [isFull_f e1 hmo hlt (by decide)]
    simp only [bd_m, if_true, add_in e1 hmo hlt (by decide) ln7, comesWish_e e2 hlt, if_neg (show ¬ wM 0 7 = 12 by rw [e2, show (12 : Int32) = nI 12 from rfl, nI_eqk (by omega) (by decide)]; omega)]
    exact ⟨nI (q + 1), _, _, rfl, rfl, h.wish hlt e1 e2 hk ok 0⟩
  · have : q = 12 := by omega
    subst this
    rw [isFull_t e1 hmo (by decide) (by decide)]
    simp only [bd_m, if_neg (show ¬ (1 : Int32) = 0 by decide), if_pos (show wM 0 7 = 12 from e2)]
    exact S_full h
theorem neg_lt {a : Int32} (h : ¬ a < 0) : 0 ≤ a.toInt := by
  rw [Int32.lt_iff_toInt_lt] at h
  have e0 : (0 : Int32).toInt = 0 := by decide
  omega
theorem nat_of {a : Int32} (h : ¬ a < 0) : ∃ n : Nat, n < 2 ^ 31 ∧ a = nI n := by
  have h0 := neg_lt h
  have hb : a.toInt < 2 ^ 31 := Int32.toInt_lt a
  exact ⟨a.toInt.toNat, by omega, i_ext (by rw [nI_toInt (by omega)]; omega)⟩
theorem sim_wished : S2 Rel F_X6_wished F_X7_wished := by
  intro a b wC wM h
  obtain ⟨q, hq, e1, e2, hk⟩ := h.2.2.2.1
  unfold F_X6_wished F_X7_wished
  simp only [within_e, in_e, bd_m]
  by_cases ha : a < 0
  · rw [if_pos ha, if_pos ha]; exact S_bad h
  rw [if_neg ha, if_neg ha]
  by_cases hb : wi b 0 2 = 0
  · rw [if_pos hb, if_pos hb]; exact S_bad h
  rw [if_neg hb, if_neg hb]
  obtain ⟨n, hn, rfl⟩ := nat_of ha
  rcases Nat.lt_or_ge n q with hlt | hge
  · rw [if_pos (by rw [e2, nI_ltk hn (by omega)]; exact hlt)]
    simp only [inb_nI (show n < 12 by omega) (by decide), gd_t, ix_nI hn]
    obtain ⟨h1, h2, h3, -⟩ := hk n hlt
    obtain ⟨j, hj, rfl⟩ := rng (N := 2) hb (by decide)
    rw [cellOr_in e1 hq (by decide) ln7 hlt (by omega)]
    match j, hj with
    | 0, _ => exact ⟨wC 8 (4 * n), wC, wM, rfl, by rw [h1]; rfl, h⟩
    | 1, _ => exact ⟨wC 8 (4 * n + 1), wC, wM, rfl, by rw [h2]; rfl, h⟩
    | 2, _ => exact ⟨wC 8 (4 * n + 2), wC, wM, rfl, by rw [h3]; rfl, h⟩
    | q + 3, hq => exact absurd hq (by omega)
  · rw [if_neg (by rw [e2, nI_ltk hn (by omega)]; omega), cellOr_out e1 (by omega) (Or.inr (by rw [i_nI hn]; omega))]
    exact ⟨_, wC, wM, rfl, rfl, h⟩
theorem sim_memory : S2 Rel F_X6_memory F_X7_memory := by
  intro a b wC wM h
  obtain ⟨q, hq, e1, e2, hk⟩ := h.2.2.2.2.1
  unfold F_X6_memory F_X7_memory
  simp only [within_e, in_e, bd_m]
  by_cases ha : a < 0
  · rw [if_pos ha, if_pos ha]; exact S_bad h
  rw [if_neg ha, if_neg ha]
  by_cases hb : wi b 0 3 = 0
  · rw [if_pos hb, if_pos hb]; exact S_bad h
  rw [if_neg hb, if_neg hb]
  obtain ⟨n, hn, rfl⟩ := nat_of ha
  obtain ⟨j, hj, rfl⟩ := rng (N := 3) hb (by decide)
  have hsub : (wC 39 2 - 1 - nI n).toInt = (q : Int) - 1 - n := by
    rw [e1]
    exact i_sub (nI_sub1 (by omega)) (i_nI hn) (by omega)
  rcases Nat.lt_or_ge n q with hlt | hge
  · have e : wC 39 2 - 1 - nI n = nI (q - 1 - n) := i_ext (by rw [hsub, i_nI (by omega)]; omega)
    have e4 : (4 : Int32) * nI n + nI j = nI (4 * n + j) := i_ext (by rw [i_add (i_mul (x := 4) (i_lit) (i_nI hn) (by omega)) (i_nI (by omega)) (by omega), i_nI (by omega)]; omega)
    rw [if_neg (by rw [e2, nI_lek (by omega) hn]; omega), e, cellOr_in e1 hq (by decide) ln39 (by omega) (by omega), e4]
    simp only [inb_nI (show 4 * n + j < 40 by omega) (by decide), gd_t, ix_nI (show 4 * n + j < 2 ^ 31 by omega), bd_m]
    exact ⟨_, wC, wM, rfl, by rw [← hk n hlt j (by omega)], h⟩
  · rw [if_pos (by rw [e2, nI_lek (by omega) hn]; exact hge), cellOr_out e1 (by omega) (Or.inl (by rw [hsub]; omega))]
    exact ⟨_, wC, wM, rfl, rfl, h⟩
