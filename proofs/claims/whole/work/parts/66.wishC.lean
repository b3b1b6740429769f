/-! one wish of the text -/
def twA (b : Nat → Int32) (t q : Nat) : Nat ⊕ (Nat × Int32) := if thr b t q = 43 ∨ thr b t q = 45 then (if tgd b t 500 (tsp b t (q + 1)) = true then .inr (tsp b t (tnd b t (tsp b t (q + 1))).1, if thr b t q = 45 then -(tnd b t (tsp b t (q + 1))).2.2 else (tnd b t (tsp b t (q + 1))).2.2) else .inl (tsp b t (q + 1))) else .inr (q, 0)
def twP (b : Nat → Int32) (t : Nat) (now : Int32) (q : Nat) : Nat ⊕ (Nat × Int32) := if thr b t q = 64 then (if tgd b t 999 (tsp b t (q + 1)) = true then .inr (tsp b t (tnd b t (tsp b t (q + 1))).1, (tnd b t (tsp b t (q + 1))).2.2) else .inl (tsp b t (q + 1))) else .inr (q, now)
def twE (b : Nat → Int32) (t : Nat) (l w : Int32) (s : Nat × Int32) : Nat ⊕ (Nat × Wi) := if thr b t s.1 = 59 then .inr (s.1 + 1, (l, s.2, w)) else .inl s.1
def twB (b : Nat → Int32) (t : Nat) (now l : Int32) (s : Nat × Int32) : Nat ⊕ (Nat × Wi) := match twP b t now s.1 with
  | .inl f => .inl f
  | .inr u => twE b t l s.2 u
def tww (b : Nat → Int32) (t : Nat) (now : Int32) (p : Nat) : Nat ⊕ (Nat × Wi) := if wi (thr b t p) 117 119 = 0 then .inl p else match twA b t (tsp b t (p + 1)) with
  | .inl f => .inl f
  | .inr s => twB b t now (thr b t p - 117) s
theorem thr_lt {b : Nat → Int32} {t p : Nat} {v : Int32} (h : thr b t p = v) (hv : v ≠ -1) : p < t := by
  unfold thr at h
  split at h
  · exact absurd h.symm hv
  · omega
theorem tgd_ok {b : Nat → Int32} {t q : Nat} {most : Int32} {n : Int} (hq : q ≤ t) (h : tgd b t most q = true) (hm : most.toInt = n) : 0 ≤ (tnd b t q).2.2.toInt ∧ (tnd b t q).2.2.toInt ≤ n := by
  unfold tgd at h
  simp only [Bool.and_eq_true, decide_eq_true_eq] at h
  have h3 := h.2.2
  rw [Int32.le_iff_toInt_le, hm] at h3
  exact ⟨(tnd_ok hq).2.2, h3⟩
theorem twA_ok {b : Nat → Int32} {t q : Nat} (hq : q ≤ t) (hs : tsp b t q = q) : match twA b t q with
    | .inl f => f ≤ t
    | .inr u => u.1 ≤ t ∧ tsp b t u.1 = u.1 ∧ Bd 500 u.2 := by
  unfold twA
  by_cases z : thr b t q = 43 ∨ thr b t q = 45
  · have lt : q < t := by
      rcases z with z | z
      · exact thr_lt z (by decide)
      · exact thr_lt z (by decide)
    have hn := (tsp_le (b := b) (show q + 1 ≤ t by omega)).2
    rw [if_pos z]
    by_cases y : tgd b t 500 (tsp b t (q + 1)) = true
    · rw [if_pos y]
      have v := tgd_ok hn y (n := 500) (by decide)
      have e := tnd_ok (b := b) hn
      refine ⟨(tsp_le e.2.1).2, tsp_tsp e.2.1, ?_⟩
      show Bd 500 (if thr b t q = 45 then -(tnd b t (tsp b t (q + 1))).2.2 else (tnd b t (tsp b t (q + 1))).2.2)
      split
      · unfold Bd
        rw [i_neg rfl (by omega)]
        omega
      · exact ⟨by omega, v.2⟩
    · rw [if_neg y]
      exact hn
  · rw [if_neg z]
    exact ⟨hq, hs, Bd_0 (by decide)⟩
theorem twP_ok {b : Nat → Int32} {t q : Nat} {now : Int32} (hq : q ≤ t) (hs : tsp b t q = q) (hw : now.toInt ≤ 999) : match twP b t now q with
    | .inl f => f ≤ t
    | .inr u => u.1 ≤ t ∧ tsp b t u.1 = u.1 ∧ u.2.toInt ≤ 999 := by
  unfold twP
  by_cases z : thr b t q = 64
  · have lt : q < t := thr_lt z (by decide)
    have hn := (tsp_le (b := b) (show q + 1 ≤ t by omega)).2
    rw [if_pos z]
    by_cases y : tgd b t 999 (tsp b t (q + 1)) = true
    · rw [if_pos y]
      have v := tgd_ok hn y (n := 999) (by decide)
      have e := tnd_ok (b := b) hn
      exact ⟨(tsp_le e.2.1).2, tsp_tsp e.2.1, v.2⟩
    · rw [if_neg y]
      exact hn
  · rw [if_neg z]
    exact ⟨hq, hs, hw⟩
theorem twi (x : Int32) : wi (x - 117) 0 2 = wi x 117 119 := by
  have e117 : (117 : Int32).toInt = 117 := by decide
  have e119 : (119 : Int32).toInt = 119 := by decide
  have e0 : (0 : Int32).toInt = 0 := by decide
  have e2 : (2 : Int32).toInt = 2 := by decide
  by_cases z : wi x 117 119 = 0
  · rw [z]
    by_cases y : wi (x - 117) 0 2 = 0
    · exact y
    · have q := leg3 y
      have xx : x = x - 117 + 117 := by rw [Int32.sub_add_cancel]
      rcases q with q | q | q <;> rw [q] at xx <;> rw [xx] at z <;> exact absurd z (by decide)
  · have r := wi_1 z
    rw [e117, e119] at r
    have e : (x - 117).toInt = x.toInt - 117 := i_sub rfl e117 (by omega)
    rw [wi_t (show (0 : Int32).toInt ≤ (x - 117).toInt ∧ (x - 117).toInt ≤ (2 : Int32).toInt by rw [e, e0, e2]; omega), wi_t (show (117 : Int32).toInt ≤ x.toInt ∧ x.toInt ≤ (119 : Int32).toInt by rw [e117, e119]; omega)]
theorem tww_ok {b : Nat → Int32} {t p : Nat} {now : Int32} (hp : p ≤ t) (hw : now.toInt ≤ 999) : match tww b t now p with
    | .inl f => f ≤ t
    | .inr u => u.1 ≤ t ∧ WishOK u.2.1 u.2.2.1 u.2.2.2 := by
  unfold tww
  by_cases z : wi (thr b t p) 117 119 = 0
  · rw [if_pos z]; exact hp
  · have lt : p < t := by
      apply Nat.lt_of_not_le
      intro q
      apply z
      unfold thr
      rw [if_pos q]
      decide
    rw [if_neg z]
    have s1 := tsp_le (b := b) (show p + 1 ≤ t by omega)
    have a := twA_ok s1.2 (tsp_tsp (by omega))
    generalize twA b t (tsp b t (p + 1)) = A at a
    cases A with
    | inl f => exact a
    | inr s =>
      obtain ⟨a1, a2, a3⟩ := a
      show match twB b t now (thr b t p - 117) s with
        | .inl f => f ≤ t
        | .inr u => u.1 ≤ t ∧ WishOK u.2.1 u.2.2.1 u.2.2.2
      unfold twB
      have c := twP_ok (now := now) a1 a2 hw
      generalize twP b t now s.1 = P at c
      cases P with
      | inl f => exact c
      | inr u =>
        obtain ⟨c1, c2, c3⟩ := c
        show match twE b t (thr b t p - 117) s.2 u with
          | .inl f => f ≤ t
          | .inr u => u.1 ≤ t ∧ WishOK u.2.1 u.2.2.1 u.2.2.2
        unfold twE
        by_cases y : thr b t u.1 = 59
        · rw [if_pos y]
          have := thr_lt y (by decide)
          exact ⟨by show u.1 + 1 ≤ t; omega, leg3 (by rw [twi]; exact z), c3, a3⟩
        · rw [if_neg y]; exact c1
/-! the class -/
theorem tpl_4 (W : Mem) (p : Nat) (v : Int32) : mst (tpl W p) 41 4 v = tpl (mst W 41 4 v) p := by
  funext i
  unfold tpl mst
  by_cases e : i = 41
  · rw [if_pos e, if_pos e, if_pos rfl, if_pos rfl]
    funext j
    unfold upd
    (repeat' split) <;> first | rfl | omega
  · rw [if_neg e, if_neg e, if_neg e, if_neg e]
theorem TC.s4 {W : Mem} {b : Nat → Int32} {t : Nat} (h : TC W b t) (v : Int32) : TC (mst W 41 4 v) b t := ⟨by rw [ms_eq, upd_ne (by decide)]; exact h.1, h.2.1, fun k hk => by rw [ms_ne (by decide)]; exact h.2.2 k hk⟩
theorem wantC_e {W : Mem} {b : Nat → Int32} {t : Nat} (h : TC W b t) {p : Nat} (hp : p ≤ t) : match twA b t (tsp b t p) with
    | .inl f => ∃ p' r, p' ≤ t ∧ F_X5_readWant (tpl W p) = some (r, tpl (mst W 41 4 (nI f)) p')
    | .inr u => ∃ p', p' ≤ t ∧ tsp b t p' = u.1 ∧ F_X5_readWant (tpl W p) = some (u.2, tpl W p') := by
  have s1 := tsp_le (b := b) hp
  have ss := tsp_tsp (b := b) hp
  unfold F_X5_readWant twA
  rw [blank_e h hp, bd_m]
  generalize tsp b t p = q at s1 ss
  rw [byte_e h s1.2, bd_m, jn_m, lt_m, tpl_3, tpl_p]
  by_cases z : thr b t q = 43 ∨ thr b t q = 45
  · have lt : q < t := by
      rcases z with z | z
      · exact thr_lt z (by decide)
      · exact thr_lt z (by decide)
    have hn := (tsp_le (b := b) (show q + 1 ≤ t by omega)).2
    have e := tnd_ok (b := b) hn
    have pick : ∀ A B : Option (Int32 × Mem), (if thr b t q = 43 then A else if thr b t q = 45 then A else B) = A := fun A B => by
      rcases z with z | z
      · rw [if_pos z]
      · rw [if_neg (by rw [z]; decide), if_pos z]
    rw [if_pos z, pick, numC_e h 500 (by omega)]
    by_cases y : tgd b t 500 (tsp b t (q + 1)) = true
    · rw [if_pos y, if_pos y, bd_m]
      refine ⟨_, e.2.1, rfl, ?_⟩
      by_cases x : thr b t q = 45
      · rw [if_pos x]; show _ = some ((if thr b t q = 45 then _ else _), _); rw [if_pos x]
      · rw [if_neg x]; show _ = some ((if thr b t q = 45 then _ else _), _); rw [if_neg x]
    · rw [if_neg y, if_neg y, bd_m, tpl_4]
      by_cases x : thr b t q = 45
      · rw [if_pos x]; exact ⟨_, _, e.2.1, rfl⟩
      · rw [if_neg x]; exact ⟨_, _, e.2.1, rfl⟩
  · rw [if_neg z, if_neg (fun y => z (Or.inl y)), if_neg (fun y => z (Or.inr y))]
    exact ⟨q, s1.2, ss, rfl⟩
theorem periodC_e {W : Mem} {b : Nat → Int32} {t : Nat} (h : TC W b t) {p : Nat} (hp : p ≤ t) (now : Int32) : match twP b t now (tsp b t p) with
    | .inl f => ∃ p' r, p' ≤ t ∧ F_X5_readPeriod now (tpl W p) = some (r, tpl (mst W 41 4 (nI f)) p')
    | .inr u => ∃ p', p' ≤ t ∧ tsp b t p' = u.1 ∧ F_X5_readPeriod now (tpl W p) = some (u.2, tpl W p') := by
  have s1 := tsp_le (b := b) hp
  have ss := tsp_tsp (b := b) hp
  unfold F_X5_readPeriod twP
  rw [blank_e h hp, bd_m]
  generalize tsp b t p = q at s1 ss
  rw [byte_e h s1.2, bd_m, lt_m, tpl_3, tpl_p]
  by_cases z : thr b t q = 64
  · have lt : q < t := thr_lt z (by decide)
    have hn := (tsp_le (b := b) (show q + 1 ≤ t by omega)).2
    have e := tnd_ok (b := b) hn
    rw [if_pos z, if_pos z, numC_e h 999 (by omega)]
    by_cases y : tgd b t 999 (tsp b t (q + 1)) = true
    · rw [if_pos y, if_pos y, bd_m]
      exact ⟨_, e.2.1, rfl, rfl⟩
    · rw [if_neg y, if_neg y, bd_m, tpl_4]
      exact ⟨_, _, e.2.1, rfl⟩
  · rw [if_neg z, if_neg z]
    exact ⟨q, s1.2, ss, rfl⟩
theorem endC_e {W : Mem} {b : Nat → Int32} {t : Nat} (h : TC W b t) {p : Nat} (hp : p ≤ t) : F_X5_readEnd (tpl W p) = if thr b t (tsp b t p) = 59 then some (1, tpl W (tsp b t p + 1)) else some (0, tpl (mst W 41 4 (nI (tsp b t p))) (tsp b t p)) := by
  have s1 := tsp_le (b := b) hp
  unfold F_X5_readEnd
  rw [blank_e h hp, bd_m, byte_e h s1.2, bd_m, lt_m, tpl_3, tpl_p]
  unfold F_X5_failAt
  rw [lt_m, bd_m, tpl_4]
