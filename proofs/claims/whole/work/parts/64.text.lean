/-! the text: what stands where -/
def thr (b : Nat → Int32) (t p : Nat) : Int32 := if t ≤ p then -1 else b p
def tsk (b : Nat → Int32) (t : Nat) : Nat → Nat → Nat
  | 0, p => p
  | n + 1, p => if thr b t p = 32 then tsk b t n (p + 1) else p
def tsp (b : Nat → Int32) (t p : Nat) : Nat := tsk b t (t - p) p
theorem tsk_le (b : Nat → Int32) (t : Nat) : ∀ (n p : Nat), p ≤ tsk b t n p ∧ tsk b t n p ≤ p + n
  | 0, p => ⟨Nat.le_refl _, Nat.le_refl _⟩
  | n + 1, p => by
    have := tsk_le b t n (p + 1)
    unfold tsk
    split <;> omega
theorem tsp_le {b : Nat → Int32} {t p : Nat} (h : p ≤ t) : p ≤ tsp b t p ∧ tsp b t p ≤ t := by
  have := tsk_le b t (t - p) p
  unfold tsp
  omega
theorem tsk_ne (b : Nat → Int32) (t : Nat) : ∀ (n p : Nat), p + n = t → thr b t (tsk b t n p) ≠ 32
  | 0, p, h => by
    unfold tsk thr
    rw [if_pos (by omega)]
    decide
  | n + 1, p, h => by
    unfold tsk
    split
    · exact tsk_ne b t n (p + 1) (by omega)
    · next z => exact z
theorem tsp_tsp {b : Nat → Int32} {t p : Nat} (h : p ≤ t) : tsp b t (tsp b t p) = tsp b t p := by
  have h1 := tsp_le (b := b) h
  have h2 : thr b t (tsp b t p) ≠ 32 := tsk_ne b t (t - p) p (by omega)
  generalize tsp b t p = q at h1 h2
  unfold tsp
  cases t - q with
  | zero => rfl
  | succ n => unfold tsk; rw [if_neg h2]
def tdg (b : Nat → Int32) (t : Nat) : Nat → Nat → Nat → Int32 → Nat × Nat × Int32
  | 0, p, c, v => (p, c, v)
  | n + 1, p, c, v => if wi (thr b t p) 48 57 = 0 then (p, c, v) else tdg b t n (p + 1) (c + 1) (if 3 ≤ c then v else v * 10 + thr b t p - 48)
def tbn (c : Nat) : Int := if c = 0 then 0 else if c = 1 then 9 else if c = 2 then 99 else 999
theorem tdg_ok (b : Nat → Int32) (t : Nat) : ∀ (n p c : Nat) (v : Int32), (0 ≤ v.toInt ∧ v.toInt ≤ tbn c) → (tdg b t n p c v).1 + c = p + (tdg b t n p c v).2.1 ∧ p ≤ (tdg b t n p c v).1 ∧ (tdg b t n p c v).1 ≤ p + n ∧ 0 ≤ (tdg b t n p c v).2.2.toInt
  | 0, p, c, v, h => ⟨rfl, Nat.le_refl _, Nat.le_refl _, h.1⟩
  | n + 1, p, c, v, h => by
    unfold tdg
    split
    · exact ⟨rfl, Nat.le_refl _, by omega, h.1⟩
    · next z =>
      have d := lit_bd z (a := 48) (b := 57) (by decide) (by decide)
      have h' : 0 ≤ (if 3 ≤ c then v else v * 10 + thr b t p - 48).toInt ∧ (if 3 ≤ c then v else v * 10 + thr b t p - 48).toInt ≤ tbn (c + 1) := by
        unfold tbn at h ⊢
        split
        · rw [if_neg (by omega), if_neg (by omega), if_neg (by omega)] at h
          rw [if_neg (by omega), if_neg (by omega), if_neg (by omega)]
          exact h
        · have hb : v.toInt ≤ 99 := by
            split at h
            · omega
            · split at h
              · omega
              · rw [if_pos (by omega)] at h; exact h.2
          have e : (v * 10 + thr b t p - 48).toInt = v.toInt * 10 + (thr b t p).toInt - 48 := i_sub (i_add (i_mul rfl (i_lit (x := 10)) (by omega)) rfl (by omega)) (i_lit (x := 48)) (by omega)
          rw [e]
          rcases (show c = 0 ∨ c = 1 ∨ c = 2 by omega) with rfl | rfl | rfl
          · simp only [if_true] at h
            rw [if_neg (by omega), if_pos (by omega)]
            omega
          · simp only [if_neg (show ¬ 1 = 0 by decide), if_true] at h
            rw [if_neg (by omega), if_neg (by omega), if_pos (by omega)]
            omega
          · simp only [if_neg (show ¬ 2 = 0 by decide), if_neg (show ¬ 2 = 1 by decide), if_true] at h
            rw [if_neg (by omega), if_neg (by omega), if_neg (by omega)]
            omega
      have := tdg_ok b t n (p + 1) (c + 1) _ h'
      omega
/-- the end of the figures, how many, what they say -/
def tnd (b : Nat → Int32) (t q : Nat) : Nat × Nat × Int32 := tdg b t (t - q) q 0 0
theorem tnd_ok {b : Nat → Int32} {t q : Nat} (h : q ≤ t) : (tnd b t q).1 = q + (tnd b t q).2.1 ∧ (tnd b t q).1 ≤ t ∧ 0 ≤ (tnd b t q).2.2.toInt := by
  have := tdg_ok b t (t - q) q 0 0 (by unfold tbn; rw [if_pos rfl]; exact ⟨by decide, by decide⟩)
  unfold tnd
  omega
def tgd (b : Nat → Int32) (t : Nat) (most : Int32) (q : Nat) : Bool := decide (1 ≤ (tnd b t q).2.1) && (decide ((tnd b t q).2.1 ≤ 3) && decide ((tnd b t q).2.2 ≤ most))
/-! the class reads -/
def TC (W : Mem) (b : Nat → Int32) (t : Nat) : Prop := W 41 2 = nI t ∧ t ≤ 120 ∧ ∀ k, k < t → W 42 k = b k
def tpl (W : Mem) (p : Nat) : Mem := mst W 41 3 (nI p)
theorem tpl_3 {W : Mem} {p : Nat} : tpl W p 41 3 = nI p := by unfold tpl; rw [ms_eq, upd_eq]
theorem tpl_j {W : Mem} {p j : Nat} (h : j ≠ 3) : tpl W p 41 j = W 41 j := by unfold tpl; rw [ms_eq, upd_ne h]
theorem tpl_o {W : Mem} {p i : Nat} (h : i ≠ 41) : tpl W p i = W i := by unfold tpl; rw [ms_ne h]
theorem tpl_t (W : Mem) (p q : Nat) : mst (tpl W p) 41 3 (nI q) = tpl W q := by unfold tpl; rw [ms_ms]
theorem tpl_p (W : Mem) (p : Nat) : mst (tpl W p) 41 3 (nI p + 1) = tpl W (p + 1) := by rw [nI_p1, tpl_t]
theorem TC.pl {W : Mem} {b : Nat → Int32} {t : Nat} (h : TC W b t) (p : Nat) : TC (tpl W p) b t := ⟨by rw [tpl_j (by decide)]; exact h.1, h.2.1, fun k hk => by rw [tpl_o (by decide)]; exact h.2.2 k hk⟩
theorem byte_e {W : Mem} {b : Nat → Int32} {t : Nat} (h : TC W b t) {p : Nat} (hp : p ≤ t) : F_X5_byteHere (tpl W p) = some (thr b t p, tpl W p) := by
  obtain ⟨h1, h2, h3⟩ := h
  unfold F_X5_byteHere thr
  rw [tpl_3, tpl_j (by decide), h1, tpl_o (by decide), if_neg (by rw [show (0 : Int32) = nI 0 from rfl, nI_ltk (by omega) (by omega)]; omega)]
  by_cases z : t ≤ p
  · rw [if_pos (by rw [nI_lek (by omega) (by omega)]; exact z), if_pos z]
  · rw [if_neg (by rw [nI_lek (by omega) (by omega)]; exact z), if_neg z, if_neg (by rw [show (120 : Int32) = nI 120 from rfl, nI_lek (by omega) (by omega)]; omega), inb_nI (by omega) (by decide), gd_t, ix_nI (by omega), h3 p (by omega)]
theorem blank_loop {W : Mem} {b : Nat → Int32} {t : Nat} (h : TC W b t) {k : Mem → Option (Unit × Mem)} : ∀ (n p F : Nat), p + n = t → n < F → L_X5_skipBlanks_0 k F (tpl W p) = k (tpl W (tsk b t n p)) := by
  have h2 := h.2.1
  intro n
  induction n with
  | zero =>
    intro p F hp hF
    obtain ⟨F, rfl⟩ : ∃ F', F = F' + 1 := ⟨F - 1, by omega⟩
    rw [L_X5_skipBlanks_0, tpl_3, tpl_j (by decide), h.1, if_pos (by rw [nI_lek (by omega) (by omega)]; omega)]
    rfl
  | succ n ih =>
    intro p F hp hF
    obtain ⟨F, rfl⟩ : ∃ F', F = F' + 1 := ⟨F - 1, by omega⟩
    rw [L_X5_skipBlanks_0, tpl_3, tpl_j (by decide), h.1, if_neg (by rw [nI_lek (by omega) (by omega)]; omega), byte_e h (by omega), bd_m]
    unfold tsk
    by_cases z : thr b t p = 32
    · rw [if_pos z, if_pos z, lt_m, tpl_3, tpl_p, ih (p + 1) F (by omega) (by omega)]
    · rw [if_neg z, if_neg z]
theorem blank_e {W : Mem} {b : Nat → Int32} {t : Nat} (h : TC W b t) {p : Nat} (hp : p ≤ t) : F_X5_skipBlanks (tpl W p) = some ((), tpl W (tsp b t p)) := by
  unfold F_X5_skipBlanks
  have := h.2.1
  rw [blank_loop h (t - p) p 300 (by omega) (by omega)]
  rfl
theorem numC_loop {W : Mem} {b : Nat → Int32} {t : Nat} (h : TC W b t) {most : Int32} {q : Nat} {k : Int32 → Mem → Option (Int32 × Mem)} : ∀ (n p c F : Nat) (v : Int32), p + n = t → n < F → q + c = p → L_X5_readNumber_11 most (nI q) k F v (tpl W p) = k (tdg b t n p c v).2.2 (tpl W (tdg b t n p c v).1) := by
  have h2 := h.2.1
  intro n
  induction n with
  | zero =>
    intro p c F v hp hF hc
    obtain ⟨F, rfl⟩ : ∃ F', F = F' + 1 := ⟨F - 1, by omega⟩
    rw [L_X5_readNumber_11, tpl_3, tpl_j (by decide), h.1, if_pos (by rw [nI_lek (by omega) (by omega)]; omega)]
    rfl
  | succ n ih =>
    intro p c F v hp hF hc
    obtain ⟨F, rfl⟩ : ∃ F', F = F' + 1 := ⟨F - 1, by omega⟩
    rw [L_X5_readNumber_11, tpl_3, tpl_j (by decide), h.1, if_neg (by rw [nI_lek (by omega) (by omega)]; omega), byte_e h (by omega), bd_m, within_e, bd_m, tpl_3]
    unfold tdg
    by_cases z : wi (thr b t p) 48 57 = 0
    · rw [if_pos z, if_pos z]
    · rw [if_neg z, if_neg z, nI_sb' (by omega) (by omega), show p - q = c by omega, byte_e h (by omega), bd_m, lt_m, lt_m, lt_m, tpl_3, tpl_p]
      by_cases y : 3 ≤ c
      · rw [if_pos (by rw [show (3 : Int32) = nI 3 from rfl, nI_lek (by omega) (by omega)]; exact y), if_pos y, ih (p + 1) (c + 1) F _ (by omega) (by omega) (by omega)]
      · rw [if_neg (by rw [show (3 : Int32) = nI 3 from rfl, nI_lek (by omega) (by omega)]; exact y), if_neg y, ih (p + 1) (c + 1) F _ (by omega) (by omega) (by omega)]
theorem numC_e {W : Mem} {b : Nat → Int32} {t : Nat} (h : TC W b t) (most : Int32) {p : Nat} (hp : p ≤ t) : F_X5_readNumber most (tpl W p) = if tgd b t most (tsp b t p) = true then some ((tnd b t (tsp b t p)).2.2, tpl W (tnd b t (tsp b t p)).1) else some (0, mst (tpl W (tnd b t (tsp b t p)).1) 41 4 (nI (tsp b t p))) := by
  have h2 := h.2.1
  have hq := (tsp_le (b := b) hp).2
  have nd := tnd_ok (b := b) hq
  unfold F_X5_readNumber
  rw [blank_e h hp, bd_m, tpl_3]
  generalize tsp b t p = q at hq nd
  have e := numC_loop (W := W) h (most := most) (q := q) (k := fun (x20 : Int32) (w19 : Mem) => jn (bd (F_X5_failAt (nI q) w19) (fun (r23 : Unit) (w22 : Mem) => some ((0 : Int32), w22))) (fun k21 => if ((w19 41 3) - (nI q)) = (0 : Int32) then (k21) else (if (3 : Int32) < ((w19 41 3) - (nI q)) then (k21) else (if x20 ≤ most then (some (x20, w19)) else (k21))))) (t - q) q 0 300 0 (by omega) (by omega) (by omega)
  rw [e]
  show jn (bd (F_X5_failAt (nI q) (tpl W (tnd b t q).1)) (fun (r23 : Unit) (w22 : Mem) => some ((0 : Int32), w22))) (fun k21 => if (((tpl W (tnd b t q).1) 41 3) - (nI q)) = (0 : Int32) then (k21) else (if (3 : Int32) < (((tpl W (tnd b t q).1) 41 3) - (nI q)) then (k21) else (if (tnd b t q).2.2 ≤ most then (some ((tnd b t q).2.2, (tpl W (tnd b t q).1))) else (k21)))) = _
  unfold F_X5_failAt tgd
  rw [lt_m, bd_m, jn_m, tpl_3, nI_sb' (by omega) (by omega), show (tnd b t q).1 - q = (tnd b t q).2.1 by omega]
  generalize (tnd b t q).2.1 = c at nd
  by_cases z : c = 0
  · rw [if_pos (by rw [nI_eq0 (by omega)]; exact z), if_neg (by simp; omega)]
  · rw [if_neg (by rw [nI_eq0 (by omega)]; exact z)]
    by_cases y : 3 < c
    · rw [if_pos (by rw [show (3 : Int32) = nI 3 from rfl, nI_ltk (by omega) (by omega)]; exact y), if_neg (by simp; omega)]
    · rw [if_neg (by rw [show (3 : Int32) = nI 3 from rfl, nI_ltk (by omega) (by omega)]; exact y)]
      by_cases x : (tnd b t q).2.2 ≤ most
      · rw [if_pos x, if_pos (by simp only [Bool.and_eq_true, decide_eq_true_eq]; exact ⟨by omega, by omega, x⟩)]
      · rw [if_neg x, if_neg (by simp only [Bool.and_eq_true, decide_eq_true_eq]; exact fun q => x q.2.2)]
