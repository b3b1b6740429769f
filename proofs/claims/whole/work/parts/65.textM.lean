/-! the reference reads -/
theorem m_ext0 {A B : Mem} (h0 : ∀ j, A 0 j = B 0 j) (h : ∀ i, i ≠ 0 → A i = B i) : A = B := by
  funext i
  by_cases e : i = 0
  · subst e; funext j; exact h0 j
  · exact h i e
def trf (V : Mem) (p m x c : Int32) : Mem := mst (mst (mst (mst V 0 33 p) 0 34 m) 0 35 x) 0 36 c
theorem trf_0 {V : Mem} {p m x c : Int32} : trf V p m x c 0 = upd (upd (upd (upd (V 0) 33 p) 34 m) 35 x) 36 c := by
  unfold trf
  rw [ms_eq, ms_eq, ms_eq, ms_eq]
theorem trf_o {V : Mem} {p m x c : Int32} {i : Nat} (h : i ≠ 0) : trf V p m x c i = V i := by
  unfold trf
  rw [ms_ne h, ms_ne h, ms_ne h, ms_ne h]
theorem trf_j {V : Mem} {p m x c : Int32} {j : Nat} (h1 : j ≠ 33) (h2 : j ≠ 34) (h3 : j ≠ 35) (h4 : j ≠ 36) : trf V p m x c 0 j = V 0 j := by
  rw [trf_0, upd_ne h4, upd_ne h3, upd_ne h2, upd_ne h1]
theorem trf_p {V : Mem} {p m x c : Int32} : trf V p m x c 0 33 = p := by rw [trf_0, upd_ne (by decide), upd_ne (by decide), upd_ne (by decide), upd_eq]
theorem trf_m {V : Mem} {p m x c : Int32} : trf V p m x c 0 34 = m := by rw [trf_0, upd_ne (by decide), upd_ne (by decide), upd_eq]
theorem trf_x {V : Mem} {p m x c : Int32} : trf V p m x c 0 35 = x := by rw [trf_0, upd_ne (by decide), upd_eq]
theorem trf_c {V : Mem} {p m x c : Int32} : trf V p m x c 0 36 = c := by rw [trf_0, upd_eq]
theorem trf_sp (V : Mem) (p m x c v : Int32) : mst (trf V p m x c) 0 33 v = trf V v m x c := m_ext0 (fun j => by
  rw [ms_eq, trf_0, trf_0]
  unfold upd
  (repeat' split) <;> first | rfl | omega) (fun i hi => by rw [ms_ne hi, trf_o hi, trf_o hi])
theorem trf_sm (V : Mem) (p m x c v : Int32) : mst (trf V p m x c) 0 34 v = trf V p v x c := m_ext0 (fun j => by
  rw [ms_eq, trf_0, trf_0]
  unfold upd
  (repeat' split) <;> first | rfl | omega) (fun i hi => by rw [ms_ne hi, trf_o hi, trf_o hi])
theorem trf_sx (V : Mem) (p m x c v : Int32) : mst (trf V p m x c) 0 35 v = trf V p m v c := m_ext0 (fun j => by
  rw [ms_eq, trf_0, trf_0]
  unfold upd
  (repeat' split) <;> first | rfl | omega) (fun i hi => by rw [ms_ne hi, trf_o hi, trf_o hi])
theorem trf_sc (V : Mem) (p m x c v : Int32) : mst (trf V p m x c) 0 36 v = trf V p m x v := m_ext0 (fun j => by
  rw [ms_eq, trf_0, trf_0]
  unfold upd
  (repeat' split) <;> first | rfl | omega) (fun i hi => by rw [ms_ne hi, trf_o hi, trf_o hi])
theorem trf_self (V : Mem) : trf V (V 0 33) (V 0 34) (V 0 35) (V 0 36) = V := m_ext0 (fun j => by
  rw [trf_0]
  unfold upd
  (repeat' split) <;> first | rfl | (subst_vars; rfl)) (fun i hi => trf_o hi)
def TM (V : Mem) (b : Nat → Int32) (t : Nat) : Prop := V 0 32 = nI t ∧ t ≤ 120 ∧ V 21 = b
theorem here_e {V : Mem} {b : Nat → Int32} {t : Nat} (h : TM V b t) {p : Nat} (hp : p ≤ t) {m x c : Int32} : F_X7_here (trf V (nI p) m x c) = some (thr b t p, trf V (nI p) m x c) := by
  obtain ⟨h1, h2, h3⟩ := h
  unfold F_X7_here thr
  rw [trf_p, trf_j (by decide) (by decide) (by decide) (by decide), h1, trf_o (by decide), h3]
  by_cases z : t ≤ p
  · rw [if_pos (by rw [nI_lek (by omega) (by omega)]; exact z), if_pos z]
  · rw [if_neg (by rw [nI_lek (by omega) (by omega)]; exact z), if_neg z, inb_nI (by omega) (by decide), gd_t, ix_nI (by omega)]
theorem skips_loop {V : Mem} {b : Nat → Int32} {t : Nat} (h : TM V b t) {m x c : Int32} {k : Mem → Option (Unit × Mem)} : ∀ (n p F : Nat), p + n = t → n < F → L_X7_skips_0 k F (trf V (nI p) m x c) = k (trf V (nI (tsk b t n p)) m x c) := by
  have h2 := h.2.1
  intro n
  induction n with
  | zero =>
    intro p F hp hF
    obtain ⟨F, rfl⟩ : ∃ F', F = F' + 1 := ⟨F - 1, by omega⟩
    have e : thr b t p ≠ 32 := by unfold thr; rw [if_pos (by omega)]; decide
    rw [L_X7_skips_0, here_e h (by omega), bd_m, if_neg e]
    rfl
  | succ n ih =>
    intro p F hp hF
    obtain ⟨F, rfl⟩ : ∃ F', F = F' + 1 := ⟨F - 1, by omega⟩
    rw [L_X7_skips_0, here_e h (by omega), bd_m]
    unfold tsk
    by_cases z : thr b t p = 32
    · rw [if_pos z, if_pos z, lt_m, trf_p, trf_sp, nI_p1, ih (p + 1) F (by omega) (by omega)]
    · rw [if_neg z, if_neg z]
theorem skips_e {V : Mem} {b : Nat → Int32} {t : Nat} (h : TM V b t) {p : Nat} (hp : p ≤ t) {m x c : Int32} : F_X7_skips (trf V (nI p) m x c) = some ((), trf V (nI (tsp b t p)) (nI (tsp b t p)) x c) := by
  have := h.2.1
  unfold F_X7_skips
  rw [skips_loop h (t - p) p 300 (by omega) (by omega), lt_m, trf_p, trf_sm]
  rfl
theorem numM_loop {V : Mem} {b : Nat → Int32} {t : Nat} (h : TM V b t) {most m x d : Int32} {k : Int32 → Int32 → Mem → Option (Int32 × Mem)} : ∀ (n p c F : Nat) (v : Int32), p + n = t → n < F → c + n ≤ 1000 → L_X7_number_8 most k F (nI c) v (trf V (nI p) m x d) = k (nI (tdg b t n p c v).2.1) (tdg b t n p c v).2.2 (trf V (nI (tdg b t n p c v).1) m x d) := by
  have h2 := h.2.1
  intro n
  induction n with
  | zero =>
    intro p c F v hp hF hc
    obtain ⟨F, rfl⟩ : ∃ F', F = F' + 1 := ⟨F - 1, by omega⟩
    have e : wi (thr b t p) 48 57 = 0 := by unfold thr; rw [if_pos (by omega)]; decide
    rw [L_X7_number_8, here_e h (by omega), bd_m, in_e, bd_m, if_pos e]
    rfl
  | succ n ih =>
    intro p c F v hp hF hc
    obtain ⟨F, rfl⟩ : ∃ F', F = F' + 1 := ⟨F - 1, by omega⟩
    rw [L_X7_number_8, here_e h (by omega), bd_m, in_e, bd_m]
    unfold tdg
    by_cases z : wi (thr b t p) 48 57 = 0
    · rw [if_pos z, if_pos z]
    · rw [if_neg z, if_neg z, here_e h (by omega), bd_m, lt_m, lt_m, lt_m, trf_p, trf_sp, nI_p1, nI_p1]
      by_cases y : 3 ≤ c
      · rw [if_pos (by rw [show (3 : Int32) = nI 3 from rfl, nI_lek (by omega) (by omega)]; exact y), if_pos y, ih (p + 1) (c + 1) F _ (by omega) (by omega) (by omega)]
      · rw [if_neg (by rw [show (3 : Int32) = nI 3 from rfl, nI_lek (by omega) (by omega)]; exact y), if_neg y, Int32.mul_comm 10 v, ih (p + 1) (c + 1) F _ (by omega) (by omega) (by omega)]
theorem numM_e {V : Mem} {b : Nat → Int32} {t : Nat} (h : TM V b t) (most : Int32) {p : Nat} (hp : p ≤ t) {m x d : Int32} : F_X7_number most (trf V (nI p) m x d) = some (if tgd b t most (tsp b t p) = true then 1 else 0, trf V (nI (tnd b t (tsp b t p)).1) (nI (tsp b t p)) (tnd b t (tsp b t p)).2.2 d) := by
  have h2 := h.2.1
  have hq := (tsp_le (b := b) hp).2
  have nd := tnd_ok (b := b) hq
  unfold F_X7_number
  rw [skips_e h hp, bd_m]
  generalize tsp b t p = q at hq nd
  have e := numM_loop (V := V) h (most := most) (m := nI q) (x := x) (d := d) (k := fun (x19 : Int32) (x20 : Int32) (w18 : Mem) => lt (mst w18 0 35 x20) (fun (w21 : Mem) => bd (F_X7_in x19 (1 : Int32) (3 : Int32) w21) (fun (r23 : Int32) (w22 : Mem) => if r23 = (0 : Int32) then (some ((0 : Int32), w22)) else (if most < x20 then (some ((0 : Int32), w22)) else (some ((1 : Int32), w22)))))) (t - q) q 0 300 0 (by omega) (by omega) (by omega)
  rw [z0] at e
  rw [e]
  show lt (mst (trf V (nI (tnd b t q).1) (nI q) x d) 0 35 (tnd b t q).2.2) (fun (w21 : Mem) => bd (F_X7_in (nI (tnd b t q).2.1) (1 : Int32) (3 : Int32) w21) (fun (r23 : Int32) (w22 : Mem) => if r23 = (0 : Int32) then (some ((0 : Int32), w22)) else (if most < (tnd b t q).2.2 then (some ((0 : Int32), w22)) else (some ((1 : Int32), w22))))) = _
  rw [lt_m, trf_sx, in_e, bd_m]
  unfold tgd
  have e1 : (1 : Int32).toInt = 1 := by decide
  have e3 : (3 : Int32).toInt = 3 := by decide
  have ec := i_nI (n := (tnd b t q).2.1) (by omega)
  by_cases z : 1 ≤ (tnd b t q).2.1 ∧ (tnd b t q).2.1 ≤ 3
  · rw [if_neg (by rw [wi_t (by rw [ec, e1, e3]; omega)]; decide)]
    by_cases y : (tnd b t q).2.2 ≤ most
    · rw [if_neg (by rw [nlt_le]; simpa using y), if_pos (by simp only [Bool.and_eq_true, decide_eq_true_eq]; exact ⟨z.1, z.2, y⟩)]
    · rw [if_pos (by rw [nlt_le]; exact y), if_neg (by simp only [Bool.and_eq_true, decide_eq_true_eq]; exact fun q => y q.2.2)]
  · rw [if_pos (by rw [wi_f (by rw [ec, e1, e3]; omega)]), if_neg (by simp only [Bool.and_eq_true, decide_eq_true_eq]; exact fun q => z ⟨q.1, q.2.1⟩)]
