/-! what the reference remembers -/
def rsh (f : Nat → Int32) (j : Nat) : Nat → Int32 := fun k => if j < k ∧ k ≤ 39 then f (k - 4) else f k
theorem rsh_step (f : Nat → Int32) {j : Nat} (h : 4 ≤ j) (h' : j ≤ 39) : upd (rsh f j) j (rsh f j (j - 4)) = rsh f (j - 1) := by
  funext k
  unfold upd rsh
  by_cases e : k = j
  · rw [if_pos e, if_neg (by omega), if_pos (by omega), e]
  · rw [if_neg e]
    by_cases q : j < k ∧ k ≤ 39
    · rw [if_pos q, if_pos (by omega)]
    · rw [if_neg q, if_neg (by omega)]
theorem rem_loop {V0 : Mem} {f : Nat → Int32} {a : Int32} {k : Mem → Option (Unit × Mem)} : ∀ (r F : Nat) (V : Mem), r ≤ 36 → r < F → V 10 = rsh f (r + 3) → (∀ i, i ≠ 10 → V i = V0 i) →
    ∃ V', L_X7_remembers_3 a k F (nI (r + 3)) V = k V' ∧ V' 10 = rsh f 3 ∧ ∀ i, i ≠ 10 → V' i = V0 i := by
  intro r
  induction r with
  | zero =>
    intro F V _ hF h fr
    obtain ⟨F, rfl⟩ : ∃ F', F = F' + 1 := ⟨F - 1, by omega⟩
    refine ⟨V, ?_, h, fr⟩
    rw [L_X7_remembers_3, if_pos (by decide)]
  | succ r ih =>
    intro F V hr hF h fr
    obtain ⟨F, rfl⟩ : ∃ F', F = F' + 1 := ⟨F - 1, by omega⟩
    have e1 : nI (r + 1 + 3) - 4 = nI (r + 1 + 3 - 4) := nI_sb' (b := 4) (by omega) (by omega)
    have e2 : nI (r + 1 + 3) + -1 = nI (r + 3) := by
      rw [← Int32.sub_eq_add_neg]
      exact nI_sb' (b := 1) (by omega) (by omega)
    obtain ⟨V', q, q1, q2⟩ := ih F (mst V 10 (r + 1 + 3) (V 10 (r + 1 + 3 - 4))) (by omega) (by omega) (by rw [ms_eq, h, rsh_step f (by omega) (by omega)]; rfl) (fun i hi => by rw [ms_ne hi, fr i hi])
    refine ⟨V', ?_, q1, q2⟩
    rw [L_X7_remembers_3, if_neg (by rw [show (4 : Int32) = nI 4 from rfl, nI_ltk (by omega) (by omega)]; omega), e1, inb_nI (by omega) (by decide), gd_t, inb_nI (by omega) (by decide), gd_t, lt_m, ix_nI (by omega), ix_nI (by omega), e2, q]
