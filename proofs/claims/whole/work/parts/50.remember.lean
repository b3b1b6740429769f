/-! what the reference remembers -/
def rsh (f : Nat → Int32) (j : Nat) : Nat → Int32 := fun k => if j < k ∧ k ≤ 39 then f (k - 4) else f k
theorem rsh_step (f : Nat → Int32) {j : Nat} (h : 4 ≤ j) (h' : j ≤ 39) : upd (rsh f j) j (rsh f j (j - 4)) = rsh f (j - 1) := by
  funext k
  unfold upd rsh
  by_cases e : k = j
  · rw [if_pos e, if_neg (by omega), if_pos (by omega), e]
  · rw [if_neg e]
    by_cases q : j < k ∧ k ≤ 39
    · rw [if_pos q, if_pos (by omega)]
    · rw [if_neg q, if_neg (by omega)]
theorem rem_loop {V0 : Mem} {f : Nat → Int32} {a : Int32} {k : Mem → Option (Unit × Mem)} : ∀ (r F : Nat) (V : Mem), r ≤ 36 → r < F → V 10 = rsh f (r + 3) → (∀ i, i ≠ 10 → V i = V0 i) →
    ∃ V', L_X7_remembers_3 a k F (nI (r + 3)) V = k V' ∧ V' 10 = rsh f 3 ∧ ∀ i, i ≠ 10 → V' i = V0 i := by
  intro r
  induction r with
  | zero =>
    intro F V _ hF h fr
    obtain ⟨F, rfl⟩ : ∃ F', F = F' + 1 := ⟨F - 1, by omega⟩
    refine ⟨V, ?_, h, fr⟩
    rw [L_X7_remembers_3, if_pos (by decide)]
  | succ r ih =>
    intro F V hr hF h fr
    obtain ⟨F, rfl⟩ : ∃ F', F = F' + 1 := ⟨F - 1, by omega⟩
    have e1 : nI (r + 1 + 3) - 4 = nI (r + 1 + 3 - 4) := nI_sb' (b := 4) (by omega) (by omega)
    have e2 : nI (r + 1 + 3) + -1 = nI (r + 3) := by
      rw [← Int32.sub_eq_add_neg]
      exact nI_sb' (b := 1) (by omega) (by omega)
    obtain ⟨V', q, q1, q2⟩ := ih F (mst V 10 (r + 1 + 3) (V 10 (r + 1 + 3 - 4))) (by omega) (by omega) (by rw [ms_eq, h, rsh_step f (by omega) (by omega)]; rfl) (fun i hi => by rw [ms_ne hi, fr i hi])
    refine ⟨V', ?_, q1, q2⟩
    rw [L_X7_remembers_3, if_neg (by rw [show (4 : Int32) = nI 4 from rfl, nI_ltk (by omega) (by omega)]; omega), e1, inb_nI (by omega) (by decide), gd_t, inb_nI (by omega) (by decide), gd_t, lt_m, ix_nI (by omega), ix_nI (by omega), e2, q]
theorem bz_01 {a : Int32} (h : bz a = true) : a = 0 ∨ a = 1 := by
  unfold bz at h
  simp only [Bool.or_eq_true, decide_eq_true_eq] at h
  exact h
def rm4 (f c : Nat → Int32) (a : Int32) : Nat → Int32 := upd (upd (upd (upd (rsh f 3) 0 (c 0)) 1 (c 1)) 2 (c 2)) 3 a
theorem remembers_e {V : Mem} {a : Int32} {r : Nat} (ha : a = 0 ∨ a = 1) (e : V 0 11 = nI r) (hr : r ≤ 10) : ∃ V', F_X7_remembers a V = some ((), V') ∧ V' 10 = rm4 (V 10) (V 3) a ∧ V' 0 11 = nI (min 10 (r + 1)) ∧ (∀ i, i ≠ 10 → i ≠ 0 → V' i = V i) ∧ ∀ j, j ≠ 11 → V' 0 j = V 0 j := by
  obtain ⟨V1, f1, h10, fr⟩ := rem_loop (V0 := V) (f := V 10) (a := a) (k := fun (w5 : Mem) => lt (mst w5 10 0 (w5 3 0)) (fun (w6 : Mem) => lt (mst w6 10 1 (w6 3 1)) (fun (w7 : Mem) => lt (mst w7 10 2 (w7 3 2)) (fun (w8 : Mem) => jn (fun (x10 : Int32) => lt (mst w8 10 3 x10) (fun (w11 : Mem) => if (10 : Int32) ≤ (w11 0 11) then (lt (mst w11 0 11 ((w11 0 11) + (0 : Int32))) (fun (w12 : Mem) => some ((), w12))) else (lt (mst w11 0 11 ((w11 0 11) + (1 : Int32))) (fun (w13 : Mem) => some ((), w13))))) (fun k9 => if a = (0 : Int32) then (k9 (0 : Int32)) else (k9 (1 : Int32))))))) 36 300 V (by decide) (by decide) (by funext k; unfold rsh; rw [if_neg (by omega)]) (fun i _ => rfl)
  have e3 : V1 3 = V 3 := fr 3 (by decide)
  have e0 : V1 0 = V 0 := fr 0 (by decide)
  unfold F_X7_remembers
  rw [show (39 : Int32) = nI (36 + 3) from rfl, f1]
  simp only [lt_m, jn_m]
  have n3 : ∀ {U : Mem} {j x}, (mst U 10 j x) 3 = U 3 := ms_ne (by decide)
  have n0 : ∀ {U : Mem} {j x}, (mst U 10 j x) 0 = U 0 := ms_ne (by decide)
  have fin : ∀ v : Int32, v = nI (min 10 (r + 1)) → ∃ V', (some ((), mst (mst (mst (mst (mst V1 10 0 (V 3 0)) 10 1 (V 3 1)) 10 2 (V 3 2)) 10 3 a) 0 11 v) : Option (Unit × Mem)) = some ((), V') ∧ V' 10 = rm4 (V 10) (V 3) a ∧ V' 0 11 = nI (min 10 (r + 1)) ∧ (∀ i, i ≠ 10 → i ≠ 0 → V' i = V i) ∧ ∀ j, j ≠ 11 → V' 0 j = V 0 j := by
    intro v hv
    refine ⟨_, rfl, ?_, ?_, ?_, ?_⟩
    · rw [ms_ne (by decide), ms_eq, ms_eq, ms_eq, ms_eq, h10]; rfl
    · rw [ms_eq, upd_eq, hv]
    · intro i h1 h2
      rw [ms_ne h2, ms_ne h1, ms_ne h1, ms_ne h1, ms_ne h1, fr i h1]
    · intro j hj
      rw [ms_eq, upd_ne hj, n0, n0, n0, n0, e0]
  simp only [n3, n0, e3, e0, e]
  have main : ∀ x : Int32, x = a → ∃ V', (if (10 : Int32) ≤ nI r then some ((), mst (mst (mst (mst (mst V1 10 0 (V 3 0)) 10 1 (V 3 1)) 10 2 (V 3 2)) 10 3 x) 0 11 (nI r + 0)) else some ((), mst (mst (mst (mst (mst V1 10 0 (V 3 0)) 10 1 (V 3 1)) 10 2 (V 3 2)) 10 3 x) 0 11 (nI r + 1)) : Option (Unit × Mem)) = some ((), V') ∧ V' 10 = rm4 (V 10) (V 3) a ∧ V' 0 11 = nI (min 10 (r + 1)) ∧ (∀ i, i ≠ 10 → i ≠ 0 → V' i = V i) ∧ ∀ j, j ≠ 11 → V' 0 j = V 0 j := by
    intro x hx
    rw [hx]
    by_cases z : 10 ≤ r
    · rw [if_pos (by rw [show (10 : Int32) = nI 10 from rfl, nI_lek (by omega) (by omega)]; exact z)]
      exact fin _ (by rw [show r = 10 by omega]; rfl)
    · rw [if_neg (by rw [show (10 : Int32) = nI 10 from rfl, nI_lek (by omega) (by omega)]; exact z)]
      exact fin _ (by rw [nI_p1, Nat.min_eq_right (by omega)])
  rcases ha with rfl | rfl
  · rw [if_pos rfl]; exact main 0 rfl
  · rw [if_neg (by decide)]; exact main 1 rfl
