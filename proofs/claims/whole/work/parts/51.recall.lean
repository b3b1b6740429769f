/-! what the class remembers -/
def dfs (f : Nat → Int32) (j : Nat) : Nat → Int32 := fun k => if k < 4 * (j - 1) then f (k + 4) else f k
theorem mv_cell (W : Mem) (t a b k : Nat) : mvW W t a b (t + 1) k = if 4 * b ≤ k ∧ k < 4 * b + 4 then W (t + 1) (4 * a + (k - 4 * b)) else W (t + 1) k := by
  unfold mvW mcp va_cpy
  rw [if_pos rfl]
theorem dfs_step {W : Mem} {t j : Nat} {f : Nat → Int32} (h : W (t + 1) = dfs f j) (hj : 1 ≤ j) : mvW W t j (j - 1) (t + 1) = dfs f (j + 1) := by
  funext k
  rw [mv_cell, h]
  unfold dfs
  by_cases q : 4 * (j - 1) ≤ k ∧ k < 4 * (j - 1) + 4
  · rw [if_pos q, if_neg (by omega), if_pos (by omega), show 4 * j + (k - 4 * (j - 1)) = k + 4 by omega]
  · rw [if_neg q]
    by_cases z : k < 4 * (j - 1)
    · rw [if_pos z, if_pos (by omega)]
    · rw [if_neg z, if_neg (by omega)]
theorem df_loop {W0 : Mem} {f : Nat → Int32} {t n : Nat} (hn : n ≤ 12) (hL : 4 * n ≤ lnC (t + 1)) {k : Mem → Option (Unit × Mem)} : ∀ (r j F : Nat) (W : Mem), j + r = n → 1 ≤ j → r < F → W t 2 = nI n → W (t + 1) = dfs f j → FC t W0 W →
    ∃ W', L_X4_dropFirst_2 t k F (nI j) W = k W' ∧ W' t 2 = nI n ∧ W' (t + 1) = dfs f n ∧ FC t W0 W' := by
  intro r
  induction r with
  | zero =>
    intro j F W hj h1 hF e h fr
    obtain ⟨F, rfl⟩ : ∃ F', F = F' + 1 := ⟨F - 1, by omega⟩
    obtain rfl : j = n := by omega
    refine ⟨W, ?_, e, h, fr⟩
    rw [L_X4_dropFirst_2, e, if_pos (by rw [nI_lek (by omega) (by omega)]; omega)]
  | succ r ih =>
    intro j F W hj h1 hF e h fr
    obtain ⟨F, rfl⟩ : ∃ F', F = F' + 1 := ⟨F - 1, by omega⟩
    obtain ⟨W', q, rest⟩ := ih (j + 1) F (mvW W t j (j - 1)) (by omega) (by omega) (by omega) (by rw [mv_fc.2, e]) (dfs_step h h1) (fr.trans mv_fc.1)
    refine ⟨W', ?_, rest⟩
    rw [L_X4_dropFirst_2, e, if_neg (by rw [nI_lek (by omega) (by omega)]; omega), show nI j - 1 = nI (j - 1) from nI_sb' (b := 1) (by omega) (by omega), moveRow_e e hn (by omega) (by omega) hL, bd_m, nI_p1, q]
theorem dropFirst_e {W : Mem} {t n : Nat} (hn : n ≤ 12) (h1 : 1 ≤ n) (hL : 4 * n ≤ lnC (t + 1)) (e : W t 2 = nI n) : ∃ W', F_X4_dropFirst t W = some ((), W') ∧ W' t 2 = nI (n - 1) ∧ W' (t + 1) = dfs (W (t + 1)) n ∧ FC t W W' := by
  obtain ⟨W1, f1, e1, c1, r1⟩ := df_loop (W0 := W) (f := W (t + 1)) hn hL (k := fun (w5 : Mem) => bd (F_X4_cutTo t ((w5 t 2) - (1 : Int32)) w5) (fun (r7 : Unit) (w6 : Mem) => some ((), w6))) (n - 1) 1 300 W (by omega) (by decide) (by omega) e (by funext k; unfold dfs; rw [if_neg (by omega)]) (FC.refl t W)
  refine ⟨mst W1 t 2 (nI (n - 1)), ?_, ?_, ?_, ?_⟩
  · unfold F_X4_dropFirst
    rw [show (1 : Int32) = nI 1 from rfl] at f1 ⊢
    rw [f1, e1, nI_sb' (by omega) (by omega), cutK_e e1 (by omega) hn, bd_m]
  · rw [ms_eq, upd_eq]
  · rw [ms_ne (by omega), c1]
  · exact r1.trans ⟨fun i h1 _ => ms_ne h1, by rw [ms_eq, upd_ne (by decide)]⟩
