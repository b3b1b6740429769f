/-! both remember -/
theorem rm4_0 (f c : Nat → Int32) (a : Int32) {j : Nat} (hj : j < 4) : rm4 f c a j = if j = 3 then a else c j := by
  have : j = 0 ∨ j = 1 ∨ j = 2 ∨ j = 3 := by omega
  rcases this with rfl | rfl | rfl | rfl <;> simp [rm4, upd]
theorem rm4_k (f c : Nat → Int32) (a : Int32) {k j : Nat} (h1 : 1 ≤ k) (hk : k ≤ 9) (hj : j < 4) : rm4 f c a (4 * k + j) = f (4 * (k - 1) + j) := by
  unfold rm4
  rw [upd_ne (by omega), upd_ne (by omega), upd_ne (by omega), upd_ne (by omega)]
  unfold rsh
  rw [if_pos (by omega), show 4 * k + j - 4 = 4 * (k - 1) + j by omega]
theorem RM_add {W : Mem} {r : Nat} {f g c : Nat → Int32} {a : Int32} (hr : r ≤ 9) (hW : W 40 = f) (hf : ∀ k, 1 ≤ k → k ≤ r → ∀ j, j < 4 → f (4 * (r - k) + j) = g (4 * (k - 1) + j)) :
    RM (nI (r + 1)) ((addW W 39 r (c 0) (c 1) (c 2) a) 40) (nI (r + 1)) (rm4 g c a) := by
  have e : addW W 39 r (c 0) (c 1) (c 2) a 40 = upd (upd (upd (upd f (4 * r) (c 0)) (4 * r + 1) (c 1)) (4 * r + 2) (c 2)) (4 * r + 3) a := by
    unfold addW
    rw [ms_ne (by decide), ms_eq, ms_eq, ms_eq, ms_eq, hW]
  refine ⟨r + 1, by omega, rfl, rfl, fun k hk j hj => ?_⟩
  rw [e, show r + 1 - 1 - k = r - k by omega]
  by_cases z : k = 0
  · subst z
    rw [show 4 * 0 + j = j by omega, rm4_0 g c a hj, show r - 0 = r by omega]
    have : j = 0 ∨ j = 1 ∨ j = 2 ∨ j = 3 := by omega
    rcases this with rfl | rfl | rfl | rfl <;> simp [upd]
  · rw [upd_ne (by omega), upd_ne (by omega), upd_ne (by omega), upd_ne (by omega), rm4_k g c a (by omega) (by omega) hj]
    exact hf k (by omega) (by omega) j hj
