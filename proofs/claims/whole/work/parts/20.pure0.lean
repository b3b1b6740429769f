/-! PURE: what both sides hold alike -/
theorem gd_t {β : Type} (k : Option β) : gd true k = k := rfl
theorem bd_m {α β : Type} (a : α) (w : Mem) (f : α → Mem → Option β) : bd (some (a, w)) f = f a w := rfl
theorem lt_m {α β : Type} (a : α) (f : α → Option β) : lt a f = f a := rfl
theorem jn_m {κ β : Type} (k : κ) (g : κ → Option β) : jn k g = g k := rfl
def wi (a b c : Int32) : Int32 := if a < b then 0 else if c < a then 0 else 1
theorem within_e (a b c : Int32) (w : Mem) : F_X6_within a b c w = some (wi a b c, w) := by
  unfold F_X6_within wi
  split
  · rfl
  · split <;> rfl
theorem in_e (a b c : Int32) (w : Mem) : F_X7_in a b c w = some (wi a b c, w) := by
  unfold F_X7_in wi
  split
  · rfl
  · split <;> rfl
theorem wi_z (a b c : Int32) : bz (wi a b c) = true := by
  unfold wi
  split
  · rfl
  · split <;> rfl
theorem isLeg_e (a : Int32) (w : Mem) : F_X6_isLeg a w = some (wi a 0 2, w) := by
  simp only [F_X6_isLeg, within_e, bd_m, wi_z, gd_t]
theorem isLeg7_e (a : Int32) (w : Mem) : F_X7_isLeg a w = some (wi a 0 2, w) := by
  simp only [F_X7_isLeg, in_e, bd_m, wi_z, gd_t]
theorem wi_0 {a b c : Int32} (h : wi a b c = 0) : ¬ (b ≤ a ∧ a ≤ c) := by
  unfold wi at h
  split at h
  · rename_i h1
    rw [Int32.lt_iff_toInt_lt] at h1
    simp only [Int32.le_iff_toInt_le]
    omega
  · split at h
    · rename_i h1
      rw [Int32.lt_iff_toInt_lt] at h1
      simp only [Int32.le_iff_toInt_le]
      omega
    · exact absurd h (by decide)
theorem wi_1 {a b c : Int32} (h : ¬ wi a b c = 0) : b.toInt ≤ a.toInt ∧ a.toInt ≤ c.toInt := by
  unfold wi at h
  split at h
  · exact absurd rfl h
  · split at h
    · exact absurd rfl h
    · rename_i h1 h2
      rw [Int32.lt_iff_toInt_lt] at h1 h2
      omega
theorem i_ext {a b : Int32} (h : a.toInt = b.toInt) : a = b := Int32.toInt_inj.mp h
theorem leg3 {a : Int32} (h : ¬ wi a 0 2 = 0) : a = 0 ∨ a = 1 ∨ a = 2 := by
  have h1 := wi_1 h
  have e0 : (0 : Int32).toInt = 0 := by decide
  have e1 : (1 : Int32).toInt = 1 := by decide
  have e2 : (2 : Int32).toInt = 2 := by decide
  rcases (show a.toInt = 0 ∨ a.toInt = 1 ∨ a.toInt = 2 by omega) with q | q | q
  · exact Or.inl (i_ext (by rw [q, e0]))
  · exact Or.inr (Or.inl (i_ext (by rw [q, e1])))
  · exact Or.inr (Or.inr (i_ext (by rw [q, e2])))
def Bd (n : Int) (x : Int32) : Prop := -n ≤ x.toInt ∧ x.toInt ≤ n
def SetOK (s : Nat → Int32) : Prop := (12 ≤ (s 0).toInt ∧ (s 0).toInt ≤ 96 ∧ (s 0).toInt % 2 = 0) ∧ (0 ≤ (s 1).toInt ∧ (s 1).toInt ≤ 5) ∧ (s 2 = 0 ∨ s 2 = 1) ∧ (1 ≤ (s 3).toInt ∧ (s 3).toInt ≤ 20) ∧ (0 ≤ (s 4).toInt ∧ (s 4).toInt ≤ 20) ∧ (0 ≤ (s 5).toInt ∧ (s 5).toInt ≤ 20) ∧ (s 6 = 0 ∨ s 6 = 1)
def RS (s t : Nat → Int32) : Prop := (∀ k, k < 7 → s k = t k) ∧ SetOK t
def RV (a b c d a' b' c' d' : Nat → Int32) : Prop := ∀ l, l < 3 → (a l = a' l ∧ Bd 200 (a' l)) ∧ (b l = b' l ∧ Bd 999 (b' l)) ∧ (c l = c' l ∧ Bd 500 (c' l)) ∧ (d l = d' l ∧ Bd 5000 (d' l))
def WishOK (a b v : Int32) : Prop := (a = 0 ∨ a = 1 ∨ a = 2) ∧ b.toInt ≤ 999 ∧ Bd 500 v
def RQ (n : Int32) (c : Nat → Int32) (m : Int32) (a b v : Nat → Int32) : Prop := ∃ q : Nat, q ≤ 12 ∧ n = nI q ∧ m = nI q ∧ ∀ k, k < q → c (4 * k) = a k ∧ c (4 * k + 1) = b k ∧ c (4 * k + 2) = v k ∧ WishOK (a k) (b k) (v k)
def RM (n : Int32) (c : Nat → Int32) (m : Int32) (a : Nat → Int32) : Prop := ∃ r : Nat, r ≤ 10 ∧ n = nI r ∧ m = nI r ∧ ∀ k, k < r → ∀ j, j < 4 → c (4 * (r - 1 - k) + j) = a (4 * k + j)
def RT (n : Int32) (c : Nat → Int32) (m : Int32) (a : Nat → Int32) : Prop := ∃ t : Nat, t ≤ 120 ∧ n = nI t ∧ m = nI t ∧ ∀ k, k < t → c k = a k
def RB (a b : Nat → Int32) : Prop := ∀ k, k < 3 → a k = b k
def RK (a b c d e f g : Int32) : Prop := a = 12 ∧ b = 12 ∧ c = 7 ∧ d = 12 ∧ e = 7 ∧ f = 10 ∧ g = 12
def Rel (wC wM : Mem) : Prop := RS (wC 2) (wM 2) ∧ RV (wC 3) (wC 4) (wC 5) (wC 6) (wM 4) (wM 3) (wM 5) (wM 6) ∧ wC 1 7 = wM 0 6 ∧ RQ (wC 7 2) (wC 8) (wM 0 7) (wM 7) (wM 8) (wM 9) ∧ RM (wC 39 2) (wC 40) (wM 0 11) (wM 10) ∧ RT (wC 41 2) (wC 42) (wM 0 32) (wM 21) ∧ RB (wC 45) (wM 1) ∧ RK (wC 7 0) (wC 20 0) (wC 28 0) (wC 30 0) (wC 34 0) (wC 39 0) (wC 43 0)
/-- what Rel looks at -/
def vC (w : Mem) : (Nat → Int32) × (Nat → Int32) × (Nat → Int32) × (Nat → Int32) × (Nat → Int32) × Int32 × Int32 × (Nat → Int32) × Int32 × (Nat → Int32) × Int32 × (Nat → Int32) × (Nat → Int32) × Int32 × Int32 × Int32 × Int32 × Int32 × Int32 × Int32 := (w 2, w 3, w 4, w 5, w 6, w 1 7, w 7 2, w 8, w 39 2, w 40, w 41 2, w 42, w 45, w 7 0, w 20 0, w 28 0, w 30 0, w 34 0, w 39 0, w 43 0)
def vM (w : Mem) : (Nat → Int32) × (Nat → Int32) × (Nat → Int32) × (Nat → Int32) × (Nat → Int32) × Int32 × Int32 × (Nat → Int32) × (Nat → Int32) × (Nat → Int32) × Int32 × (Nat → Int32) × Int32 × (Nat → Int32) × (Nat → Int32) := (w 2, w 4, w 3, w 5, w 6, w 0 6, w 0 7, w 7, w 8, w 9, w 0 11, w 10, w 0 32, w 21, w 1)
theorem Rel.frame {wC wM wC' wM' : Mem} (h : Rel wC wM) (hC : vC wC' = vC wC) (hM : vM wM' = vM wM) : Rel wC' wM' := by
  simp only [vC, vM, Prod.mk.injEq] at hC hM
  obtain ⟨c1, c2, c3, c4, c5, c6, c7, c8, c9, c10, c11, c12, c13, c14, c15, c16, c17, c18, c19, c20⟩ := hC
  obtain ⟨m1, m2, m3, m4, m5, m6, m7, m8, m9, m10, m11, m12, m13, m14, m15⟩ := hM
  unfold Rel
  rw [c1, c2, c3, c4, c5, c6, c7, c8, c9, c10, c11, c12, c13, c14, c15, c16, c17, c18, c19, c20, m1, m2, m3, m4, m5, m6, m7, m8, m9, m10, m11, m12, m13, m14, m15]
  exact h
theorem refuseBad_e (w : Mem) : F_X6_refuseBad w = some (-2, mst w 45 0 (w 45 0 + 1)) := rfl
theorem refuseFull_e (w : Mem) : F_X6_refuseFull w = some (-4, mst w 45 2 (w 45 2 + 1)) := rfl
theorem bad_e (w : Mem) : F_X7_bad w = some (-2, mst w 1 0 (w 1 0 + 1)) := rfl
theorem full_e (w : Mem) : F_X7_full w = some (-4, mst w 1 2 (w 1 2 + 1)) := rfl
theorem RB.up {a b : Nat → Int32} (h : RB a b) (i : Nat) (hi : i < 3) : RB (upd a i (a i + 1)) (upd b i (b i + 1)) := by
  intro k hk
  simp only [upd]
  rw [h i hi]
  split
  · rfl
  · exact h k hk
theorem Rel.bad {wC wM : Mem} (h : Rel wC wM) : Rel (mst wC 45 0 (wC 45 0 + 1)) (mst wM 1 0 (wM 1 0 + 1)) :=
  ⟨h.1, h.2.1, h.2.2.1, h.2.2.2.1, h.2.2.2.2.1, h.2.2.2.2.2.1, h.2.2.2.2.2.2.1.up 0 (by decide), h.2.2.2.2.2.2.2⟩
theorem Rel.full {wC wM : Mem} (h : Rel wC wM) : Rel (mst wC 45 2 (wC 45 2 + 1)) (mst wM 1 2 (wM 1 2 + 1)) :=
  ⟨h.1, h.2.1, h.2.2.1, h.2.2.2.1, h.2.2.2.2.1, h.2.2.2.2.2.1, h.2.2.2.2.2.2.1.up 2 (by decide), h.2.2.2.2.2.2.2⟩
theorem rel0 : Rel wC0 wX7 := by
  refine ⟨⟨fun k _ => rfl, ?_⟩, ?_, rfl, ⟨0, by decide, by decide, by decide, fun k h => absurd h (Nat.not_lt_zero _)⟩, ⟨0, by decide, by decide, by decide, fun k h => absurd h (Nat.not_lt_zero _)⟩, ⟨0, by decide, by decide, by decide, fun k h => absurd h (Nat.not_lt_zero _)⟩, fun _ _ => rfl, ⟨rfl, rfl, rfl, rfl, rfl, rfl, rfl⟩⟩
  · unfold SetOK; decide
  · intro l _
    have e : (0 : Int32).toInt = 0 := by decide
    refine ⟨⟨rfl, ?_⟩, ⟨rfl, ?_⟩, ⟨rfl, ?_⟩, ⟨rfl, ?_⟩⟩ <;> (show -_ ≤ (0 : Int32).toInt ∧ (0 : Int32).toInt ≤ _) <;> rw [e] <;> decide
/-- the common end of a refused call -/
theorem S_bad {wC wM : Mem} (h : Rel wC wM) : ∃ r wC' wM', (bd (F_X6_refuseBad wC) (fun r w => some (r, w))) = some (r, wC') ∧ (bd (F_X7_bad wM) (fun r w => some (r, w))) = some (r, wM') ∧ Rel wC' wM' := ⟨-2, _, _, rfl, rfl, h.bad⟩
theorem S_full {wC wM : Mem} (h : Rel wC wM) : ∃ r wC' wM', (bd (F_X6_refuseFull wC) (fun r w => some (r, w))) = some (r, wC') ∧ (bd (F_X7_full wM) (fun r w => some (r, w))) = some (r, wM') ∧ Rel wC' wM' := ⟨-4, _, _, rfl, rfl, h.full⟩
theorem inb0 : inb 0 3 = true := by decide
theorem inb1 : inb 1 3 = true := by decide
theorem inb2 : inb 2 3 = true := by decide
theorem inbL {a : Int32} (h : a = 0 ∨ a = 1 ∨ a = 2) : inb a 3 = true := by rcases h with rfl | rfl | rfl <;> decide
theorem ixL {a : Int32} (h : a = 0 ∨ a = 1 ∨ a = 2) : ix a < 3 := by rcases h with rfl | rfl | rfl <;> decide
