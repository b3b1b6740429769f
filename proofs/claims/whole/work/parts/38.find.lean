/-! runs: the class's table -/
def tel (L : Int32) (n p : Nat) : Int32 := if nI n < L then -1 else sct 3 p
def rf (L : Int32) (s h : Nat → Nat) (x : Nat × Nat) : Nat → Int32
  | 0 => nI x.1
  | 1 => nI x.2
  | 2 => nI (pa s h x.1)
  | _ => tel L x.2 (pa s h x.1)
def sb (S v : Int32) : Int32 := if v = -1 then S else S ||| ((1 : Int32) <<< (v &&& 31))
def sn (L : Int32) (s h : Nat → Nat) (R : List (Nat × Nat)) : Int32 := R.foldl (fun S x => sb S (tel L x.2 (pa s h x.1))) 0
def CR (q0 : Nat) (L : Int32) (s h : Nat → Nat) (W0 W : Mem) (R : List (Nat × Nat)) : Prop := (∀ i, i ≠ q0 → i ≠ q0 + 1 → i ≠ q0 + 2 → W i = W0 i) ∧ W (q0 + 1) 0 = 7 ∧ W (q0 + 1) 2 = nI R.length ∧ (∀ i (hi : i < R.length) j, j < 4 → W (q0 + 2) (4 * i + j) = rf L s h R[i] j) ∧ W q0 1 = sn L s h R
theorem CR.add {q0 : Nat} {L : Int32} {s h : Nat → Nat} {W0 W : Mem} {R : List (Nat × Nat)} (hq : lnC (q0 + 2) = 28) (c : CR q0 L s h W0 W R) (x : Nat × Nat) (hR : R.length < 7) (V : Mem) (hV : V = W ∨ ∃ v, V = mst W q0 1 v) (hS : V q0 1 = sb (W q0 1) (tel L x.2 (pa s h x.1))) :
    ∃ W', F_X4_add (q0 + 1) (rf L s h x 0) (rf L s h x 1) (rf L s h x 2) (rf L s h x 3) V = some ((), W') ∧ CR q0 L s h W0 W' (R ++ [x]) := by
  obtain ⟨c1, c2, c3, c4, c5⟩ := c
  have vo : ∀ i, i ≠ q0 → V i = W i := by
    intro i hi
    rcases hV with rfl | ⟨v, rfl⟩
    · rfl
    · exact ms_ne hi
  have d2 : V (q0 + 1) 0 = nI 7 := by rw [vo _ (by omega), c2]; rfl
  have d3 : V (q0 + 1) 2 = nI R.length := by rw [vo _ (by omega), c3]
  have d4 : V (q0 + 2) = W (q0 + 2) := vo _ (by omega)
  refine ⟨_, add_in d3 d2 hR (by decide) hq _ _ _ _, ?_, ?_, ?_, ?_, ?_⟩
  · intro i h1 h2 h3
    rw [← c1 i h1 h2 h3, ← vo i h1]
    unfold addW
    rw [ms_ne h2, ms_ne h3, ms_ne h3, ms_ne h3, ms_ne h3]
  · unfold addW
    rw [ms_eq, upd_ne (by decide), ms_ne (by omega), ms_ne (by omega), ms_ne (by omega), ms_ne (by omega), d2]
    rfl
  · unfold addW
    rw [ms_eq, upd_eq]
    simp
  · intro i hi j hj
    rw [List.length_append, List.length_singleton] at hi
    have e : ∀ a b c d, addW V (q0 + 1) R.length a b c d (q0 + 2) = upd (upd (upd (upd (W (q0 + 2)) (4 * R.length) a) (4 * R.length + 1) b) (4 * R.length + 2) c) (4 * R.length + 3) d := by
      intro a b c d
      unfold addW
      rw [ms_ne (by omega), show q0 + 1 + 1 = q0 + 2 by omega, ms_eq, ms_eq, ms_eq, ms_eq, d4]
    rw [e]
    by_cases q : i < R.length
    · rw [upd_ne (by omega), upd_ne (by omega), upd_ne (by omega), upd_ne (by omega), c4 i q j hj, List.getElem_append_left q]
    · obtain rfl : i = R.length := by omega
      rw [List.getElem_concat_length rfl]
      have : j = 0 ∨ j = 1 ∨ j = 2 ∨ j = 3 := by omega
      rcases this with rfl | rfl | rfl | rfl <;> simp [upd]
  · unfold addW
    rw [ms_ne (by omega), ms_ne (by omega), ms_ne (by omega), ms_ne (by omega), ms_ne (by omega), hS, c5]
    unfold sn
    rw [List.foldl_append]
    rfl
def AP (q0 q : Nat) : Prop := q < q0 ∨ q0 + 2 < q
theorem SH.of {q0 q3 q4 : Nat} {L : Int32} {s h : Nat → Nat} {W0 W : Mem} {R : List (Nat × Nat)} (g : SH W0 q3 q4 s h) (a3 : AP q0 q3) (a4 : AP q0 q4) (c : CR q0 L s h W0 W R) : SH W q3 q4 s h := by
  unfold AP at a3 a4
  unfold SH at g ⊢
  rw [c.1 q3 (by omega) (by omega) (by omega), c.1 q4 (by omega) (by omega) (by omega)]
  exact g
theorem nI_sb' {a b : Nat} (h : b ≤ a) (ha : a < 1000000) : nI a - nI b = nI (a - b) := i_ext (by rw [i_sub (i_nI (by omega)) (i_nI (by omega)) (by omega), i_nI (by omega)]; omega)
theorem rf3 (L : Int32) (s h : Nat → Nat) (x : Nat × Nat) : rf L s h x 3 = tel L x.2 (pa s h x.1) := rfl
theorem find_step {q0 q3 q4 N : Nat} {L : Int32} {s h : Nat → Nat} {W0 W : Mem} {R : List (Nat × Nat)} (hq : lnC (q0 + 2) = 28) (a3 : AP q0 q3) (a4 : AP q0 q4) (g : SH W0 q3 q4 s h) (o : RO N s h) (c : CR q0 L s h W0 W R) (hR : R.length < 7) {t : Nat} (ht : t < N) {k : Mem → Option (Unit × Mem)} {F : Nat} :
    ∃ W', L_X2_find_19 q0 (nI N) L q3 q4 k (F + 1) (nI t) (nI R.length) W = L_X2_find_19 q0 (nI N) L q3 q4 k F (nI (nxt N s h t)) (nI (R.length + 1)) W' ∧ CR q0 L s h W0 W' (R ++ [(t, nxt N s h t - t)]) := by
  have hN := o.2.1
  have g' := g.of a3 a4 c
  have x1 := nxt_gt (s := s) (h := h) ht
  have x2 := nxt_le N s h t
  have hp := pa_le s h t
  rw [L_X2_find_19, if_neg (by rw [show (7 : Int32) = nI 7 from rfl, nI_lek (by omega) (by omega)]; omega), if_neg (by rw [nI_lek (by omega) (by omega)]; omega), next_e g' o (by omega), bd_m, pat_e g' o (by omega), bd_m, nI_sb' (by omega) (by omega)]
  simp only [inb_nI (show pa s h t < 8 by omega) (by decide), gd_t, ix_nI (show pa s h t < 2 ^ 31 by omega)]
  rw [jn_ite]
  rw [show (if nI (nxt N s h t - t) < L then (-1 : Int32) else sct 3 (pa s h t)) = tel L (nxt N s h t - t) (pa s h t) from rfl, jn_m]
  by_cases e : tel L (nxt N s h t - t) (pa s h t) = -1
  · obtain ⟨W', f, c'⟩ := c.add hq (t, nxt N s h t - t) hR W (Or.inl rfl) (by show W q0 1 = sb (W q0 1) (tel L (nxt N s h t - t) (pa s h t)); unfold sb; rw [if_pos e])
    rw [if_pos e, nI_p1]
    refine ⟨W', ?_, c'⟩
    show bd (F_X4_add (q0 + 1) (nI t) (nI (nxt N s h t - t)) (nI (pa s h t)) (tel L (nxt N s h t - t) (pa s h t)) _) _ = _
    rw [show F_X4_add (q0 + 1) (nI t) (nI (nxt N s h t - t)) (nI (pa s h t)) (tel L (nxt N s h t - t) (pa s h t)) W = some ((), W') from f, bd_m]
  · obtain ⟨W', f, c'⟩ := c.add hq (t, nxt N s h t - t) hR (mst W q0 1 (W q0 1 ||| (1 : Int32) <<< (tel L (nxt N s h t - t) (pa s h t) &&& 31))) (Or.inr ⟨_, rfl⟩) (by rw [ms_eq, upd_eq]; show _ = sb (W q0 1) (tel L (nxt N s h t - t) (pa s h t)); unfold sb; rw [if_neg e])
    rw [if_neg e, lt_m, nI_p1]
    refine ⟨W', ?_, c'⟩
    show bd (F_X4_add (q0 + 1) (nI t) (nI (nxt N s h t - t)) (nI (pa s h t)) (tel L (nxt N s h t - t) (pa s h t)) _) _ = _
    rw [show F_X4_add (q0 + 1) (nI t) (nI (nxt N s h t - t)) (nI (pa s h t)) (tel L (nxt N s h t - t) (pa s h t)) (mst W q0 1 (W q0 1 ||| (1 : Int32) <<< (tel L (nxt N s h t - t) (pa s h t) &&& 31))) = some ((), W') from f, bd_m]
theorem find_loop {q0 q3 q4 N : Nat} {L : Int32} {s h : Nat → Nat} {W0 : Mem} (hq : lnC (q0 + 2) = 28) (a3 : AP q0 q3) (a4 : AP q0 q4) (g : SH W0 q3 q4 s h) (o : RO N s h) {k : Mem → Option (Unit × Mem)} :
    ∀ (f t F : Nat) (W : Mem) (R : List (Nat × Nat)), t ≤ N → R.length ≤ 7 → (t < N → R.length + bs N s h t ≤ 6) → 8 ≤ f + R.length → f < F → CR q0 L s h W0 W R →
      ∃ W', L_X2_find_19 q0 (nI N) L q3 q4 k F (nI t) (nI R.length) W = k W' ∧ CR q0 L s h W0 W' (R ++ rns N s h f t) ∧ (R ++ rns N s h f t).length ≤ 7 := by
  intro f
  have hN := o.2.1
  induction f with
  | zero => intro t F W R _ _ _ _ _ _; omega
  | succ f ih =>
    intro t F W R htN hR hb hf hF c
    obtain ⟨F, rfl⟩ : ∃ F', F = F' + 1 := ⟨F - 1, by omega⟩
    by_cases ht : t < N
    · have hb' := hb ht
      obtain ⟨W1, f1, c1⟩ := find_step hq a3 a4 g o c (by omega) ht (k := k) (F := F)
      have x2 := nxt_le N s h t
      obtain ⟨W2, f2, c2, l2⟩ := ih (nxt N s h t) F W1 (R ++ [(t, nxt N s h t - t)]) x2 (by simp; omega) (fun hx => by have := bs_lt ht hx; simp; omega) (by simp; omega) (by omega) c1
      rw [rns, if_pos ht, show R ++ (t, nxt N s h t - t) :: rns N s h f (nxt N s h t) = (R ++ [(t, nxt N s h t - t)]) ++ rns N s h f (nxt N s h t) by simp]
      refine ⟨W2, ?_, c2, l2⟩
      rw [f1, ← f2]
      simp
    · rw [rns, if_neg ht, List.append_nil]
      refine ⟨W, ?_, c, hR⟩
      rw [L_X2_find_19]
      split
      · rfl
      · rw [if_pos (by rw [nI_lek (by omega) (by omega)]; omega)]
theorem find_e {q0 q3 q4 N : Nat} {L : Int32} {s h : Nat → Nat} {W : Mem} (hq : lnC (q0 + 2) = 28) (a3 : AP q0 q3) (a4 : AP q0 q4) (g : SH W q3 q4 s h) (o : RO N s h) (h7 : W (q0 + 1) 0 = 7) :
    ∃ W', F_X2_find q0 (nI N) L q3 q4 W = some ((), W') ∧ CR q0 L s h W W' (rns N s h 8 0) ∧ (rns N s h 8 0).length ≤ 7 := by
  have hN := o.1
  have c0 : CR q0 L s h W (mst (mst W (q0 + 1) 2 0) q0 1 0) [] := by
    refine ⟨fun i i1 i2 i3 => by rw [ms_ne i1, ms_ne i2], ?_, ?_, fun i hi => absurd hi (by simp), ?_⟩
    · rw [ms_ne (by omega), ms_eq, upd_ne (by decide), h7]
    · rw [ms_ne (by omega), ms_eq, upd_eq]; rfl
    · rw [ms_eq, upd_eq]; rfl
  obtain ⟨W', f, c, l⟩ := find_loop hq a3 a4 g o (L := L) (k := fun w24 => some ((), w24)) 8 0 300 _ [] (by omega) (by simp) (fun _ => by have := bs_6 N s h 0; simp; omega) (by simp) (by decide) c0
  refine ⟨W', ?_, c, l⟩
  unfold F_X2_find
  rw [cut0_e, bd_m, lt_m]
  rw [show nI ([] : List (Nat × Nat)).length = 0 from rfl, z0] at f
  exact f
