/-! wishes as lists -/
abbrev Wi := Int32 × Int32 × Int32
def WQ (V : Mem) (Q : List Wi) : Prop := V 0 7 = nI Q.length ∧ ∀ i (hi : i < Q.length), V 7 i = Q[i].1 ∧ V 8 i = Q[i].2.1 ∧ V 9 i = Q[i].2.2
def FM (V0 V : Mem) : Prop := (∀ i, i ≠ 0 → i ≠ 7 → i ≠ 8 → i ≠ 9 → V i = V0 i) ∧ ∀ j, j ≠ 7 → V 0 j = V0 0 j
theorem FM.trans {a b c : Mem} (h : FM a b) (g : FM b c) : FM a c := ⟨fun i h0 h1 h2 h3 => (g.1 i h0 h1 h2 h3).trans (h.1 i h0 h1 h2 h3), fun j hj => (g.2 j hj).trans (h.2 j hj)⟩
def shf (f : Nat → Int32) (i j : Nat) : Nat → Int32 := fun k => if i ≤ k ∧ k < j then f (k + 1) else f k
theorem shf_step (f : Nat → Int32) {i j : Nat} (h : i ≤ j) : upd (shf f i j) j (shf f i j (j + 1)) = shf f i (j + 1) := by
  funext k
  unfold upd shf
  by_cases e : k = j
  · rw [if_pos e, if_neg (by omega), if_pos (by omega), e]
  · rw [if_neg e]
    by_cases q : i ≤ k ∧ k < j
    · rw [if_pos q, if_pos (by omega)]
    · rw [if_neg q, if_neg (by omega)]
theorem goes_loop {V0 : Mem} {f7 f8 f9 : Nat → Int32} {i n : Nat} (hn : n < 12) {k : Mem → Option (Unit × Mem)} :
    ∀ (r j F : Nat) (V : Mem), j + r = n → i ≤ j → r < F → V 0 7 = nI n → V 7 = shf f7 i j → V 8 = shf f8 i j → V 9 = shf f9 i j → FM V0 V →
      ∃ V', L_X7_goesWish_12 k F (nI j) V = k V' ∧ V' 0 7 = nI n ∧ V' 7 = shf f7 i n ∧ V' 8 = shf f8 i n ∧ V' 9 = shf f9 i n ∧ FM V0 V' := by
  intro r
  induction r with
  | zero =>
    intro j F V hj hi hF e h7 h8 h9 fr
    obtain ⟨F, rfl⟩ : ∃ F', F = F' + 1 := ⟨F - 1, by omega⟩
    obtain rfl : j = n := by omega
    refine ⟨V, ?_, e, h7, h8, h9, fr⟩
    rw [L_X7_goesWish_12, e, if_pos (by rw [nI_lek (by omega) (by omega)]; omega)]
  | succ r ih =>
    intro j F V hj hi hF e h7 h8 h9 fr
    obtain ⟨F, rfl⟩ : ∃ F', F = F' + 1 := ⟨F - 1, by omega⟩
    obtain ⟨V', q, rest⟩ := ih (j + 1) F (mst (mst (mst V 7 j (V 7 (j + 1))) 8 j (V 8 (j + 1))) 9 j (V 9 (j + 1))) (by omega) (by omega) (by omega) (by rw [ms_ne (by decide), ms_ne (by decide), ms_ne (by decide), e]) (by rw [ms_ne (by decide), ms_ne (by decide), ms_eq, h7, shf_step f7 hi]) (by rw [ms_ne (by decide), ms_eq, ms_ne (by decide), h8, shf_step f8 hi]) (by rw [ms_eq, ms_ne (by decide), ms_ne (by decide), h9, shf_step f9 hi]) ⟨fun i h0 h1 h2 h3 => by rw [ms_ne h3, ms_ne h2, ms_ne h1, fr.1 i h0 h1 h2 h3], fun j hj => by rw [ms_ne (by decide), ms_ne (by decide), ms_ne (by decide), fr.2 j hj]⟩
    refine ⟨V', ?_, rest⟩
    rw [L_X7_goesWish_12, e, if_neg (by rw [nI_lek (by omega) (by omega)]; omega), ← q]
    simp only [nI_p1, inb_nI (show j + 1 < 12 by omega) (by decide), inb_nI (show j < 12 by omega) (by decide), gd_t, lt_m, ix_nI (show j + 1 < 2 ^ 31 by omega), ix_nI (show j < 2 ^ 31 by omega), ms_ne (show 8 ≠ 7 by decide), ms_ne (show 9 ≠ 8 by decide), ms_ne (show 9 ≠ 7 by decide)]
theorem goesWish_e {V : Mem} {Q : List Wi} (m : WQ V Q) (hQ : Q.length ≤ 12) {i : Nat} (hi : i < Q.length) : ∃ V', F_X7_goesWish (nI i) V = some ((), V') ∧ WQ V' (Q.eraseIdx i) ∧ FM V V' := by
  have e : nI Q.length - 1 = nI (Q.length - 1) := nI_sb' (b := 1) (by omega) (by omega)
  have s0 : ∀ f : Nat → Int32, f = shf f i i := fun f => by funext k; unfold shf; rw [if_neg (by omega)]
  obtain ⟨V', q, e1, e7, e8, e9, fr⟩ := goes_loop (V0 := V) (f7 := V 7) (f8 := V 8) (f9 := V 9) (i := i) (n := Q.length - 1) (by omega) (k := fun w12 => some ((), w12)) (Q.length - 1 - i) i 300 (mst V 0 7 (nI (Q.length - 1))) (by omega) (Nat.le_refl _) (by omega) (by rw [ms_eq, upd_eq]) (by rw [ms_ne (by decide)]; exact s0 _) (by rw [ms_ne (by decide)]; exact s0 _) (by rw [ms_ne (by decide)]; exact s0 _) ⟨fun i h0 _ _ _ => by rw [ms_ne h0], fun j hj => by rw [ms_eq, upd_ne hj]⟩
  refine ⟨V', ?_, ⟨?_, ?_⟩, fr⟩
  · unfold F_X7_goesWish
    rw [m.1, e, lt_m, q]
  · rw [e1, List.length_eraseIdx, if_pos hi]
  · intro k hk
    rw [List.length_eraseIdx, if_pos hi] at hk
    rw [e7, e8, e9, List.getElem_eraseIdx]
    unfold shf
    by_cases z : k < i
    · rw [dif_pos z, if_neg (by omega), if_neg (by omega), if_neg (by omega)]
      exact m.2 k (by omega)
    · rw [dif_neg z, if_pos (by omega), if_pos (by omega), if_pos (by omega)]
      exact m.2 (k + 1) (by omega)
theorem unM_loop {a : Int32} {k : Int32 → Mem → Option (Int32 × Mem)} : ∀ (n : Nat) (A B : List Wi) (c F : Nat) (V : Mem), A.length = n → n < F → (A ++ B).length ≤ 12 → WQ V (A ++ B) →
      ∃ V', L_X7_unwish_21 a k F (nI c) (nI n - 1) V = k (nI (c + A.countP (fun x => decide (x.1 = a)))) V' ∧ WQ V' (A.filter (fun x => !decide (x.1 = a)) ++ B) ∧ FM V V' := by
  intro n
  induction n with
  | zero =>
    intro A B c F V hA hF hl m
    obtain ⟨F, rfl⟩ : ∃ F', F = F' + 1 := ⟨F - 1, by omega⟩
    obtain rfl : A = [] := List.length_eq_zero_iff.mp hA
    refine ⟨V, ?_, m, fun i _ _ _ _ => rfl, fun j _ => rfl⟩
    rw [L_X7_unwish_21, if_pos (by decide)]
    rfl
  | succ n ih =>
    intro A B c F V hA hF hl m
    obtain ⟨F, rfl⟩ : ∃ F', F = F' + 1 := ⟨F - 1, by omega⟩
    obtain ⟨A', x, rfl⟩ : ∃ A' x, A = A' ++ [x] := by
      rcases List.eq_nil_or_concat A with rfl | ⟨A', x, rfl⟩
      · simp at hA
      · exact ⟨A', x, by simp⟩
    have hA' : A'.length = n := by simpa using hA
    simp only [List.length_append, List.length_singleton] at hl
    have e : nI (n + 1) - 1 = nI n := nI_sb' (b := 1) (by omega) (by omega)
    have e' : nI n + -1 = nI n - 1 := by rw [Int32.sub_eq_add_neg]
    have hn : n < (A' ++ [x] ++ B).length := by simp; omega
    have mx := (m.2 n hn).1
    have gx : (A' ++ [x] ++ B)[n]'hn = x := by
      rw [List.getElem_append_left (by simp; omega), List.getElem_append_right (by omega)]
      simp [hA']
    rw [gx] at mx
    rw [e, L_X7_unwish_21, if_neg (by rw [show (0 : Int32) = nI 0 from rfl, nI_ltk (by omega) (by omega)]; omega), inb_nI (show n < 12 by omega) (by decide), gd_t, ix_nI (by omega), mx]
    by_cases z : x.1 = a
    · obtain ⟨V1, f1, m1, r1⟩ := goesWish_e m (by simp; omega) hn
      have ee : (A' ++ [x] ++ B).eraseIdx n = A' ++ B := by
        rw [List.append_assoc, List.eraseIdx_append_of_length_le (by omega), show n - A'.length = 0 by omega]
        rfl
      rw [ee] at m1
      obtain ⟨V2, f2, m2, r2⟩ := ih A' B (c + 1) F V1 hA' (by omega) (by simp; omega) m1
      refine ⟨V2, ?_, ?_, r1.trans r2⟩
      · rw [if_pos z, f1, bd_m, nI_p1, e', f2, List.countP_append, List.countP_singleton, if_pos (by simpa using z)]
        congr 2
        omega
      · rw [List.filter_append, show [x].filter (fun x => !decide (x.1 = a)) = [] by simp [z], List.append_nil]
        exact m2
    · obtain ⟨V2, f2, m2, r2⟩ := ih A' ([x] ++ B) c F V hA' (by omega) (by simp; omega) (by rw [← List.append_assoc]; exact m)
      refine ⟨V2, ?_, ?_, r2⟩
      · rw [if_neg z, e', f2, List.countP_append, List.countP_singleton, if_neg (by simpa using z)]
        rfl
      · rw [List.filter_append, show [x].filter (fun x => !decide (x.1 = a)) = [x] by simp [z], List.append_assoc]
        exact m2
