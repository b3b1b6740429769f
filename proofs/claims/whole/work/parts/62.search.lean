/-! all shifts, in their order -/
def sLj (i j : Nat) : List Tr := (List.range' 0 13).map (fun c => (i, j, c))
def sLi (i : Nat) : List Tr := (List.range' 0 13).flatMap (sLj i)
def sLL : List Tr := (List.range' 0 13).flatMap sLi
def sPt (t i j : Nat) : List Tr := (sLj i j).filter (fun x => decide (stot x = t))
def sGt (ok : Tr → Bool) (t : Nat) : List Tr := ((List.range' 0 13).flatMap (fun i => (List.range' 0 13).flatMap (sPt t i))).filter ok
theorem sGt_e (ok : Tr → Bool) (t : Nat) : sGt ok t = (sLL.filter ok).filter (fun x => decide (stot x = t)) := by
  have e : (List.range' 0 13).flatMap (fun i => (List.range' 0 13).flatMap (sPt t i)) = sLL.filter (fun x => decide (stot x = t)) := by
    unfold sLL
    rw [List.filter_flatMap]
    congr 1
    funext i
    unfold sLi
    rw [List.filter_flatMap]
    rfl
  unfold sGt
  rw [e, List.filter_filter, List.filter_filter]
  congr 1
  funext a
  rw [Bool.and_comm]
theorem s13 : ∀ d, d < 19 → (List.range' 0 13).filter (fun c => decide (sab c = d)) = if d = 0 then [6] else if d ≤ 6 then [6 - d, 6 + d] else [] := by decide
theorem sPt_lo {t i j : Nat} (h : t < sab i + sab j) : sPt t i j = [] := by
  unfold sPt sLj
  rw [List.filter_eq_nil_iff]
  intro x hx
  rw [List.mem_map] at hx
  obtain ⟨c, -, rfl⟩ := hx
  intro hq
  have q : sab i + sab j + sab c = t := of_decide_eq_true hq
  omega
theorem sPt_hi {t i j : Nat} (h : sab i + sab j ≤ t) (ht : t ≤ 18) : sPt t i j = (if t - (sab i + sab j) = 0 then [6] else if t - (sab i + sab j) ≤ 6 then [6 - (t - (sab i + sab j)), 6 + (t - (sab i + sab j))] else []).map (fun c => (i, j, c)) := by
  unfold sPt sLj
  rw [List.filter_map, ← s13 (t - (sab i + sab j)) (by omega)]
  congr 1
  apply List.filter_congr
  intro c _
  show decide (sab i + sab j + sab c = t) = decide (sab c = t - (sab i + sab j))
  rw [decide_eq_decide]
  omega
theorem s73_loop {V0 : Mem} {N : Nat} {L : Int32} {s h : Nat → Nat} (o : RO N s h) (e2 : V0 2 0 = nI N) (eL : V0 2 3 = L) (g : SH V0 18 12 s h) {a : Int32} {i j : Nat} (hi : i ≤ 12) (hj : j ≤ 12) {k : Mem → Option (Int32 × Mem)} :
    ∀ (n c F : Nat) (V : Mem) (A : List Tr), c + n = 13 → n < F → SMf V0 V → BGd V A → ∃ V', L_X7_shift_73 a (shi i) (shi j) k F (shi c) V = k V' ∧ SMf V0 V' ∧ BGd V' (A ++ ((List.range' c n).map (fun c => (i, j, c))).filter (okb N L s h)) := by
  intro n
  induction n with
  | zero =>
    intro c F V A hc hF fr b
    obtain ⟨F, rfl⟩ : ∃ F', F = F' + 1 := ⟨F - 1, by omega⟩
    refine ⟨V, ?_, fr, by simpa using b⟩
    rw [L_X7_shift_73, if_pos (by rw [shi_gt (by omega)]; omega)]
  | succ n ih =>
    intro c F V A hc hF fr b
    obtain ⟨F, rfl⟩ : ∃ F', F = F' + 1 := ⟨F - 1, by omega⟩
    have v2 : V 2 = V0 2 := fr.1 2 (by decide) (by decide) (by decide) (by decide) (by decide)
    have v12 : V 12 = V0 12 := fr.1 12 (by decide) (by decide) (by decide) (by decide) (by decide)
    have v18 : V 18 = V0 18 := fr.1 18 (by decide) (by decide) (by decide) (by decide) (by decide)
    obtain ⟨V1, f1, r1, b1⟩ := tries_e (V := V) (L := L) o (by rw [v2, e2]) (by rw [v2, eL]) (fun l hl => by rw [v12, v18]; exact g l hl) b (x := (i, j, c)) ⟨hi, hj, by show c ≤ 12; omega⟩
    obtain ⟨V2, f2, r2, b2⟩ := ih (c + 1) F V1 _ (by omega) (by omega) (fr.trans r1) b1
    refine ⟨V2, ?_, r2, ?_⟩
    · rw [L_X7_shift_73, if_neg (by rw [shi_gt (by omega)]; omega), f1, bd_m, shi_p (by omega), f2]
    · rw [List.range'_succ, List.map_cons, show ∀ l : List Tr, (i, j, c) :: l = [(i, j, c)] ++ l from fun l => rfl, List.filter_append, ← List.append_assoc]
      exact b2
theorem s63_loop {V0 : Mem} {N : Nat} {L : Int32} {s h : Nat → Nat} (o : RO N s h) (e2 : V0 2 0 = nI N) (eL : V0 2 3 = L) (g : SH V0 18 12 s h) {a : Int32} {i : Nat} (hi : i ≤ 12) {k : Mem → Option (Int32 × Mem)} :
    ∀ (n j F : Nat) (V : Mem) (A : List Tr), j + n = 13 → n < F → SMf V0 V → BGd V A → ∃ V', L_X7_shift_63 a (shi i) k F (shi j) V = k V' ∧ SMf V0 V' ∧ BGd V' (A ++ ((List.range' j n).flatMap (sLj i)).filter (okb N L s h)) := by
  intro n
  induction n with
  | zero =>
    intro c F V A hc hF fr b
    obtain ⟨F, rfl⟩ : ∃ F', F = F' + 1 := ⟨F - 1, by omega⟩
    refine ⟨V, ?_, fr, by simpa using b⟩
    rw [L_X7_shift_63, if_pos (by rw [shi_gt (by omega)]; omega)]
  | succ n ih =>
    intro c F V A hc hF fr b
    obtain ⟨F, rfl⟩ : ∃ F', F = F' + 1 := ⟨F - 1, by omega⟩
    obtain ⟨V1, f1, r1, b1⟩ := s73_loop o e2 eL g (a := a) hi (show c ≤ 12 by omega) (k := fun w17 => L_X7_shift_63 a (shi i) k F (shi c + 1) w17) 13 0 300 V A (by decide) (by decide) fr b
    obtain ⟨V2, f2, r2, b2⟩ := ih (c + 1) F V1 _ (by omega) (by omega) r1 b1
    refine ⟨V2, ?_, r2, ?_⟩
    · rw [shi_0] at f1
      rw [L_X7_shift_63, if_neg (by rw [shi_gt (by omega)]; omega), f1, shi_p (by omega), f2]
    · rw [List.range'_succ, List.flatMap_cons, List.filter_append, ← List.append_assoc]
      exact b2
theorem s54_loop {V0 : Mem} {N : Nat} {L : Int32} {s h : Nat → Nat} (o : RO N s h) (e2 : V0 2 0 = nI N) (eL : V0 2 3 = L) (g : SH V0 18 12 s h) {a : Int32} {k : Mem → Option (Int32 × Mem)} :
    ∀ (n i F : Nat) (V : Mem) (A : List Tr), i + n = 13 → n < F → SMf V0 V → BGd V A → ∃ V', L_X7_shift_54 a k F (shi i) V = k V' ∧ SMf V0 V' ∧ BGd V' (A ++ ((List.range' i n).flatMap sLi).filter (okb N L s h)) := by
  intro n
  induction n with
  | zero =>
    intro c F V A hc hF fr b
    obtain ⟨F, rfl⟩ : ∃ F', F = F' + 1 := ⟨F - 1, by omega⟩
    refine ⟨V, ?_, fr, by simpa using b⟩
    rw [L_X7_shift_54, if_pos (by rw [shi_gt (by omega)]; omega)]
  | succ n ih =>
    intro c F V A hc hF fr b
    obtain ⟨F, rfl⟩ : ∃ F', F = F' + 1 := ⟨F - 1, by omega⟩
    obtain ⟨V1, f1, r1, b1⟩ := s63_loop o e2 eL g (a := a) (show c ≤ 12 by omega) (k := fun w19 => L_X7_shift_54 a k F (shi c + 1) w19) 13 0 300 V A (by decide) (by decide) fr b
    obtain ⟨V2, f2, r2, b2⟩ := ih (c + 1) F V1 _ (by omega) (by omega) r1 b1
    refine ⟨V2, ?_, r2, ?_⟩
    · rw [shi_0] at f1
      rw [L_X7_shift_54, if_neg (by rw [shi_gt (by omega)]; omega), f1, shi_p (by omega), f2]
    · rw [List.range'_succ, List.flatMap_cons, List.filter_append, ← List.append_assoc]
      exact b2
/-! the class's loops -/
theorem SC.trans {a b c : Mem} (h : SC a b) (g : SC b c) : SC a c := ⟨fun i hi => (g.1 i hi).trans (h.1 i hi), g.2⟩
theorem flt_le (ok : Tr → Bool) (G : List Tr) (x : Tr) : (G ++ [x].filter ok).length ≤ G.length + 1 := by
  have := List.length_filter_le ok [x]
  simp only [List.length_append, List.length_singleton] at this ⊢
  omega
theorem left_i {t i j : Nat} (ht : t ≤ 18) (hi : i ≤ 12) (hj : j ≤ 12) : (nI t - nI (sab i) - nI (sab j)).toInt = (t : Int) - (sab i : Int) - (sab j : Int) := by
  have a1 : sab i ≤ 6 := by unfold sab; omega
  have a2 : sab j ≤ 6 := by unfold sab; omega
  exact i_sub (i_sub (i_nI (by omega)) (i_nI (by omega)) (by omega)) (i_nI (by omega)) (by omega)
theorem c15_step {W0 W : Mem} {N : Nat} {L : Int32} {s h : Nat → Nat} (o : RO N s h) (e9 : W0 9 0 = nI N) (g : SH W0 12 11 s h) {t i j : Nat} (ht : t ≤ 18) (hi : i ≤ 12) (hj : j ≤ 12) {G : List Tr} (hG : G.length ≤ 9000) (sc : SC W0 W) (c : CGd W G) {k : Mem → Option (Unit × Mem)} {F : Nat} :
    ∃ W', L_X3_searchAllOf_15 (nI t) 9 L (shi i) k (F + 1) (shi j) W = L_X3_searchAllOf_15 (nI t) 9 L (shi i) k F (shi (j + 1)) W' ∧ SC W0 W' ∧ CGd W' (G ++ (sPt t i j).filter (okb N L s h)) ∧ W' 32 4 = W 32 4 ∧ (G ++ (sPt t i j).filter (okb N L s h)).length ≤ G.length + 2 := by
  have e := left_i ht hi hj
  have a1 : sab i ≤ 6 := by unfold sab; omega
  have a2 : sab j ≤ 6 := by unfold sab; omega
  have e0 : (0 : Int32).toInt = 0 := by decide
  have e6 : (6 : Int32).toInt = 6 := by decide
  have gW : ∀ {U : Mem}, SC W0 U → U 9 0 = nI N ∧ SH U 12 11 s h ∧ U 34 0 = 7 := fun {U} q => ⟨by rw [q.1 9 (by decide), e9], fun l hl => by rw [q.1 12 (by decide), q.1 11 (by decide)]; exact g l hl, q.2⟩
  rw [L_X3_searchAllOf_15, if_neg (by rw [shi_gt (by omega)]; omega), iabs_shi hi, iabs_shi hj, lt_m, within_e, bd_m, shi_p (by omega)]
  by_cases z : sab i + sab j ≤ t
  · rw [sPt_hi z ht]
    by_cases y : t - (sab i + sab j) ≤ 6
    · rw [if_neg (by rw [wi_t (by rw [e, e0, e6]; omega)]; decide)]
      have en : -(nI t - nI (sab i) - nI (sab j)) = shi (6 - (t - (sab i + sab j))) := i_ext (by rw [i_neg e (by omega), shi_i (by omega)]; omega)
      have ep : nI t - nI (sab i) - nI (sab j) = shi (6 + (t - (sab i + sab j))) := i_ext (by rw [e, shi_i (by omega)]; omega)
      rw [en]
      obtain ⟨W1, f1, s1, c1, k1⟩ := tryOne_e (L := L) o (gW sc).1 (gW sc).2.1 (gW sc).2.2 c (by omega) (x := (i, j, 6 - (t - (sab i + sab j)))) ⟨hi, hj, by show 6 - (t - (sab i + sab j)) ≤ 12; omega⟩
      rw [f1, bd_m]
      by_cases x : t - (sab i + sab j) = 0
      · rw [if_pos (by rw [Int32.le_iff_toInt_le, e, e0]; omega), if_pos x]
        rw [x] at c1
        exact ⟨W1, rfl, sc.trans s1, c1, k1, Nat.le_trans (flt_le _ _ _) (by omega)⟩
      · rw [if_neg (by rw [Int32.le_iff_toInt_le, e, e0]; omega), if_neg x, if_pos y, ep]
        have l1 := flt_le (okb N L s h) G (i, j, 6 - (t - (sab i + sab j)))
        obtain ⟨W2, f2, s2, c2, k2⟩ := tryOne_e (L := L) o (gW (sc.trans s1)).1 (gW (sc.trans s1)).2.1 (gW (sc.trans s1)).2.2 c1 (by omega) (x := (i, j, 6 + (t - (sab i + sab j)))) ⟨hi, hj, by show 6 + (t - (sab i + sab j)) ≤ 12; omega⟩
        rw [f2, bd_m]
        have l2 := flt_le (okb N L s h) (G ++ [(i, j, 6 - (t - (sab i + sab j)))].filter (okb N L s h)) (i, j, 6 + (t - (sab i + sab j)))
        have el : G ++ List.filter (okb N L s h) (List.map (fun c => (i, j, c)) [6 - (t - (sab i + sab j)), 6 + (t - (sab i + sab j))]) = G ++ [(i, j, 6 - (t - (sab i + sab j)))].filter (okb N L s h) ++ [(i, j, 6 + (t - (sab i + sab j)))].filter (okb N L s h) := by
          rw [List.append_assoc, ← List.filter_append]
          rfl
        rw [el]
        exact ⟨W2, rfl, (sc.trans s1).trans s2, c2, k2.trans k1, by omega⟩
    · rw [if_pos (by rw [wi_f (by rw [e, e0, e6]; omega)]), if_neg (by omega), if_neg y]
      exact ⟨W, rfl, sc, by simpa using c, rfl, by simp⟩
  · rw [if_pos (by rw [wi_f (by rw [e, e0, e6]; omega)]), sPt_lo (by omega)]
    exact ⟨W, rfl, sc, by simpa using c, rfl, by simp⟩
theorem c15_loop {W0 : Mem} {N : Nat} {L : Int32} {s h : Nat → Nat} (o : RO N s h) (e9 : W0 9 0 = nI N) (g : SH W0 12 11 s h) {t i : Nat} (ht : t ≤ 18) (hi : i ≤ 12) {k : Mem → Option (Unit × Mem)} :
    ∀ (n j F : Nat) (W : Mem) (G : List Tr), j + n = 13 → n < F → G.length + 2 * n ≤ 9000 → SC W0 W → CGd W G → ∃ W', L_X3_searchAllOf_15 (nI t) 9 L (shi i) k F (shi j) W = k W' ∧ SC W0 W' ∧ CGd W' (G ++ ((List.range' j n).flatMap (sPt t i)).filter (okb N L s h)) ∧ W' 32 4 = W 32 4 ∧ (G ++ ((List.range' j n).flatMap (sPt t i)).filter (okb N L s h)).length ≤ G.length + 2 * n := by
  intro n
  induction n with
  | zero =>
    intro j F W G hj hF hG sc c
    obtain ⟨F, rfl⟩ : ∃ F', F = F' + 1 := ⟨F - 1, by omega⟩
    refine ⟨W, ?_, sc, by simpa using c, rfl, by simp⟩
    rw [L_X3_searchAllOf_15, if_pos (by rw [shi_gt (by omega)]; omega)]
  | succ n ih =>
    intro j F W G hj hF hG sc c
    obtain ⟨F, rfl⟩ : ∃ F', F = F' + 1 := ⟨F - 1, by omega⟩
    obtain ⟨W1, f1, s1, c1, k1, l1⟩ := c15_step (L := L) o e9 g ht hi (show j ≤ 12 by omega) (by omega) sc c (k := k) (F := F)
    obtain ⟨W2, f2, s2, c2, k2, l2⟩ := ih (j + 1) F W1 _ (by omega) (by omega) (by omega) s1 c1
    rw [List.range'_succ, List.flatMap_cons, List.filter_append, ← List.append_assoc]
    exact ⟨W2, f1.trans f2, s2, c2, k2.trans k1, by omega⟩
theorem c4_loop {W0 : Mem} {N : Nat} {L : Int32} {s h : Nat → Nat} (o : RO N s h) (e9 : W0 9 0 = nI N) (g : SH W0 12 11 s h) {t : Nat} (ht : t ≤ 18) {k : Mem → Option (Unit × Mem)} :
    ∀ (n i F : Nat) (W : Mem) (G : List Tr), i + n = 13 → n < F → G.length + 26 * n ≤ 9000 → SC W0 W → CGd W G → ∃ W', L_X3_searchAllOf_4 (nI t) 9 L k F (shi i) W = k W' ∧ SC W0 W' ∧ CGd W' (G ++ ((List.range' i n).flatMap (fun i => (List.range' 0 13).flatMap (sPt t i))).filter (okb N L s h)) ∧ W' 32 4 = W 32 4 ∧ (G ++ ((List.range' i n).flatMap (fun i => (List.range' 0 13).flatMap (sPt t i))).filter (okb N L s h)).length ≤ G.length + 26 * n := by
  intro n
  induction n with
  | zero =>
    intro i F W G hj hF hG sc c
    obtain ⟨F, rfl⟩ : ∃ F', F = F' + 1 := ⟨F - 1, by omega⟩
    refine ⟨W, ?_, sc, by simpa using c, rfl, by simp⟩
    rw [L_X3_searchAllOf_4, if_pos (by rw [shi_gt (by omega)]; omega)]
  | succ n ih =>
    intro i F W G hj hF hG sc c
    obtain ⟨F, rfl⟩ : ∃ F', F = F' + 1 := ⟨F - 1, by omega⟩
    obtain ⟨W1, f1, s1, c1, k1, l1⟩ := c15_loop (L := L) o e9 g ht (show i ≤ 12 by omega) (k := fun w14 => L_X3_searchAllOf_4 (nI t) 9 L k F (shi i + 1) w14) 13 0 300 W G (by decide) (by decide) (by omega) sc c
    obtain ⟨W2, f2, s2, c2, k2, l2⟩ := ih (i + 1) F W1 _ (by omega) (by omega) (by omega) s1 c1
    rw [show List.range' i (n + 1) = i :: List.range' (i + 1) n from List.range'_succ, List.flatMap_cons, List.filter_append, ← List.append_assoc]
    refine ⟨W2, ?_, s2, c2, k2.trans k1, by omega⟩
    rw [shi_0] at f1
    rw [L_X3_searchAllOf_4, if_neg (by rw [shi_gt (by omega)]; omega), f1, shi_p (by omega), f2]
theorem searchAll_e {W0 W : Mem} {N : Nat} {L : Int32} {s h : Nat → Nat} (o : RO N s h) (e9 : W0 9 0 = nI N) (g : SH W0 12 11 s h) {t : Nat} (ht : t ≤ 18) (sc : SC W0 W) (c : CGd W []) : ∃ W', F_X3_searchAllOf (nI t) 9 L W = some ((), W') ∧ SC W0 W' ∧ CGd W' (sGt (okb N L s h) t) ∧ W' 32 4 = W 32 4 ∧ (sGt (okb N L s h) t).length ≤ 338 := by
  obtain ⟨W', f, s1, c1, k1, l1⟩ := c4_loop (L := L) o e9 g ht (k := fun w16 => some ((), w16)) 13 0 300 W [] (by decide) (by decide) (by decide) sc c
  rw [shi_0] at f
  rw [List.nil_append] at c1 l1
  exact ⟨W', f, s1, c1, k1, l1⟩
