/-! wishes of the class -/
def rowIs (W : Mem) (t i : Nat) (x : Wi) : Prop := W (t + 1) (4 * i) = x.1 ∧ W (t + 1) (4 * i + 1) = x.2.1 ∧ W (t + 1) (4 * i + 2) = x.2.2
def CW (W : Mem) (t : Nat) (Q : List Wi) : Prop := W t 2 = nI Q.length ∧ ∀ i (hi : i < Q.length), rowIs W t i Q[i]
def CL (W : Mem) (t : Nat) (Q K : List Wi) (j : Nat) : Prop := W t 2 = nI Q.length ∧ K.length ≤ j ∧ (∀ i (hi : i < K.length), rowIs W t i K[i]) ∧ ∀ i (hi : i < Q.length), j ≤ i → rowIs W t i Q[i]
def FC (t : Nat) (W0 W : Mem) : Prop := (∀ i, i ≠ t → i ≠ t + 1 → W i = W0 i) ∧ W t 0 = W0 t 0
theorem FC.refl (t : Nat) (W : Mem) : FC t W W := ⟨fun _ _ _ => rfl, rfl⟩
theorem FC.trans {t : Nat} {a b c : Mem} (h : FC t a b) (g : FC t b c) : FC t a c := ⟨fun i h1 h2 => (g.1 i h1 h2).trans (h.1 i h1 h2), g.2.trans h.2⟩
def mvW (W : Mem) (t a b : Nat) : Mem := mcp W (W (t + 1)) (4 * a) (t + 1) (4 * b) 4
theorem moveRow_e {W : Mem} {t n a b : Nat} (hn : W t 2 = nI n) (hn' : n ≤ 12) (ha : a < n) (hb : b < n) (hL : 4 * n ≤ lnC (t + 1)) : F_X4_moveRow t (nI a) (nI b) W = some ((), mvW W t a b) := by
  unfold F_X4_moveRow
  have e0 : (0 : Int32).toInt = 0 := by decide
  have h1 : ∀ c, c < n → wi (nI c) 0 (W t 2 - 1) = 1 := fun c hc => wi_t (by rw [hn, nI_sub1 (by omega), i_nI (by omega), e0]; omega)
  have z : ∀ c, c < 1000 → ¬ nI c < 0 := fun c hc => by rw [show (0 : Int32) = nI 0 from rfl, nI_ltk (by omega) (by omega)]; omega
  have c : cpok (nI (4 * a)) (nI (4 * b)) 4 (lnC (t + 1)) (lnC (t + 1)) = true := by
    unfold cpok
    rw [ix_nI (by omega), ix_nI (by omega), show ix 4 = 4 by decide]
    simp only [z (4 * a) (by omega), z (4 * b) (by omega), show ¬ (4 : Int32) < 0 by decide, decide_false, Bool.not_false, Bool.true_and, Bool.and_eq_true, decide_eq_true_eq]
    omega
  simp only [within_e, bd_m, h1 a ha, h1 b hb, if_neg (show ¬ (1 : Int32) = 0 by decide), nI_m4 (show a < 1000000 by omega), nI_m4 (show b < 1000000 by omega), c, gd_t, lt_m, ix_nI (show 4 * a < 2 ^ 31 by omega), ix_nI (show 4 * b < 2 ^ 31 by omega)]
  rfl
theorem mv_row {W : Mem} {t a b i : Nat} {x : Wi} (h : rowIs W t (if i = b then a else i) x) : rowIs (mvW W t a b) t i x := by
  unfold rowIs at h ⊢
  have e : ∀ k, mvW W t a b (t + 1) k = if 4 * b ≤ k ∧ k < 4 * b + 4 then W (t + 1) (4 * a + (k - 4 * b)) else W (t + 1) k := fun k => by
    unfold mvW mcp va_cpy
    rw [if_pos rfl]
  rw [e, e, e]
  by_cases q : i = b
  · subst q
    rw [if_pos rfl] at h
    rw [if_pos (by omega), if_pos (by omega), if_pos (by omega), show 4 * a + (4 * i - 4 * i) = 4 * a by omega, show 4 * a + (4 * i + 1 - 4 * i) = 4 * a + 1 by omega, show 4 * a + (4 * i + 2 - 4 * i) = 4 * a + 2 by omega]
    exact h
  · rw [if_neg q] at h
    rw [if_neg (by omega), if_neg (by omega), if_neg (by omega)]
    exact h
theorem mv_fc {W : Mem} {t a b : Nat} : FC t W (mvW W t a b) ∧ mvW W t a b t = W t := by
  have o : ∀ i, i ≠ t + 1 → mvW W t a b i = W i := fun i hi => by unfold mvW mcp; rw [if_neg hi]
  exact ⟨⟨fun i _ h2 => o i h2, by rw [o t (by omega)]⟩, o t (by omega)⟩
theorem CL.keep {W : Mem} {t : Nat} {Q K : List Wi} {j : Nat} (c : CL W t Q K j) (hQ : Q.length ≤ 12) (hL : 4 * Q.length ≤ lnC (t + 1)) (hj : j < Q.length) : F_X4_moveRow t (nI j) (nI K.length) W = some ((), mvW W t j K.length) ∧ CL (mvW W t j K.length) t Q (K ++ [Q[j]]) (j + 1) := by
  obtain ⟨c1, c2, c3, c4⟩ := c
  refine ⟨moveRow_e c1 hQ hj (by omega) hL, ?_, ?_, ?_, ?_⟩
  · rw [mv_fc.2, c1]
  · simp; omega
  · intro i hi
    simp only [List.length_append, List.length_singleton] at hi
    apply mv_row
    by_cases q : i < K.length
    · rw [if_neg (by omega), List.getElem_append_left q]
      exact c3 i q
    · obtain rfl : i = K.length := by omega
      rw [if_pos rfl, List.getElem_concat_length rfl]
      exact c4 j hj (Nat.le_refl _)
  · intro i hi h'
    apply mv_row
    rw [if_neg (by omega)]
    exact c4 i hi (by omega)
theorem CL.skip {W : Mem} {t : Nat} {Q K : List Wi} {j : Nat} (c : CL W t Q K j) : CL W t Q K (j + 1) := ⟨c.1, by have := c.2.1; omega, c.2.2.1, fun i hi h' => c.2.2.2 i hi (by omega)⟩
theorem cutK_e {W : Mem} {t n m : Nat} (hn : W t 2 = nI n) (hm : m ≤ n) (hb : n ≤ 12) : F_X4_cutTo t (nI m) W = some ((), mst W t 2 (nI m)) := by
  unfold F_X4_cutTo F_X6_pulledWithin
  simp only [bd_m, lt_m]
  have : imax 0 (imin (W t 2) (nI m)) = nI m := by
    rw [hn, imin_n (by omega) (by omega), Nat.min_eq_right hm]
    unfold imax
    split
    · rfl
    · next h =>
      rw [show (0 : Int32) = nI 0 from rfl, nI_ltk (by omega) (by omega)] at h
      rw [show m = 0 by omega]
      rfl
  rw [this]
theorem CL.cut {W : Mem} {t : Nat} {Q K : List Wi} {j : Nat} (c : CL W t Q K j) (hK : K.length ≤ Q.length) (hQ : Q.length ≤ 12) : F_X4_cutTo t (nI K.length) W = some ((), mst W t 2 (nI K.length)) ∧ CW (mst W t 2 (nI K.length)) t K ∧ FC t W (mst W t 2 (nI K.length)) := by
  refine ⟨cutK_e c.1 hK hQ, ⟨by rw [ms_eq, upd_eq], fun i hi => ?_⟩, fun i h1 _ => ms_ne h1, by rw [ms_eq, upd_ne (by decide)]⟩
  have := c.2.2.1 i hi
  unfold rowIs at this ⊢
  rw [ms_ne (by omega)]
  exact this
theorem cellOr_row {W : Mem} {t : Nat} {Q K : List Wi} {j m : Nat} (c : CL W t Q K j) (hQ : Q.length ≤ m) (hm : m ≤ 12) (hL : lnC (t + 1) = 4 * m) (hj : j < Q.length) (d : Int32) : F_X4_cellOr t d (nI j) 0 W = some (Q[j].1, W) ∧ F_X4_cellOr t d (nI j) 1 W = some (Q[j].2.1, W) ∧ F_X4_cellOr t d (nI j) 2 W = some (Q[j].2.2, W) := by
  obtain ⟨r0, r1, r2⟩ := c.2.2.2 j hj (Nat.le_refl _)
  have a0 := cellOr_in (t := t) c.1 hQ hm hL hj (j := 0) (by decide) d
  have a1 := cellOr_in (t := t) c.1 hQ hm hL hj (j := 1) (by decide) d
  have a2 := cellOr_in (t := t) c.1 hQ hm hL hj (j := 2) (by decide) d
  rw [show 4 * j + 0 = 4 * j from rfl, r0] at a0
  rw [r1] at a1
  rw [r2] at a2
  exact ⟨a0, a1, a2⟩
theorem drop_loop {q0 : Nat} {a : Int32} {Q : List Wi} {W0 : Mem} (hQ : Q.length ≤ 12) (hL : lnC (q0 + 7) = 48) {k : Int32 → Mem → Option (Int32 × Mem)} :
    ∀ (r j F : Nat) (K : List Wi) (W : Mem), j + r = Q.length → r < F → CL W (q0 + 6) Q K j → FC (q0 + 6) W0 W →
      ∃ W', L_X0_dropWishesOf_13 q0 a (nI Q.length) k F (nI K.length) (nI j) W = k (nI (K ++ (Q.drop j).filter (fun x => !decide (x.1 = a))).length) W' ∧ CL W' (q0 + 6) Q (K ++ (Q.drop j).filter (fun x => !decide (x.1 = a))) Q.length ∧ FC (q0 + 6) W0 W' := by
  intro r
  induction r with
  | zero =>
    intro j F K W hj hF c fr
    obtain ⟨F, rfl⟩ : ∃ F', F = F' + 1 := ⟨F - 1, by omega⟩
    obtain rfl : j = Q.length := by omega
    rw [List.drop_length]
    refine ⟨W, ?_, by simpa using c, fr⟩
    rw [L_X0_dropWishesOf_13, if_pos (by rw [nI_lek (by omega) (by omega)]; omega)]
    simp
  | succ r ih =>
    intro j F K W hj hF c fr
    obtain ⟨F, rfl⟩ : ∃ F', F = F' + 1 := ⟨F - 1, by omega⟩
    have hj' : j < Q.length := by omega
    rw [L_X0_dropWishesOf_13, if_neg (by rw [nI_lek (by omega) (by omega)]; omega), (cellOr_row c hQ (by decide) hL hj' _).1, bd_m, List.drop_eq_getElem_cons hj', nI_p1]
    by_cases z : Q[j].1 = a
    · rw [if_pos z, List.filter_cons_of_neg (by simp [z])]
      exact ih (j + 1) F K W (by omega) (by omega) c.skip fr
    · obtain ⟨f1, c1⟩ := c.keep hQ (by rw [hL]; omega) hj'
      rw [if_neg z, List.filter_cons_of_pos (by simp [z]), f1, bd_m, nI_p1]
      have := ih (j + 1) F (K ++ [Q[j]]) _ (by omega) (by omega) c1 (fr.trans mv_fc.1)
      simp only [List.length_append, List.length_singleton, List.append_assoc, List.singleton_append] at this ⊢
      exact this
theorem Rel.Q {wC wM : Mem} (h : Rel wC wM) : ∃ Q : List Wi, Q.length ≤ 12 ∧ CW wC 7 Q ∧ WQ wM Q ∧ ∀ x ∈ Q, WishOK x.1 x.2.1 x.2.2 := by
  obtain ⟨q, hq, e1, e2, hk⟩ := h.2.2.2.1
  refine ⟨(List.range q).map (fun k => (wM 7 k, wM 8 k, wM 9 k)), by simpa using hq, ⟨by simpa using e1, fun i hi => ?_⟩, ⟨by simpa using e2, fun i hi => ?_⟩, fun x hx => ?_⟩
  · simp only [List.length_map, List.length_range] at hi
    simp only [List.getElem_map, List.getElem_range]
    obtain ⟨a1, a2, a3, -⟩ := hk i hi
    exact ⟨a1, a2, a3⟩
  · simp
  · rw [List.mem_map] at hx
    obtain ⟨k, hk', rfl⟩ := hx
    exact (hk k (List.mem_range.mp hk')).2.2.2
theorem RQ_of {W V : Mem} {t : Nat} {Q : List Wi} (hQ : Q.length ≤ 12) (c : CW W t Q) (m : WQ V Q) (ok : ∀ x ∈ Q, WishOK x.1 x.2.1 x.2.2) : RQ (W t 2) (W (t + 1)) (V 0 7) (V 7) (V 8) (V 9) := by
  refine ⟨Q.length, hQ, c.1, m.1, fun k hk => ?_⟩
  obtain ⟨a1, a2, a3⟩ := c.2 k hk
  obtain ⟨b1, b2, b3⟩ := m.2 k hk
  have o := ok _ (List.getElem_mem hk)
  rw [a1, a2, a3, b1, b2, b3]
  exact ⟨rfl, rfl, rfl, o⟩
theorem Rel.newQ {wC wM W V : Mem} (h : Rel wC wM) {Q : List Wi} (hQ : Q.length ≤ 12) (c : CW W 7 Q) (m : WQ V Q) (ok : ∀ x ∈ Q, WishOK x.1 x.2.1 x.2.2) (fc : FC 7 wC W) (fm : FM wM V) : Rel W V := by
  have o : ∀ i, i ≠ 7 → i ≠ 8 → W i = wC i := fc.1
  have n : ∀ i, i ≠ 0 → i ≠ 7 → i ≠ 8 → i ≠ 9 → V i = wM i := fm.1
  unfold Rel
  rw [o 2 (by decide) (by decide), o 3 (by decide) (by decide), o 4 (by decide) (by decide), o 5 (by decide) (by decide), o 6 (by decide) (by decide), o 1 (by decide) (by decide), o 39 (by decide) (by decide), o 40 (by decide) (by decide), o 41 (by decide) (by decide), o 42 (by decide) (by decide), o 45 (by decide) (by decide), o 20 (by decide) (by decide), o 28 (by decide) (by decide), o 30 (by decide) (by decide), o 34 (by decide) (by decide), o 43 (by decide) (by decide), fc.2, n 2 (by decide) (by decide) (by decide) (by decide), n 4 (by decide) (by decide) (by decide) (by decide), n 3 (by decide) (by decide) (by decide) (by decide), n 5 (by decide) (by decide) (by decide) (by decide), n 6 (by decide) (by decide) (by decide) (by decide), n 10 (by decide) (by decide) (by decide) (by decide), n 21 (by decide) (by decide) (by decide) (by decide), n 1 (by decide) (by decide) (by decide) (by decide), fm.2 6 (by decide), fm.2 11 (by decide), fm.2 32 (by decide)]
  exact ⟨h.1, h.2.1, h.2.2.1, RQ_of hQ c m ok, h.2.2.2.2⟩
theorem filt_len (a : Int32) : ∀ Q : List Wi, Q.length = (Q.filter (fun x => !decide (x.1 = a))).length + Q.countP (fun x => decide (x.1 = a))
  | [] => rfl
  | x :: Q => by
    have := filt_len a Q
    by_cases z : x.1 = a
    · rw [List.filter_cons_of_neg (by simp [z]), List.countP_cons_of_pos (by simp [z]), List.length_cons]; omega
    · rw [List.filter_cons_of_pos (by simp [z]), List.countP_cons_of_neg (by simp [z]), List.length_cons, List.length_cons]; omega
theorem sim_unwish : S1 Rel F_X6_unwish F_X7_unwish := by
  intro a wC wM h
  unfold F_X6_unwish F_X7_unwish
  simp only [isLeg_e, isLeg7_e, bd_m]
  by_cases ha : wi a 0 2 = 0
  · rw [if_pos ha, if_pos ha]; exact S_bad h
  rw [if_neg ha, if_neg ha]
  obtain ⟨Q, hQ, c, m, ok⟩ := h.Q
  have fl := filt_len a Q
  have c0 : CL wC (1 + 6) Q [] 0 := ⟨c.1, by simp, fun i hi => absurd hi (by simp), fun i hi _ => c.2 i hi⟩
  obtain ⟨W1, f1, c1, r1⟩ := drop_loop (q0 := 1) (a := a) (W0 := wC) hQ rfl (k := fun (x10 : Int32) (w9 : Mem) => bd (F_X4_cutTo (1 + 6) x10 w9) (fun (r12 : Unit) (w11 : Mem) => some (((wC (1 + 6) 2) - x10), w11))) Q.length 0 300 [] wC (by omega) (by omega) c0 (FC.refl _ _)
  rw [List.drop_zero, List.nil_append] at f1 c1
  obtain ⟨f2, c2, r2⟩ := c1.cut (by omega) hQ
  obtain ⟨V1, g1, m1, s1⟩ := unM_loop (a := a) (k := fun x11 w10 => some (x11, w10)) Q.length Q [] 0 300 wM rfl (by omega) (by simpa using hQ) (by simpa using m)
  rw [List.append_nil] at m1
  refine ⟨nI (Q.countP (fun x => decide (x.1 = a))), _, V1, ?_, ?_, h.newQ (Q := Q.filter (fun x => !decide (x.1 = a))) (by omega) c2 m1 (fun x hx => ok x (List.mem_filter.mp hx).1) (r1.trans r2) s1⟩
  · unfold F_X0_dropWishesOf
    rw [show wC (1 + 6) 2 = nI Q.length from c.1] at f1 ⊢
    rw [show nI ([] : List Wi).length = 0 from rfl, z0] at f1
    rw [f1, f2, bd_m, bd_m, nI_sb' (by omega) (by omega)]
    congr 3
    omega
  · rw [z0, Nat.zero_add] at g1
    rw [m.1, g1]
