/-! one step of drive d -/
def RD (d : Nat) (W V : Mem) : Prop := RS (W (d + 1)) (V 2) ∧ RV (W (d + 2)) (W (d + 3)) (W (d + 4)) (W (d + 5)) (V 4) (V 3) (V 5) (V 6) ∧ W d 7 = V 0 6 ∧ RQ (W (d + 6) 2) (W (d + 7)) (V 0 7) (V 7) (V 8) (V 9) ∧ W (d + 6) 0 = 12
theorem RD.Q {d : Nat} {W V : Mem} (h : RD d W V) : ∃ Q : List Wi, Q.length ≤ 12 ∧ CW W (d + 6) Q ∧ WQ V Q ∧ ∀ x ∈ Q, WishOK x.1 x.2.1 x.2.2 := by
  obtain ⟨q, hq, e1, e2, hk⟩ := h.2.2.2.1
  refine ⟨(List.range q).map (fun k => (V 7 k, V 8 k, V 9 k)), by simpa using hq, ⟨by simpa using e1, fun i hi => ?_⟩, ⟨by simpa using e2, fun i hi => ?_⟩, fun x hx => ?_⟩
  · simp only [List.length_map, List.length_range] at hi
    simp only [List.getElem_map, List.getElem_range]
    obtain ⟨a1, a2, a3, -⟩ := hk i hi
    exact ⟨a1, a2, a3⟩
  · simp
  · rw [List.mem_map] at hx
    obtain ⟨k, hk', rfl⟩ := hx
    exact (hk k (List.mem_range.mp hk')).2.2.2
/-- the wants after the wishes of Q that have come -/
def wnt (now : Int32) (f : Nat → Int32) (Q : List Wi) : Nat → Int32 := Q.foldl (fun f x => if x.2.1 ≤ now then upd f (ix x.1) x.2.2 else f) f
theorem isLeg_t {l : Nat} (hl : l < 3) (w : Mem) : F_X6_isLeg (nI l) w = some (1, w) := by
  rw [isLeg_e, wi_t (by rw [i_nI (by omega), show (0 : Int32).toInt = 0 by decide, show (2 : Int32).toInt = 2 by decide]; omega)]
theorem legs {a : Int32} (h : a = 0 ∨ a = 1 ∨ a = 2) : ∃ l, l < 3 ∧ a = nI l := by
  rcases h with rfl | rfl | rfl
  · exact ⟨0, by decide, rfl⟩
  · exact ⟨1, by decide, rfl⟩
  · exact ⟨2, by decide, rfl⟩
theorem takeWant_e {d l : Nat} (hl : l < 3) (v : Int32) (w : Mem) : F_X0_takeWant d (nI l) v w = some ((), mst w (d + 4) l v) := by
  unfold F_X0_takeWant
  rw [isLeg_t hl, bd_m, if_neg (by decide), inb_nI hl (by decide), gd_t, lt_m, ix_nI (by omega)]
def FT (d : Nat) (W0 W : Mem) : Prop := (∀ i, i ≠ d + 4 → i ≠ d + 6 → i ≠ d + 7 → W i = W0 i) ∧ W (d + 6) 0 = W0 (d + 6) 0
theorem FT.of {d : Nat} {a b c : Mem} (h : FT d a b) (g : FC (d + 6) b c) : FT d a c := ⟨fun i h1 h2 h3 => (g.1 i h2 h3).trans (h.1 i h1 h2 h3), g.2.trans h.2⟩
theorem CL.want {W : Mem} {d l : Nat} {v : Int32} {Q K : List Wi} {j : Nat} (c : CL W (d + 6) Q K j) : CL (mst W (d + 4) l v) (d + 6) Q K j := by
  unfold CL rowIs at c ⊢
  rw [ms_ne (by omega), ms_ne (by omega)]
  exact c
theorem take_loop {d : Nat} {Q : List Wi} {W0 : Mem} (hQ : Q.length ≤ 12) (hL : lnC (d + 7) = 48) (ok : ∀ x ∈ Q, WishOK x.1 x.2.1 x.2.2) {k : Int32 → Mem → Option (Unit × Mem)} :
    ∀ (r j F : Nat) (K : List Wi) (W : Mem), j + r = Q.length → r < F → CL W (d + 6) Q K j → FT d W0 W →
      ∃ W', L_X0_takeWishesThatHaveCome_4 d k F (nI K.length) (nI j) W = k (nI (K ++ (Q.drop j).filter (fun x => !decide (x.2.1 ≤ W0 d 7))).length) W' ∧ CL W' (d + 6) Q (K ++ (Q.drop j).filter (fun x => !decide (x.2.1 ≤ W0 d 7))) Q.length ∧ FT d W0 W' ∧ W' (d + 4) = wnt (W0 d 7) (W (d + 4)) (Q.drop j) := by
  intro r
  induction r with
  | zero =>
    intro j F K W hj hF c fr
    obtain ⟨F, rfl⟩ : ∃ F', F = F' + 1 := ⟨F - 1, by omega⟩
    obtain rfl : j = Q.length := by omega
    rw [List.drop_length]
    refine ⟨W, ?_, by simpa using c, fr, rfl⟩
    rw [L_X0_takeWishesThatHaveCome_4, c.1, if_pos (by rw [nI_lek (by omega) (by omega)]; omega)]
    simp
  | succ r ih =>
    intro j F K W hj hF c fr
    obtain ⟨F, rfl⟩ : ∃ F', F = F' + 1 := ⟨F - 1, by omega⟩
    have hj' : j < Q.length := by omega
    have o := ok _ (List.getElem_mem hj')
    obtain ⟨l, hl, el⟩ := legs o.1
    have e7 : W d 7 = W0 d 7 := by rw [fr.1 d (by omega) (by omega) (by omega)]
    have cr := fun dd => cellOr_row c hQ (by decide) hL hj' dd
    rw [L_X0_takeWishesThatHaveCome_4, c.1, if_neg (by rw [nI_lek (by omega) (by omega)]; omega), (cr _).2.1, bd_m, e7, List.drop_eq_getElem_cons hj', nI_p1]
    by_cases z : Q[j].2.1 ≤ W0 d 7
    · have := ih (j + 1) F K (mst W (d + 4) l Q[j].2.2) (by omega) (by omega) c.want.skip ⟨fun i h1 h2 h3 => by rw [ms_ne h1, fr.1 i h1 h2 h3], by rw [ms_ne (by omega), fr.2]⟩
      rw [ms_eq] at this
      rw [if_pos z, List.filter_cons_of_neg (by simp [z]), (cr _).1, bd_m, (cr _).2.2, bd_m, el, takeWant_e hl, bd_m, show wnt (W0 d 7) (W (d + 4)) (Q[j] :: List.drop (j + 1) Q) = wnt (W0 d 7) (upd (W (d + 4)) l Q[j].2.2) (List.drop (j + 1) Q) by unfold wnt; rw [List.foldl_cons, if_pos z, el, ix_nI (by omega)]]
      exact this
    · obtain ⟨f1, c1⟩ := c.keep hQ (by rw [show d + 6 + 1 = d + 7 from rfl, hL]; omega) hj'
      have := ih (j + 1) F (K ++ [Q[j]]) _ (by omega) (by omega) c1 (fr.of mv_fc.1)
      rw [(mv_fc (W := W) (t := d + 6) (a := j) (b := K.length)).1.1 (d + 4) (by omega) (by omega)] at this
      rw [if_neg z, List.filter_cons_of_pos (by simp [z]), f1, bd_m, nI_p1, show wnt (W0 d 7) (W (d + 4)) (Q[j] :: List.drop (j + 1) Q) = wnt (W0 d 7) (W (d + 4)) (List.drop (j + 1) Q) by unfold wnt; rw [List.foldl_cons, if_neg z]]
      simp only [List.length_append, List.length_singleton, List.append_assoc, List.singleton_append] at this ⊢
      exact this
