/-! the reference's wishes that come true -/
def FN (V0 V : Mem) : Prop := (∀ i, i ≠ 0 → i ≠ 5 → i ≠ 7 → i ≠ 8 → i ≠ 9 → V i = V0 i) ∧ ∀ j, j ≠ 7 → V 0 j = V0 0 j
theorem FN.of {a b c : Mem} (h : FN a b) (g : FM b c) : FN a c := ⟨fun i h0 h5 h1 h2 h3 => (g.1 i h0 h1 h2 h3).trans (h.1 i h0 h5 h1 h2 h3), fun j hj => (g.2 j hj).trans (h.2 j hj)⟩
theorem nlt_le {a b : Int32} : (a < b) = ¬ (b ≤ a) := by
  rw [Int32.lt_iff_toInt_lt, Int32.le_iff_toInt_le]
  exact propext ⟨by omega, by omega⟩
theorem true_loop {V0 : Mem} {k : Mem → Option (Unit × Mem)} : ∀ (S P : List Wi) (V : Mem) (F : Nat), (P ++ S).length ≤ 12 → S.length < F → WQ V (P ++ S) → (∀ x ∈ S, WishOK x.1 x.2.1 x.2.2) → FN V0 V →
      ∃ V', L_X7_comesTrue_2 k F (nI P.length) V = k V' ∧ WQ V' (P ++ S.filter (fun x => !decide (x.2.1 ≤ V0 0 6))) ∧ FN V0 V' ∧ V' 5 = wnt (V0 0 6) (V 5) S := by
  intro S
  induction S with
  | nil =>
    intro P V F hl hF m ok fr
    obtain ⟨F, rfl⟩ : ∃ F', F = F' + 1 := ⟨F - 1, by simp at hF; omega⟩
    simp only [List.append_nil] at m hl
    refine ⟨V, ?_, by simpa using m, fr, rfl⟩
    rw [L_X7_comesTrue_2, m.1, if_pos (by rw [nI_lek (by omega) (by omega)]; omega)]
  | cons x S ih =>
    intro P V F hl hF m ok fr
    simp only [List.length_append, List.length_cons] at hl hF
    obtain ⟨F, rfl⟩ : ∃ F', F = F' + 1 := ⟨F - 1, by omega⟩
    have hn : P.length < (P ++ x :: S).length := by simp
    have gx : (P ++ x :: S)[P.length]'hn = x := by simp
    obtain ⟨m7, m8, m9⟩ := m.2 P.length hn
    rw [gx] at m7 m8 m9
    have o := ok x (by simp)
    obtain ⟨l, hl', el⟩ := legs o.1
    have e6 : V 0 6 = V0 0 6 := fr.2 6 (by decide)
    rw [L_X7_comesTrue_2, m.1, if_neg (by rw [nI_lek (by simp; omega) (by omega)]; simp)]
    simp only [inb_nI (show P.length < 12 by omega) (by decide), gd_t, ix_nI (show P.length < 2 ^ 31 by omega), m7, m8, m9, e6, nlt_le, nI_p1]
    by_cases z : x.2.1 ≤ V0 0 6
    · rw [if_neg (by simpa using z), el, inb_nI hl' (by decide), gd_t, lt_m, ix_nI (by omega)]
      have m' : WQ (mst V 5 l x.2.2) (P ++ x :: S) := by
        unfold WQ at m ⊢
        rw [ms_ne (by decide), ms_ne (by decide), ms_ne (by decide), ms_ne (by decide)]
        exact m
      obtain ⟨V1, f1, m1, r1⟩ := goesWish_e m' (by simp; omega) hn
      have ee : (P ++ x :: S).eraseIdx P.length = P ++ S := by
        rw [List.eraseIdx_append_of_length_le (by omega), show P.length - P.length = 0 by omega]
        rfl
      rw [ee] at m1
      have fr1 : FN V0 (mst V 5 l x.2.2) := ⟨fun i h0 h5 h1 h2 h3 => by rw [ms_ne h5, fr.1 i h0 h5 h1 h2 h3], fun j hj => by rw [ms_ne (by decide), fr.2 j hj]⟩
      obtain ⟨V2, f2, m2, r2, w2⟩ := ih P V1 F (by simp; omega) (by omega) m1 (fun y hy => ok y (by simp [hy])) (fr1.of r1)
      refine ⟨V2, by rw [f1, bd_m, f2], ?_, r2, ?_⟩
      · rw [List.filter_cons_of_neg (by simp [z])]
        exact m2
      · rw [w2, r1.1 5 (by decide) (by decide) (by decide) (by decide), ms_eq]
        unfold wnt
        rw [List.foldl_cons, if_pos z, el, ix_nI (by omega)]
    · rw [if_pos (by simpa using z)]
      obtain ⟨V2, f2, m2, r2, w2⟩ := ih (P ++ [x]) V F (by simp; omega) (by omega) (by simpa using m) (fun y hy => ok y (by simp [hy])) fr
      refine ⟨V2, ?_, ?_, r2, ?_⟩
      · rw [← f2]; simp
      · rw [List.filter_cons_of_pos (by simp [z])]
        simpa using m2
      · rw [w2]
        unfold wnt
        rw [List.foldl_cons, if_neg z]
theorem wnt_ok (now : Int32) : ∀ (Q : List Wi) (f g : Nat → Int32), (∀ x ∈ Q, WishOK x.1 x.2.1 x.2.2) → (∀ l, l < 3 → f l = g l ∧ Bd 500 (g l)) → ∀ l, l < 3 → wnt now f Q l = wnt now g Q l ∧ Bd 500 (wnt now g Q l)
  | [], _, _, _, h => h
  | x :: Q, f, g, ok, h => by
    have o := ok x (by simp)
    have ih := fun f g => wnt_ok now Q f g (fun y hy => ok y (by simp [hy]))
    intro l hl
    show wnt now (if x.2.1 ≤ now then upd f (ix x.1) x.2.2 else f) Q l = wnt now (if x.2.1 ≤ now then upd g (ix x.1) x.2.2 else g) Q l ∧ Bd 500 (wnt now (if x.2.1 ≤ now then upd g (ix x.1) x.2.2 else g) Q l)
    refine ih _ _ (fun j hj => ?_) l hl
    by_cases z : x.2.1 ≤ now
    · rw [if_pos z, if_pos z]
      by_cases q : j = ix x.1
      · rw [q, upd_eq, upd_eq]; exact ⟨rfl, o.2.2⟩
      · rw [upd_ne q, upd_ne q]; exact h j hj
    · rw [if_neg z, if_neg z]; exact h j hj
theorem RD.take {d : Nat} {W V : Mem} (h : RD d W V) (hL : lnC (d + 7) = 48) : ∃ W' V', F_X0_takeWishesThatHaveCome d W = some ((), W') ∧ F_X7_comesTrue V = some ((), V') ∧ RD d W' V' ∧ FT d W W' ∧ FN V V' := by
  obtain ⟨Q, hQ, c, m, ok⟩ := h.Q
  have c0 : CL W (d + 6) Q [] 0 := ⟨c.1, by simp, fun i hi => absurd hi (by simp), fun i hi _ => c.2 i hi⟩
  obtain ⟨W1, f1, c1, r1, w1⟩ := take_loop (W0 := W) hQ hL ok (k := fun (x19 : Int32) (w18 : Mem) => bd (F_X4_cutTo (d + 6) x19 w18) (fun (r21 : Unit) (w20 : Mem) => some ((), w20))) Q.length 0 300 [] W (by omega) (by omega) c0 ⟨fun _ _ _ _ => rfl, rfl⟩
  rw [List.drop_zero, List.nil_append] at f1 c1
  rw [List.drop_zero] at w1
  have fl := List.length_filter_le (fun x : Wi => !decide (x.2.1 ≤ W d 7)) Q
  obtain ⟨f2, c2, r2⟩ := c1.cut fl hQ
  obtain ⟨V1, g1, m1, s1, v1⟩ := true_loop (V0 := V) (k := fun w11 => some ((), w11)) Q [] V 300 (by simpa using hQ) (by omega) (by simpa using m) ok ⟨fun _ _ _ _ _ _ => rfl, fun _ _ => rfl⟩
  rw [List.nil_append, ← h.2.2.1] at m1
  have R := r1.of r2
  have wo := wnt_ok (W d 7) Q (W (d + 4)) (V 5) ok (fun l hl => (h.2.1 l hl).2.2.1)
  refine ⟨_, V1, ?_, ?_, ?_, R, s1⟩
  · unfold F_X0_takeWishesThatHaveCome
    rw [show nI ([] : List Wi).length = 0 from rfl, z0] at f1
    rw [f1, f2, bd_m]
  · unfold F_X7_comesTrue
    rw [show nI ([] : List Wi).length = 0 from rfl] at g1
    exact g1
  · have rq := RQ_of (by omega) c2 m1 (fun x hx => ok x (List.mem_filter.mp hx).1)
    refine ⟨?_, ?_, ?_, rq, ?_⟩
    · rw [R.1 (d + 1) (by omega) (by omega) (by omega), s1.1 2 (by decide) (by decide) (by decide) (by decide) (by decide)]
      exact h.1
    · intro l hl
      rw [R.1 (d + 2) (by omega) (by omega) (by omega), R.1 (d + 3) (by omega) (by omega) (by omega), R.1 (d + 5) (by omega) (by omega) (by omega), s1.1 4 (by decide) (by decide) (by decide) (by decide) (by decide), s1.1 3 (by decide) (by decide) (by decide) (by decide) (by decide), s1.1 6 (by decide) (by decide) (by decide) (by decide) (by decide), r2.1 (d + 4) (by omega) (by omega), w1, v1, ← h.2.2.1]
      exact ⟨(h.2.1 l hl).1, (h.2.1 l hl).2.1, wo l hl, (h.2.1 l hl).2.2.2⟩
    · rw [R.1 d (by omega) (by omega) (by omega), s1.2 6 (by decide)]
      exact h.2.2.1
    · rw [R.2]; exact h.2.2.2.2
