/-! runs: the reference's -/
def MR (V0 V : Mem) (R : List (Nat × Nat)) : Prop := (∀ i, i ≠ 0 → i ≠ 15 → i ≠ 16 → V i = V0 i) ∧ (∀ j, j ≠ 19 → V 0 j = V0 0 j) ∧ V 0 19 = nI R.length ∧ ∀ i (hi : i < R.length), V 15 i = nI R[i].1 ∧ V 16 i = nI R[i].2
theorem SH.ofM {s h : Nat → Nat} {V0 V : Mem} {R : List (Nat × Nat)} (g : SH V0 13 12 s h) (c : MR V0 V R) : SH V 13 12 s h := by
  unfold SH at g ⊢
  rw [c.1 13 (by decide) (by decide) (by decide), c.1 12 (by decide) (by decide) (by decide)]
  exact g
/-- one more tick of the run that goes on -/
theorem mr_on {V0 V : Mem} {R : List (Nat × Nat)} {T c : Nat} (m : MR V0 V (R ++ [(T, c)])) (hR : R.length < 96) (hc : c < 1000) {k : Mem → Option (Unit × Mem)} :
    ∃ V', gd (inb ((V 0 19) - 1) 96) (gd (inb ((V 0 19) - 1) 96) (lt (mst V 16 (ix ((V 0 19) - 1)) ((V 16 (ix ((V 0 19) - 1))) + 1)) k)) = k V' ∧ MR V0 V' (R ++ [(T, c + 1)]) := by
  obtain ⟨m1, m2, m3, m4⟩ := m
  have e : V 0 19 - 1 = nI R.length := by
    rw [m3]
    refine i_ext ?_
    rw [nI_sub1 (by simp; omega), i_nI (by omega)]
    simp
  have l := m4 R.length (by simp)
  rw [List.getElem_concat_length rfl] at l
  refine ⟨mst V 16 R.length (nI (c + 1)), ?_, ?_, ?_, ?_, ?_⟩
  · rw [e, inb_nI hR (by decide), gd_t, gd_t, lt_m, ix_nI (by omega), l.2, nI_p1]
  · intro i h1 h2 h3
    rw [ms_ne h3, m1 i h1 h2 h3]
  · intro j hj
    rw [ms_ne (by decide), m2 j hj]
  · rw [ms_ne (by decide), m3]
    simp
  · intro i hi
    simp only [List.length_append, List.length_singleton] at hi
    rw [ms_ne (by decide), ms_eq]
    by_cases q : i < R.length
    · have := m4 i (by simp; omega)
      rw [List.getElem_append_left q] at this ⊢
      rw [upd_ne (by omega)]
      exact this
    · obtain rfl : i = R.length := by omega
      rw [List.getElem_concat_length rfl, upd_eq]
      exact ⟨l.1, rfl⟩
theorem mr_new {V0 V : Mem} {R : List (Nat × Nat)} {T : Nat} (m : MR V0 V R) (hR : R.length < 96) {k : Mem → Option (Unit × Mem)} :
    ∃ V', gd (inb (V 0 19) 96) (lt (mst V 15 (ix (V 0 19)) (nI T)) (fun (w10 : Mem) => gd (inb (w10 0 19) 96) (lt (mst w10 16 (ix (w10 0 19)) (0 : Int32)) (fun (w12 : Mem) => lt (mst w12 0 19 ((w12 0 19) + (1 : Int32))) (fun (w13 : Mem) => k w13))))) = k V' ∧ MR V0 V' (R ++ [(T, 0)]) := by
  obtain ⟨m1, m2, m3, m4⟩ := m
  refine ⟨mst (mst (mst V 15 R.length (nI T)) 16 R.length 0) 0 19 (nI (R.length + 1)), ?_, ?_, ?_, ?_, ?_⟩
  · simp only [lt_m, ms_ne (show 0 ≠ 15 by decide), ms_ne (show 0 ≠ 16 by decide), m3, inb_nI hR (show 96 < 2 ^ 31 by decide), gd_t, ix_nI (show R.length < 2 ^ 31 by omega), nI_p1]
  · intro i h1 h2 h3
    rw [ms_ne h1, ms_ne h3, ms_ne h2, m1 i h1 h2 h3]
  · intro j hj
    rw [ms_eq, upd_ne hj, ms_ne (by decide), ms_ne (by decide), m2 j hj]
  · rw [ms_eq, upd_eq]
    simp
  · intro i hi
    simp only [List.length_append, List.length_singleton] at hi
    rw [ms_ne (by decide), ms_ne (by decide), ms_eq, ms_ne (by decide), ms_eq, ms_ne (by decide)]
    by_cases q : i < R.length
    · rw [List.getElem_append_left q, upd_ne (by omega), upd_ne (by omega)]
      exact m4 i q
    · obtain rfl : i = R.length := by omega
      rw [List.getElem_concat_length rfl, upd_eq, upd_eq]
      exact ⟨rfl, rfl⟩
theorem set_new {V0 V : Mem} {N : Nat} {s h : Nat → Nat} (g : SH V0 13 12 s h) (o : RO N s h) (e2 : V0 2 0 = nI N) {R : List (Nat × Nat)} (m : MR V0 V R) (hR : R.length < 96) {t : Nat} (ht : t < N) (hp : t = 0 ∨ pa s h t ≠ pa s h (t - 1)) {k : Mem → Option (Unit × Mem)} {F : Nat} :
    ∃ V', L_X7_setRuns_7 k (F + 1) (nI t) V = L_X7_setRuns_7 k F (nI (t + 1)) V' ∧ MR V0 V' (R ++ [(t, 1)]) := by
  have hN := o.2.1
  have g' := g.ofM m
  have e2' : V 2 0 = nI N := by rw [m.1 2 (by decide) (by decide) (by decide)]; exact e2
  obtain ⟨V1, f1, m1⟩ := mr_new m hR (T := t) (k := fun w3 => gd (inb ((w3 0 19) - 1) 96) (gd (inb ((w3 0 19) - 1) 96) (lt (mst w3 16 (ix ((w3 0 19) - 1)) ((w3 16 (ix ((w3 0 19) - 1))) + 1)) (fun w6 => L_X7_setRuns_7 k F (nI t + 1) w6))))
  obtain ⟨V2, f2, m2⟩ := mr_on m1 hR (by decide) (k := fun w6 => L_X7_setRuns_7 k F (nI t + 1) w6)
  refine ⟨V2, ?_, m2⟩
  rw [L_X7_setRuns_7, e2', if_neg (by rw [nI_lek (by omega) (by omega)]; omega), jn_m, jn_m]
  rw [← nI_p1]
  refine Eq.trans ?_ f2
  refine Eq.trans ?_ f1
  rcases hp with rfl | hp
  · rw [if_pos z0]
  · by_cases t0 : t = 0
    · rw [t0, if_pos z0]
    · have em : nI t - 1 = nI (t - 1) := nI_sb' (b := 1) (by omega) (by omega)
      have p1 := pa_le s h t
      have p2 := pa_le s h (t - 1)
      rw [if_neg (by rw [nI_eq0 (by omega)]; exact t0), patM_e g' o (by omega), bd_m, em, patM_e g' o (by omega), bd_m, if_neg (by rw [nI_eqk (by omega) (by omega)]; exact hp)]
theorem set_on {V0 V : Mem} {N : Nat} {s h : Nat → Nat} (g : SH V0 13 12 s h) (o : RO N s h) (e2 : V0 2 0 = nI N) {R : List (Nat × Nat)} {T c : Nat} (m : MR V0 V (R ++ [(T, c)])) (hR : R.length < 96) {t : Nat} (ht : t < N) (hc : c < 1000) (t0 : t ≠ 0) (hp : pa s h t = pa s h (t - 1)) {k : Mem → Option (Unit × Mem)} {F : Nat} :
    ∃ V', L_X7_setRuns_7 k (F + 1) (nI t) V = L_X7_setRuns_7 k F (nI (t + 1)) V' ∧ MR V0 V' (R ++ [(T, c + 1)]) := by
  have hN := o.2.1
  have g' := g.ofM m
  have e2' : V 2 0 = nI N := by rw [m.1 2 (by decide) (by decide) (by decide)]; exact e2
  obtain ⟨V2, f2, m2⟩ := mr_on m hR hc (k := fun w6 => L_X7_setRuns_7 k F (nI t + 1) w6)
  refine ⟨V2, ?_, m2⟩
  have em : nI t - 1 = nI (t - 1) := nI_sb' (b := 1) (by omega) (by omega)
  rw [L_X7_setRuns_7, e2', if_neg (by rw [nI_lek (by omega) (by omega)]; omega), jn_m, jn_m]
  rw [if_neg (by rw [nI_eq0 (by omega)]; exact t0), patM_e g' o (by omega), bd_m, em, patM_e g' o (by omega), bd_m, if_pos (by rw [hp]), ← nI_p1]
  exact f2
theorem set_ons {V0 : Mem} {N : Nat} {s h : Nat → Nat} (g : SH V0 13 12 s h) (o : RO N s h) (e2 : V0 2 0 = nI N) {R : List (Nat × Nat)} {T x : Nat} (hR : R.length < 96) (hx : x ≤ N) (hp : ∀ y, T ≤ y → y < x → pa s h y = pa s h T) {k : Mem → Option (Unit × Mem)} {F : Nat} :
    ∀ (r c : Nat) (V : Mem), 0 < c → T + c + r = x → MR V0 V (R ++ [(T, c)]) → ∃ V', L_X7_setRuns_7 k (F + r) (nI (T + c)) V = L_X7_setRuns_7 k F (nI x) V' ∧ MR V0 V' (R ++ [(T, x - T)]) := by
  intro r
  have hN := o.2.1
  induction r with
  | zero =>
    intro c V hc e m
    refine ⟨V, ?_, ?_⟩
    · rw [show T + c = x by omega]; rfl
    · rw [show x - T = c by omega]; exact m
  | succ r ih =>
    intro c V hc e m
    obtain ⟨V1, f1, m1⟩ := set_on g o e2 m hR (t := T + c) (by omega) (by omega) (by omega) (by rw [hp (T + c) (by omega) (by omega), hp (T + c - 1) (by omega) (by omega)]) (k := k) (F := F + r)
    obtain ⟨V2, f2, m2⟩ := ih (c + 1) V1 (by omega) (by omega) m1
    refine ⟨V2, ?_, m2⟩
    rw [← f2, ← Nat.add_assoc T c 1, ← f1]
    rfl
theorem set_loop {V0 : Mem} {N : Nat} {s h : Nat → Nat} (g : SH V0 13 12 s h) (o : RO N s h) (e2 : V0 2 0 = nI N) {k : Mem → Option (Unit × Mem)} :
    ∀ (f t F : Nat) (V : Mem) (R : List (Nat × Nat)), t ≤ N → (t = 0 ∨ t = N ∨ pa s h t ≠ pa s h (t - 1)) → R.length ≤ 7 → (t < N → R.length + bs N s h t ≤ 6) → 8 ≤ f + R.length → N - t < F → MR V0 V R →
      ∃ V', L_X7_setRuns_7 k F (nI t) V = k V' ∧ MR V0 V' (R ++ rns N s h f t) := by
  intro f
  have hN := o.2.1
  have hN' := o.1
  induction f with
  | zero => intro t F V R _ _ _ _ _ _ _; omega
  | succ f ih =>
    intro t F V R htN hp hR hb hf hF m
    by_cases ht : t < N
    · have hb' := hb ht
      have x1 := nxt_gt (s := s) (h := h) ht
      have x2 := nxt_le N s h t
      obtain ⟨F2, rfl⟩ : ∃ F2, F = F2 + (nxt N s h t - (t + 1)) + 1 := ⟨F - (nxt N s h t - t), by omega⟩
      obtain ⟨V1, f1, m1⟩ := set_new g o e2 m (by omega) ht (by omega) (k := k) (F := F2 + (nxt N s h t - (t + 1)))
      obtain ⟨V2, f2, m2⟩ := set_ons g o e2 (R := R) (T := t) (x := nxt N s h t) (by omega) x2 (fun y y1 y2 => nxt_pa y1 y2) (k := k) (F := F2) (nxt N s h t - (t + 1)) 1 V1 (by decide) (by omega) m1
      have q : nxt N s h t = 0 ∨ nxt N s h t = N ∨ pa s h (nxt N s h t) ≠ pa s h (nxt N s h t - 1) := by
        by_cases hx : nxt N s h t < N
        · right; right
          rw [nxt_pa (N := N) (t := t) (x := nxt N s h t - 1) (by omega) (by omega)]
          exact (nxt_ch ht hx).1
        · right; left; omega
      obtain ⟨V3, f3, m3⟩ := ih (nxt N s h t) F2 V2 (R ++ [(t, nxt N s h t - t)]) x2 q (by simp; omega) (fun hx => by have := bs_lt ht hx; simp; omega) (by simp; omega) (by omega) m2
      rw [rns, if_pos ht, show R ++ (t, nxt N s h t - t) :: rns N s h f (nxt N s h t) = (R ++ [(t, nxt N s h t - t)]) ++ rns N s h f (nxt N s h t) by simp]
      exact ⟨V3, by rw [f1, f2, f3], m3⟩
    · obtain ⟨F, rfl⟩ : ∃ F', F = F' + 1 := ⟨F - 1, by omega⟩
      rw [rns, if_neg ht, List.append_nil]
      refine ⟨V, ?_, m⟩
      have e2' : V 2 0 = nI N := by rw [m.1 2 (by decide) (by decide) (by decide)]; exact e2
      rw [L_X7_setRuns_7, e2', if_pos (by rw [nI_lek (by omega) (by omega)]; omega)]
theorem setRuns_e {V : Mem} {N : Nat} {s h : Nat → Nat} (g : SH V 13 12 s h) (o : RO N s h) (e2 : V 2 0 = nI N) : ∃ V', F_X7_setRuns V = some ((), V') ∧ MR V V' (rns N s h 8 0) := by
  have hN := o.2.1
  have m0 : MR V (mst V 0 19 0) [] := by
    refine ⟨fun i i1 _ _ => ms_ne i1, fun j hj => by rw [ms_eq, upd_ne hj], ?_, fun i hi => absurd hi (by simp)⟩
    rw [ms_eq, upd_eq]; rfl
  obtain ⟨V', f, m⟩ := set_loop g o e2 (k := fun w23 => some ((), w23)) 8 0 300 _ [] (by omega) (Or.inl rfl) (by simp) (fun _ => by have := bs_6 N s h 0; simp; omega) (by simp) (by omega) m0
  refine ⟨V', ?_, m⟩
  unfold F_X7_setRuns
  rw [z0] at f
  rw [lt_m, f]
