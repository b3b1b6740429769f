/-! one shift is tried, by both -/
theorem flt_t {p : Tr → Bool} {x : Tr} (h : p x = true) (G : List Tr) : G ++ [x].filter p = G ++ [x] := by rw [List.filter_cons_of_pos h, List.filter_nil]
theorem flt_f {p : Tr → Bool} {x : Tr} (h : p x = false) (G : List Tr) : G ++ [x].filter p = G := by rw [List.filter_cons_of_neg (by simp [h]), List.filter_nil, List.append_nil]
theorem tryOne_e {W : Mem} {N : Nat} {L : Int32} {s h : Nat → Nat} (o : RO N s h) (e9 : W 9 0 = nI N) (g : SH W 12 11 s h) (h7 : W 34 0 = 7) {G : List Tr} (c : CGd W G) (hG : G.length ≤ 10000) {x : Tr} (t : T12 x) :
    ∃ W', F_X3_tryOne (shi x.1) (shi x.2.1) (shi x.2.2) 9 L W = some ((), W') ∧ SC W W' ∧ CGd W' (G ++ [x].filter (okb N L s h)) ∧ W' 32 4 = W 32 4 := by
  generalize hW3 : mst (mst (mst W 36 0 (shi x.1)) 36 1 (shi x.2.1)) 36 2 (shi x.2.2) = W3
  have o3 : ∀ i, i ≠ 36 → W3 i = W i := fun i hi => by rw [← hW3, ms_ne hi, ms_ne hi, ms_ne hi]
  have t3 : ∀ l, l < 3 → W3 36 l = shi (trx x l) := fun l hl => by
    rw [← hW3, ms_eq, ms_eq, ms_eq]
    rcases (show l = 0 ∨ l = 1 ∨ l = 2 by omega) with rfl | rfl | rfl
    · rw [upd_ne (by decide), upd_ne (by decide), upd_eq]; rfl
    · rw [upd_ne (by decide), upd_eq]; rfl
    · rw [upd_eq]; rfl
  have g' : ∀ U : Mem, (∀ i, i ≠ 36 → i ≠ 37 → U i = W i) → U 9 0 = nI N ∧ SH U 12 11 s h := fun U hU => ⟨by rw [hU 9 (by decide) (by decide), e9], fun l hl => by rw [hU 12 (by decide) (by decide), hU 11 (by decide) (by decide)]; exact g l hl⟩
  have miss : ∀ U : Mem, (∀ i, i ≠ 36 → i ≠ 37 → U i = W i) → okb N L s h x = false → SC W U ∧ CGd U (G ++ [x].filter (okb N L s h)) ∧ U 32 4 = W 32 4 := fun U hU hf => by
    rw [flt_f hf]
    exact ⟨⟨fun i hi => hU i (by omega) (by omega), by rw [hU 34 (by decide) (by decide), h7]⟩, c.same (by rw [hU 32 (by decide) (by decide)]) (hU 38 (by decide) (by decide)), by rw [hU 32 (by decide) (by decide)]⟩
  have p37 : ∀ (U : Mem) (l : Nat) (v : Int32), (∀ i, i ≠ 36 → i ≠ 37 → U i = W i) → ∀ i, i ≠ 36 → i ≠ 37 → mst U 37 l v i = W i := fun U l v hU i h1 h2 => by rw [ms_ne h2, hU i h1 h2]
  have q3 : ∀ i, i ≠ 36 → i ≠ 37 → W3 i = W i := fun i h1 _ => o3 i h1
  generalize hv0 : nI (s 0) + shi x.1 = v0
  generalize hv1 : nI (s 1) + shi x.2.1 = v1
  generalize hv2 : nI (s 2) + shi x.2.2 = v2
  have q4 := p37 W3 0 v0 q3
  have q5 := p37 _ 1 v1 q4
  have q6 := p37 _ 2 v2 q5
  have run : ∀ K : Mem → Option (Unit × Mem), L_X3_tryOne_24 9 L K 300 0 W3 = if mvb N (s 0) (h 0) x.1 = true then (if mvb N (s 1) (h 1) x.2.1 = true then (if mvb N (s 2) (h 2) x.2.2 = true then K (mst (mst (mst W3 37 0 v0) 37 1 v1) 37 2 v2) else some ((), mst (mst W3 37 0 v0) 37 1 v1)) else some ((), mst W3 37 0 v0)) else some ((), W3) := by
    intro K
    rw [show (300 : Nat) = 296 + 1 + 1 + 1 + 1 from rfl, ← z0, t1_step o (g' _ q3).1 (g' _ q3).2 (by decide) t.1 (t3 0 (by decide)), hv0, t1_step o (g' _ q4).1 (g' _ q4).2 (by decide) t.2.1 (show mst W3 37 0 v0 36 1 = _ by rw [ms_ne (by decide)]; exact t3 1 (by decide)), hv1, t1_step o (g' _ q5).1 (g' _ q5).2 (by decide) t.2.2 (show mst (mst W3 37 0 v0) 37 1 v1 36 2 = _ by rw [ms_ne (by decide), ms_ne (by decide)]; exact t3 2 (by decide)), hv2, L_X3_tryOne_24, if_pos (show (3 : Int32) ≤ nI (0 + 1 + 1 + 1) by decide)]
  unfold F_X3_tryOne
  rw [lt_m, lt_m, lt_m, hW3, run]
  cases m0 : mvb N (s 0) (h 0) x.1 with
  | false =>
    rw [if_neg (by decide)]
    exact ⟨_, rfl, miss _ q3 (by simp [okb, mv3, m0])⟩
  | true =>
  rw [if_pos rfl]
  cases m1 : mvb N (s 1) (h 1) x.2.1 with
  | false =>
    rw [if_neg (by decide)]
    exact ⟨_, rfl, miss _ q4 (by simp [okb, mv3, m1])⟩
  | true =>
  rw [if_pos rfl]
  cases m2 : mvb N (s 2) (h 2) x.2.2 with
  | false =>
    rw [if_neg (by decide)]
    exact ⟨_, rfl, miss _ q5 (by simp [okb, mv3, m2])⟩
  | true =>
  rw [if_pos rfl]
  have m3 : mv3 N s h x = true := by simp [mv3, m0, m1, m2]
  obtain ⟨o', sv⟩ := mv3_t o t m3
  have ok : okb N L s h x = seb N L (sx s x) h := by unfold okb; rw [m3, Bool.true_and]
  generalize hW6 : mst (mst (mst W3 37 0 v0) 37 1 v1) 37 2 v2 = W6 at q6
  have g6 : SH W6 37 11 (sx s x) h := fun l hl => by
    refine ⟨?_, ((g' _ q6).2 l hl).2⟩
    rw [← sv l hl, ← hW6, ms_eq, ms_eq, ms_eq]
    rcases (show l = 0 ∨ l = 1 ∨ l = 2 by omega) with rfl | rfl | rfl
    · rw [upd_ne (by decide), upd_ne (by decide), upd_eq, ← hv0]; rfl
    · rw [upd_ne (by decide), upd_eq, ← hv1]; rfl
    · rw [upd_eq, ← hv2]; rfl
  have t6 : ∀ l, l < 3 → W6 36 l = shi (trx x l) := fun l hl => by rw [← hW6, ms_ne (by decide), ms_ne (by decide), ms_ne (by decide), t3 l hl]
  obtain ⟨W7, f7, c7, -⟩ := find_e (q0 := 33) (q3 := 37) (q4 := 11) (L := L) rfl (by unfold AP; decide) (by unfold AP; decide) g6 o' (show W6 34 0 = 7 by rw [q6 34 (by decide) (by decide), h7])
  obtain ⟨m, hm, em⟩ := sn_8 L (sx s x) h (rns N (sx s x) h 8 0)
  have e7 : W7 33 1 = nI m := c7.2.2.2.2.trans em
  have eb : seb N L (sx s x) h = decide (2 ≤ pc m) := by unfold seb; rw [em, ix_nI (by omega)]
  have o7 : ∀ i, i < 32 ∨ 38 < i ∨ i = 32 ∨ i = 38 → W7 i = W i := fun i hi => by rw [c7.1 i (by omega) (by omega) (by omega), q6 i (by omega) (by omega)]
  have t7 : ∀ l, l < 3 → W7 36 l = shi (trx x l) := fun l hl => by rw [c7.1 36 (by decide) (by decide) (by decide), t6 l hl]
  simp only [Nat.reduceAdd]
  rw [(g' _ q6).1, f7, bd_m, howMany_e hm e7, bd_m]
  by_cases z : 2 ≤ pc m
  · rw [if_pos z, flt_t (by rw [ok, eb]; exact decide_eq_true z), o7 32 (by omega), c.1]
    by_cases y : G = []
    · rw [if_pos (by rw [y]; rfl), lt_m, lt_m]
      have n38 : ∀ i, i ≠ 38 → mcp W7 (W7 36) 0 38 0 3 i = W7 i := fun i hi => mcp_ne hi
      refine ⟨_, rfl, ⟨fun i hi => by rw [ms_ne (by omega), n38 i (by omega), o7 i (by omega)], by rw [ms_ne (by decide), n38 34 (by decide)]; exact c7.2.1⟩, c.more x (by rw [ms_eq, upd_eq, n38 32 (by decide), o7 32 (by omega)]) (fun q => absurd y q) (fun _ => ?_), by rw [ms_eq, upd_ne (by decide), n38 32 (by decide), o7 32 (by omega)]⟩
      rw [ms_ne (by decide), mcp_at (by decide), mcp_at (by decide), mcp_at (by decide), t7 0 (by decide), t7 1 (by decide), t7 2 (by decide)]
      exact ⟨rfl, rfl, rfl⟩
    · have hy : G.length ≠ 0 := fun q => y (List.length_eq_zero_iff.mp q)
      rw [if_neg (by rw [nI_eq0 (by omega)]; exact hy), lt_m]
      exact ⟨_, rfl, ⟨fun i hi => by rw [ms_ne (by omega), o7 i (by omega)], by rw [ms_ne (by decide)]; exact c7.2.1⟩, c.more x (by rw [ms_eq, upd_eq, c.1]) (fun _ => by rw [ms_ne (by decide), o7 38 (by omega)]) (fun q => absurd q y), by rw [ms_eq, upd_ne (by decide), o7 32 (by omega)]⟩
  · rw [if_neg z, flt_f (by rw [ok, eb]; exact decide_eq_false z)]
    exact ⟨_, rfl, ⟨fun i hi => o7 i (by omega), c7.2.1⟩, c.same (by rw [o7 32 (by omega)]) (o7 38 (by omega)), by rw [o7 32 (by omega)]⟩
/-! the reference tries one -/
def SMf (V0 V : Mem) : Prop := (∀ i, i ≠ 0 → i ≠ 13 → i ≠ 15 → i ≠ 16 → i ≠ 17 → V i = V0 i) ∧ ∀ j, j ≠ 19 → V 0 j = V0 0 j
theorem SMf.trans {a b c : Mem} (h : SMf a b) (g : SMf b c) : SMf a c := ⟨fun i h0 h1 h2 h3 h4 => (g.1 i h0 h1 h2 h3 h4).trans (h.1 i h0 h1 h2 h3 h4), fun j hj => (g.2 j hj).trans (h.2 j hj)⟩
def BGd (V : Mem) (A : List Tr) : Prop := (A = [] ∧ V 17 3 = 268435456) ∨ ∃ (m : Nat) (b : Tr) (R : List Tr), m ≤ 18 ∧ V 17 3 = nI m ∧ (∀ y, y ∈ A → m ≤ stot y) ∧ A.filter (fun y => decide (stot y = m)) = b :: R ∧ V 17 0 = shi b.1 ∧ V 17 1 = shi b.2.1 ∧ V 17 2 = shi b.2.2 ∧ V 17 4 = nI (R.length + 1)
theorem BGd.same {V V' : Mem} {A : List Tr} (b : BGd V A) (h : V' 17 = V 17) : BGd V' A := by
  unfold BGd at b ⊢
  rw [h]
  exact b
theorem stot_le {x : Tr} (t : T12 x) : stot x ≤ 18 := by
  obtain ⟨h1, h2, h3⟩ := t
  unfold stot sab
  omega
theorem BGd.lt {V : Mem} {A : List Tr} (b : BGd V A) {x : Tr} (t : T12 x) (z : V 17 3 < nI (stot x)) : BGd V (A ++ [x]) := by
  have hx := stot_le t
  rcases b with ⟨-, e⟩ | ⟨m, b, R, hm, e, ha, hf, r⟩
  · rw [e, Int32.lt_iff_toInt_lt, i_nI (by omega), show (268435456 : Int32).toInt = 268435456 by decide] at z
    omega
  · rw [e, nI_ltk (by omega) (by omega)] at z
    refine Or.inr ⟨m, b, R, hm, e, fun y hy => ?_, ?_, r⟩
    · rcases List.mem_append.mp hy with hy | hy
      · exact ha y hy
      · rw [List.mem_singleton.mp hy]; omega
    · rw [List.filter_append, hf, List.filter_cons_of_neg (by simp; omega), List.filter_nil, List.append_nil]
theorem BGd.eq {V V' : Mem} {A : List Tr} (b : BGd V A) {x : Tr} (t : T12 x) (z1 : ¬ V 17 3 < nI (stot x)) (z2 : V 17 3 ≤ nI (stot x)) (h : V' 17 = upd (V 17) 4 (V 17 4 + 1)) : BGd V' (A ++ [x]) := by
  have hx := stot_le t
  rcases b with ⟨-, e⟩ | ⟨m, b, R, hm, e, ha, hf, r0, r1, r2, r4⟩
  · rw [e, Int32.le_iff_toInt_le, i_nI (by omega), show (268435456 : Int32).toInt = 268435456 by decide] at z2
    omega
  · rw [e, nI_ltk (by omega) (by omega)] at z1
    rw [e, nI_lek (by omega) (by omega)] at z2
    unfold BGd
    rw [h]
    refine Or.inr ⟨m, b, R ++ [x], hm, by rw [upd_ne (by decide), e], fun y hy => ?_, ?_, by rw [upd_ne (by decide), r0], by rw [upd_ne (by decide), r1], by rw [upd_ne (by decide), r2], by rw [upd_eq, r4, nI_p1]; simp⟩
    · rcases List.mem_append.mp hy with hy | hy
      · exact ha y hy
      · rw [List.mem_singleton.mp hy]; omega
    · rw [List.filter_append, hf, List.filter_cons_of_pos (by simp; omega), List.filter_nil]; rfl
theorem BGd.gt {V V' : Mem} {A : List Tr} (b : BGd V A) {x : Tr} (t : T12 x) (z2 : ¬ V 17 3 ≤ nI (stot x)) (h0 : V' 17 0 = shi x.1) (h1 : V' 17 1 = shi x.2.1) (h2 : V' 17 2 = shi x.2.2) (h3 : V' 17 3 = nI (stot x)) (h4 : V' 17 4 = 1) : BGd V' (A ++ [x]) := by
  have hx := stot_le t
  have lo : ∀ y, y ∈ A → stot x < stot y := fun y hy => by
    rcases b with ⟨e, -⟩ | ⟨m, b, R, hm, e, ha, -⟩
    · rw [e] at hy; simp at hy
    · rw [e, nI_lek (by omega) (by omega)] at z2
      have := ha y hy
      omega
  refine Or.inr ⟨stot x, x, [], hx, h3, fun y hy => ?_, ?_, h0, h1, h2, h4⟩
  · rcases List.mem_append.mp hy with hy | hy
    · have := lo y hy; omega
    · rw [List.mem_singleton.mp hy]; omega
  · rw [List.filter_append, List.filter_eq_nil_iff.mpr (fun y hy => by have := lo y hy; simp; omega), List.filter_cons_of_pos (by simp), List.filter_nil]; rfl
theorem tries_e {V : Mem} {N : Nat} {L : Int32} {s h : Nat → Nat} (o : RO N s h) (e2 : V 2 0 = nI N) (eL : V 2 3 = L) (g : SH V 18 12 s h) {A : List Tr} (b : BGd V A) {x : Tr} (t : T12 x) :
    ∃ V', F_X7_tries (shi x.1) (shi x.2.1) (shi x.2.2) V = some ((), V') ∧ SMf V V' ∧ BGd V' (A ++ [x].filter (okb N L s h)) := by
  unfold F_X7_tries
  rw [show F_X7_mayShift 0 (shi x.1) V = _ from mayShift_e (l := 0) o e2 g (by decide) t.1, bd_m]
  cases m0 : mvb N (s 0) (h 0) x.1 with
  | false =>
    rw [if_pos (by decide), flt_f (by simp [okb, mv3, m0])]
    exact ⟨V, rfl, ⟨fun _ _ _ _ _ _ => rfl, fun _ _ => rfl⟩, b⟩
  | true =>
  rw [if_neg (by decide), show F_X7_mayShift 1 (shi x.2.1) V = _ from mayShift_e (l := 1) o e2 g (by decide) t.2.1, bd_m]
  cases m1 : mvb N (s 1) (h 1) x.2.1 with
  | false =>
    rw [if_pos (by decide), flt_f (by simp [okb, mv3, m1])]
    exact ⟨V, rfl, ⟨fun _ _ _ _ _ _ => rfl, fun _ _ => rfl⟩, b⟩
  | true =>
  rw [if_neg (by decide), show F_X7_mayShift 2 (shi x.2.2) V = _ from mayShift_e (l := 2) o e2 g (by decide) t.2.2, bd_m]
  cases m2 : mvb N (s 2) (h 2) x.2.2 with
  | false =>
    rw [if_pos (by decide), flt_f (by simp [okb, mv3, m2])]
    exact ⟨V, rfl, ⟨fun _ _ _ _ _ _ => rfl, fun _ _ => rfl⟩, b⟩
  | true =>
  rw [if_neg (by decide), lt_m, lt_m, lt_m]
  have m3 : mv3 N s h x = true := by simp [mv3, m0, m1, m2]
  obtain ⟨o', sv⟩ := mv3_t o t m3
  have ok : okb N L s h x = seb N L (sx s x) h := by unfold okb; rw [m3, Bool.true_and]
  have n18 : ∀ (U : Mem) (l : Nat) (v : Int32), mst U 13 l v 18 = U 18 := fun U l v => ms_ne (by decide)
  rw [n18, n18, n18, (g 0 (by decide)).1, (g 1 (by decide)).1, (g 2 (by decide)).1, show nI (s 0) + shi x.1 = _ from sv 0 (by decide), show nI (s 1) + shi x.2.1 = _ from sv 1 (by decide), show nI (s 2) + shi x.2.2 = _ from sv 2 (by decide)]
  generalize hV3 : mst (mst (mst V 13 0 (nI (sx s x 0))) 13 1 (nI (sx s x 1))) 13 2 (nI (sx s x 2)) = V3
  have o3 : ∀ i, i ≠ 13 → V3 i = V i := fun i hi => by rw [← hV3, ms_ne hi, ms_ne hi, ms_ne hi]
  have g3 : SH V3 13 12 (sx s x) h := fun l hl => by
    refine ⟨?_, by rw [o3 12 (by decide)]; exact (g l hl).2⟩
    rw [← hV3, ms_eq, ms_eq, ms_eq]
    exact u3 (g := fun l => nI (sx s x l)) hl
  have et : nI (sab x.1) + nI (sab x.2.1) + nI (sab x.2.2) = nI (stot x) := by rw [nI_add, nI_add]; rfl
  rw [far_e, bd_m, far_e, bd_m, far_e, bd_m, iabs_shi t.1, iabs_shi t.2.1, iabs_shi t.2.2, et, o3 17 (by decide)]
  have fr3 : SMf V V3 := ⟨fun i _ h1 _ _ _ => o3 i h1, fun j _ => by rw [o3 0 (by decide)]⟩
  have b3 := b.same (o3 17 (by decide))
  by_cases z : V 17 3 < nI (stot x)
  · rw [if_pos z]
    refine ⟨V3, rfl, fr3, ?_⟩
    cases k : okb N L s h x with
    | false => rw [flt_f k]; exact b3
    | true => rw [flt_t k]; exact b3.lt t (by rw [o3 17 (by decide)]; exact z)
  · rw [if_neg z]
    obtain ⟨V4, f4, c4⟩ := seenSet_e g3 o' (by rw [o3 2 (by decide), e2])
    rw [o3 2 (by decide), eL] at f4
    obtain ⟨m, hm, em⟩ := sn_8 L (sx s x) h (rns N (sx s x) h 8 0)
    have eb : seb N L (sx s x) h = decide (2 ≤ pc m) := by unfold seb; rw [em, ix_nI (by omega)]
    have e17 : V4 17 = V 17 := by rw [c4.1 17 (by decide) (by decide) (by decide), o3 17 (by decide)]
    have fr4 : SMf V V4 := fr3.trans ⟨fun i h0 _ h2 h3 _ => c4.1 i h0 h2 h3, fun j hj => c4.2.1 j hj⟩
    have fr5 : ∀ k v, SMf V4 (mst V4 17 k v) := fun k v => ⟨fun i _ _ _ _ h4 => ms_ne h4, fun j _ => by rw [ms_ne (by decide)]⟩
    have fr6 : ∀ (U : Mem) k v, SMf U (mst U 17 k v) := fun U k v => ⟨fun i _ _ _ _ h4 => ms_ne h4, fun j _ => by rw [ms_ne (by decide)]⟩
    rw [f4, bd_m, em, bits_e hm, bd_m]
    by_cases y : 2 ≤ pc m
    · rw [if_pos y, flt_t (by rw [ok, eb]; exact decide_eq_true y), e17]
      by_cases w : V 17 3 ≤ nI (stot x)
      · rw [if_pos w, lt_m]
        exact ⟨_, rfl, fr4.trans (fr6 _ _ _), b.eq t z w (by rw [ms_eq, e17])⟩
      · rw [if_neg w, lt_m, lt_m, lt_m, lt_m, lt_m, lt_m]
        refine ⟨_, rfl, ((((((fr4.trans (fr6 _ _ _)).trans (fr6 _ _ _)).trans (fr6 _ _ _)).trans (fr6 _ _ _)).trans (fr6 _ _ _)).trans (fr6 _ _ _)), b.gt t w ?_ ?_ ?_ ?_ ?_⟩
        · rw [ms_eq, ms_eq, ms_eq, ms_eq, ms_eq, ms_eq, upd_ne (by decide), upd_ne (by decide), upd_ne (by decide), upd_ne (by decide), upd_ne (by decide), upd_eq]
        · rw [ms_eq, ms_eq, ms_eq, ms_eq, ms_eq, upd_ne (by decide), upd_ne (by decide), upd_ne (by decide), upd_ne (by decide), upd_eq]
        · rw [ms_eq, ms_eq, ms_eq, ms_eq, upd_ne (by decide), upd_ne (by decide), upd_ne (by decide), upd_eq]
        · rw [ms_eq, ms_eq, ms_eq, upd_ne (by decide), upd_ne (by decide), upd_eq]
        · rw [ms_eq, upd_eq, ms_eq, upd_eq]; rfl
    · rw [if_neg y, flt_f (by rw [ok, eb]; exact decide_eq_false y)]
      exact ⟨_, rfl, fr4, b.same e17⟩
