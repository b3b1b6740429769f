/-! digest -/
theorem dg_n {V w : Mem} (e : vM V = vM w) : nN V = nN w ∧ nd V = nd w ∧ nh V = nh w ∧ ns V = ns w ∧ V 3 = w 3 ∧ V 4 = w 4 ∧ V 2 = w 2 := by
  simp only [vM, Prod.mk.injEq] at e
  obtain ⟨m2, m4, m3, -⟩ := e
  have h1 : nN V = nN w := by unfold nN; rw [m2]
  have h2 : nh V = nh w := by funext l; unfold nh; rw [m2, m4, m3]
  refine ⟨h1, ?_, h2, ?_, m3, m4, m2⟩
  · unfold nd; rw [m2]
  · funext l; unfold ns; rw [h1, h2]
theorem dg6 {wC wM : Mem} (h : Rel wC wM) {k k' : Int64 → Mem → Option (Int64 × Mem)} : ∀ (n j F : Nat) (x : Int64), j + n = 13 → n < F → ∃ y, L_X6_digest_6 k F x (nI j) wC = k y wC ∧ L_X7_digest_6 k' F x (nI j) wM = k' y wM := by
  intro n
  induction n with
  | zero =>
    intro j F x hj hF
    obtain ⟨F, rfl⟩ : ∃ F', F = F' + 1 := ⟨F - 1, by omega⟩
    obtain rfl : j = 13 := by omega
    exact ⟨x, by rw [L_X6_digest_6, if_pos (by decide)], by rw [L_X7_digest_6, if_pos (by decide)]⟩
  | succ n ih =>
    intro j F x hj hF
    obtain ⟨F, rfl⟩ : ∃ F', F = F' + 1 := ⟨F - 1, by omega⟩
    obtain ⟨r, c1, c2⟩ := counted_e h (n := j) (by omega)
    obtain ⟨y, f, g⟩ := ih (j + 1) F (31 * x + Int32.toInt64 r) (by omega) (by omega)
    have hj' : ¬ (13 : Int32) ≤ nI j := by rw [show (13 : Int32) = nI 13 from rfl, nI_lek (by omega) (by omega)]; omega
    exact ⟨y, by rw [L_X6_digest_6, if_neg hj', c1, bd_m, lt_m, nI_p1, f], by rw [L_X7_digest_6, if_neg hj', c2, bd_m, lt_m, nI_p1, g]⟩
def dg4 (x : Int64) (a b c d : Int32) : Int64 := 31 * (31 * (31 * (31 * x + a.toInt64) + b.toInt64) + c.toInt64) + d.toInt64
theorem dg41 {V : Mem} {l : Nat} (hl : l < 3) {k : Int64 → Mem → Option (Int64 × Mem)} {x : Int64} : L_X7_digest_41 (nI l) k 300 x 0 V = k (dg4 x (V 3 l) (V 4 l) (V 5 l) (V 6 l)) V := by
  have s : ∀ (F j : Nat) (y : Int64) (v : Int32), j < 4 → F_X7_stateBy (nI l) (nI j) V = some (v, V) → L_X7_digest_41 (nI l) k (F + 1) y (nI j) V = L_X7_digest_41 (nI l) k F (31 * y + v.toInt64) (nI (j + 1)) V := by
    intro F j y v hj e
    rw [L_X7_digest_41, if_neg (by rw [show (4 : Int32) = nI 4 from rfl, nI_lek (by omega) (by omega)]; omega), e, bd_m, lt_m, nI_p1]
  have q := inb_nI hl (by decide)
  have e0 : F_X7_stateBy (nI l) (nI 0) V = some (V 3 l, V) := by unfold F_X7_stateBy; rw [if_pos (by decide), q, gd_t, ix_nI (by omega)]
  have e1 : F_X7_stateBy (nI l) (nI 1) V = some (V 4 l, V) := by unfold F_X7_stateBy; rw [if_neg (by decide), if_pos (by decide), q, gd_t, ix_nI (by omega)]
  have e2 : F_X7_stateBy (nI l) (nI 2) V = some (V 5 l, V) := by unfold F_X7_stateBy; rw [if_neg (by decide), if_neg (by decide), if_pos (by decide), q, gd_t, ix_nI (by omega)]
  have e3 : F_X7_stateBy (nI l) (nI 3) V = some (V 6 l, V) := by unfold F_X7_stateBy; rw [if_neg (by decide), if_neg (by decide), if_neg (by decide), q, gd_t, ix_nI (by omega)]
  rw [show (300 : Nat) = 295 + 1 + 1 + 1 + 1 + 1 from rfl, ← z0, s _ 0 _ _ (by decide) e0, s _ 1 _ _ (by decide) e1, s _ 2 _ _ (by decide) e2, s _ 3 _ _ (by decide) e3, L_X7_digest_41, if_pos (by decide)]
  rfl
theorem dg_of0 {wC V : Mem} (h : Rel wC V) {l : Nat} (hl : l < 3) : F_X7_ofBy (nI l) 0 V = some (nI (nh V l), smW V) := by
  unfold F_X7_ofBy
  rw [h.setPlan, bd_m, if_pos rfl, inb_nI hl (by decide), gd_t, ix_nI (by omega), ((GM_M h.InM).2.2 l hl).1]
theorem dg_of2 {wC V : Mem} (h : Rel wC V) {l : Nat} (hl : l < 3) : F_X7_ofBy (nI l) 2 V = some (nI (mn (nN V) (nd V) (nh V l) (decide (V 3 l < 0))), smW V) := by
  unfold F_X7_ofBy
  rw [h.setPlan, bd_m, if_neg (by decide), if_neg (by decide), if_pos rfl, meanOf_e (GM_M h.InM) (POK_M h.InM) hl, bd_m, smW_o (by decide)]
theorem dg33 {wC wM : Mem} (h : Rel wC wM) {k k' : Int64 → Mem → Option (Int64 × Mem)} : ∀ (n l F : Nat) (x : Int64) (V : Mem), l + n = 3 → n < F → vM V = vM wM → ∃ y V', L_X6_digest_39 9 k F x (nI l) (plW 1 wC) = k y (plW 1 wC) ∧ L_X7_digest_33 k' F x (nI l) V = k' y V' ∧ vM V' = vM wM := by
  intro n
  induction n with
  | zero =>
    intro l F x V hl hF e
    obtain ⟨F, rfl⟩ : ∃ F', F = F' + 1 := ⟨F - 1, by omega⟩
    obtain rfl : l = 3 := by omega
    exact ⟨x, V, by rw [L_X6_digest_39, if_pos (by decide)], by rw [L_X7_digest_33, if_pos (by decide)], e⟩
  | succ n ih =>
    intro l F x V hl hF e
    obtain ⟨F, rfl⟩ : ∃ F', F = F' + 1 := ⟨F - 1, by omega⟩
    have hl' : l < 3 := by omega
    have hV : Rel wC V := h.frame rfl e
    have hV1 : Rel wC (smW V) := hV.frame rfl (vM_sm V)
    obtain ⟨a1, a2, a3, a4, a5, a6, a7⟩ := dg_n (vM_sm V)
    obtain ⟨gc, -, -, hx⟩ := hV.plan
    have k0 := POK_M hV.InM
    obtain ⟨y, V', f, g, e'⟩ := ih (l + 1) F (31 * (31 * dg4 x (V 3 l) (V 4 l) (V 5 l) (V 6 l) + Int32.toInt64 (nI (nh V l))) + Int32.toInt64 (nI (mn (nN V) (nd V) (nh V l) (decide (V 3 l < 0))))) (smW (smW V)) (by omega) (by omega) (by rw [vM_sm, vM_sm, e])
    have hj' : ¬ (3 : Int32) ≤ nI l := by rw [show (3 : Int32) = nI 3 from rfl, nI_lek (by omega) (by omega)]; omega
    have rv := hV.2.1 l hl'
    refine ⟨y, V', ?_, ?_, e'⟩
    · rw [L_X6_digest_39, if_neg hj', ← f]
      simp only [inb_nI hl' (by decide), gd_t, lt_m, ix_nI (show l < 2 ^ 31 by omega), show F_X1_mean 9 (nI l) (plW 1 wC) = _ from mean_e gc k0 hl', bd_m, nI_p1]
      rw [plW_o (show 4 < 1 + 8 ∨ 1 + 12 < 4 by decide), plW_o (show 3 < 1 + 8 ∨ 1 + 12 < 3 by decide), plW_o (show 5 < 1 + 8 ∨ 1 + 12 < 5 by decide), plW_o (show 6 < 1 + 8 ∨ 1 + 12 < 6 by decide), rv.1.1, rv.2.1.1, rv.2.2.1.1, rv.2.2.2.1, (gc.2.2 l hl').1, (hx l hl').2]
      rfl
    · rw [L_X7_digest_33, if_neg hj', dg41 hl', dg_of0 hV hl', bd_m, lt_m, dg_of2 hV1 hl', bd_m, lt_m, a1, a2, a3, a5, nI_p1, g]
def dg3 (x : Int64) (a b c : Int32) : Int64 := 31 * (31 * (31 * x + a.toInt64) + b.toInt64) + c.toInt64
theorem dg173 {W : Mem} {q j : Nat} (e : W 7 2 = nI q) (hq : q ≤ 12) (hj : j < q) {k : Int64 → Mem → Option (Int64 × Mem)} {x : Int64} : L_X6_digest_173 9 (nI j) k 300 x 0 W = k (dg3 x (W 8 (4 * j)) (W 8 (4 * j + 1)) (W 8 (4 * j + 2))) W := by
  have s : ∀ (F c : Nat) (y : Int64), c < 3 → L_X6_digest_173 9 (nI j) k (F + 1) y (nI c) W = L_X6_digest_173 9 (nI j) k F (31 * y + (W 8 (4 * j + c)).toInt64) (nI (c + 1)) W := by
    intro F c y hc
    rw [L_X6_digest_173, if_neg (by rw [show (3 : Int32) = nI 3 from rfl, nI_lek (by omega) (by omega)]; omega), cellOr_in e hq (by decide) ln7 hj (by omega), bd_m, lt_m, nI_p1]
  rw [show (300 : Nat) = 296 + 1 + 1 + 1 + 1 from rfl, ← z0, s _ 0 _ (by decide), s _ 1 _ (by decide), s _ 2 _ (by decide), L_X6_digest_173, if_pos (by decide)]
  rfl
theorem dg104 {W V : Mem} (h : Rel W V) {q : Nat} (hq : q ≤ 12) (e1 : W 7 2 = nI q) (e2 : V 0 7 = nI q) (hk : ∀ k, k < q → W 8 (4 * k) = V 7 k ∧ W 8 (4 * k + 1) = V 8 k ∧ W 8 (4 * k + 2) = V 9 k) {k k' : Int64 → Mem → Option (Int64 × Mem)} : ∀ (n j F : Nat) (x : Int64), j + n = q → n < F → ∃ y, L_X6_digest_155 9 k F x (nI j) W = k y W ∧ L_X7_digest_104 k' F x (nI j) V = k' y V := by
  intro n
  induction n with
  | zero =>
    intro j F x hj hF
    obtain ⟨F, rfl⟩ : ∃ F', F = F' + 1 := ⟨F - 1, by omega⟩
    obtain rfl : j = q := by omega
    have hl : nI j ≤ nI j := by rw [nI_lek (by omega) (by omega)]; omega
    exact ⟨x, by rw [L_X6_digest_155, e1, if_pos hl], by rw [L_X7_digest_104, e2, if_pos hl]⟩
  | succ n ih =>
    intro j F x hj hF
    obtain ⟨F, rfl⟩ : ∃ F', F = F' + 1 := ⟨F - 1, by omega⟩
    obtain ⟨b1, b2, b3⟩ := hk j (by omega)
    obtain ⟨y, f, g⟩ := ih (j + 1) F (dg3 x (V 7 j) (V 8 j) (V 9 j)) (by omega) (by omega)
    have hl : ¬ nI q ≤ nI j := by rw [nI_lek (by omega) (by omega)]; omega
    refine ⟨y, ?_, ?_⟩
    · rw [L_X6_digest_155, e1, if_neg hl, dg173 e1 hq (by omega), b1, b2, b3, nI_p1, f]
    · rw [L_X7_digest_104, e2, if_neg hl, ← g]
      simp only [inb_nI (show j < 12 by omega) (by decide), gd_t, lt_m, ix_nI (show j < 2 ^ 31 by omega), nI_p1]
      rfl
theorem sim_digest : SL Rel F_X6_digest F_X7_digest := by
  intro wC wM h
  obtain ⟨gc, p3, -, -⟩ := h.plan
  have fin : ∀ (x : Int64) (V : Mem), vM V = vM wM → ∃ r W' V', (lt ((31 : Int64) * x + Int32.toInt64 (plW 1 wC 9 3)) (fun (x38 : Int64) => bd (F_X6_runsNow (plW 1 wC)) (fun (r40 : Unit) (w39 : Mem) => some ((((31 : Int64) * x38) + (Int32.toInt64 (w39 28 2))), w39)))) = some (r, W') ∧
      bd (F_X7_plansBy (0 : Int32) V) (fun (r36 : Int32) (w35 : Mem) => lt (((31 : Int64) * x) + (Int32.toInt64 r36)) (fun (x38 : Int64) => bd (F_X7_plansBy (4 : Int32) w35) (fun (r40 : Int32) (w39 : Mem) => some ((((31 : Int64) * x38) + (Int32.toInt64 r40)), w39)))) = some (r, V') ∧ Rel W' V' := by
    intro x V e
    have hV : Rel wC V := h.frame rfl e
    have h1 : Rel (plW 1 wC) (smW V) := hV.pl
    obtain ⟨g, o, e2, -⟩ := h1.sh
    obtain ⟨W, f, c, v, r⟩ := runsNow_e h1
    obtain ⟨V2, f2, m⟩ := setRuns_e g o e2
    have e4 : V 4 = wM 4 := (dg_n e).2.2.2.2.2.1
    have es : smW V 0 13 = plW 1 wC 9 3 := by rw [p3, smW_0, smW_0, upd_ne (by decide), upd_eq, upd_ne (by decide), upd_eq, e4]
    have q0 : F_X7_plansBy 0 V = some (plW 1 wC 9 3, smW V) := by
      unfold F_X7_plansBy
      rw [hV.setPlan, bd_m, if_pos rfl, es]
    have q4 : F_X7_plansBy 4 (smW V) = some (nI (rN (smW V)).length, V2) := by
      unfold F_X7_plansBy
      rw [h1.setPlan, bd_m, if_neg (by decide), if_neg (by decide), if_neg (by decide), if_neg (by decide), f2, bd_m, m.2.2.1]
    rw [lt_m, f, bd_m, q0, bd_m, lt_m, q4, bd_m, show W 28 2 = nI (rN (smW V)).length from c.2.2.1]
    exact ⟨_, _, _, rfl, rfl, r.frame rfl ((vM_MR m).trans (vM_sm (smW V)))⟩
  unfold F_X6_digest F_X7_digest
  obtain ⟨x1, f1, g1⟩ := dg6 h (k := fun (x7 : Int64) (w6 : Mem) => bd (F_X6_planNow w6) (fun (r9 : Unit) (w8 : Mem) => L_X6_digest_39 9 (fun (x27 : Int64) (w26 : Mem) => L_X6_digest_155 9 (fun (x37 : Int64) (w36 : Mem) => lt (((31 : Int64) * x37) + (Int32.toInt64 (w36 9 3))) (fun (x38 : Int64) => bd (F_X6_runsNow w36) (fun (r40 : Unit) (w39 : Mem) => some ((((31 : Int64) * x38) + (Int32.toInt64 (w39 28 2))), w39)))) 300 x27 (0 : Int32) w26) 300 x7 (0 : Int32) w8)) (k' := fun (x7 : Int64) (w6 : Mem) => L_X7_digest_33 (fun (x25 : Int64) (w24 : Mem) => L_X7_digest_104 (fun (x34 : Int64) (w33 : Mem) => bd (F_X7_plansBy (0 : Int32) w33) (fun (r36 : Int32) (w35 : Mem) => lt (((31 : Int64) * x34) + (Int32.toInt64 r36)) (fun (x38 : Int64) => bd (F_X7_plansBy (4 : Int32) w35) (fun (r40 : Int32) (w39 : Mem) => some ((((31 : Int64) * x38) + (Int32.toInt64 r40)), w39))))) 300 x25 (0 : Int32) w24) 300 x7 (0 : Int32) w6) 13 0 300 2069 (by decide) (by decide)
  rw [z0] at f1 g1
  rw [f1, g1, planNow_e, bd_m]
  obtain ⟨x2, V2, f2, g2, e2⟩ := dg33 h (k := fun (x27 : Int64) (w26 : Mem) => L_X6_digest_155 9 (fun (x37 : Int64) (w36 : Mem) => lt (((31 : Int64) * x37) + (Int32.toInt64 (w36 9 3))) (fun (x38 : Int64) => bd (F_X6_runsNow w36) (fun (r40 : Unit) (w39 : Mem) => some ((((31 : Int64) * x38) + (Int32.toInt64 (w39 28 2))), w39)))) 300 x27 (0 : Int32) w26) (k' := fun (x25 : Int64) (w24 : Mem) => L_X7_digest_104 (fun (x34 : Int64) (w33 : Mem) => bd (F_X7_plansBy (0 : Int32) w33) (fun (r36 : Int32) (w35 : Mem) => lt (((31 : Int64) * x34) + (Int32.toInt64 r36)) (fun (x38 : Int64) => bd (F_X7_plansBy (4 : Int32) w35) (fun (r40 : Int32) (w39 : Mem) => some ((((31 : Int64) * x38) + (Int32.toInt64 r40)), w39))))) 300 x25 (0 : Int32) w24) 3 0 300 x1 wM (by decide) (by decide) rfl
  rw [z0] at f2 g2
  rw [f2, g2]
  have h2 : Rel (plW 1 wC) V2 := h.frame (vC_pl wC) e2
  obtain ⟨q, hq, e3, e4, hk⟩ := h2.2.2.2.1
  obtain ⟨x3, f3, g3⟩ := dg104 h2 hq e3 e4 (fun k hk' => ⟨(hk k hk').1, (hk k hk').2.1, (hk k hk').2.2.1⟩) (k := fun (x37 : Int64) (w36 : Mem) => lt (((31 : Int64) * x37) + (Int32.toInt64 (w36 9 3))) (fun (x38 : Int64) => bd (F_X6_runsNow w36) (fun (r40 : Unit) (w39 : Mem) => some ((((31 : Int64) * x38) + (Int32.toInt64 (w39 28 2))), w39)))) (k' := fun (x34 : Int64) (w33 : Mem) => bd (F_X7_plansBy (0 : Int32) w33) (fun (r36 : Int32) (w35 : Mem) => lt (((31 : Int64) * x34) + (Int32.toInt64 r36)) (fun (x38 : Int64) => bd (F_X7_plansBy (4 : Int32) w35) (fun (r40 : Int32) (w39 : Mem) => some ((((31 : Int64) * x38) + (Int32.toInt64 r40)), w39))))) q 0 300 x2 (by omega) (by omega)
  rw [z0] at f3 g3
  rw [f3, g3]
  exact fin x3 V2 e2
