/-! one wish read by the reference -/
def tK25 (a1 r5 x20 x26 : Int32) (w27 : Mem) : Option (Int32 × Mem) := bd (F_X7_here w27) (fun (r29 : Int32) (w28 : Mem) => if r29 = (59 : Int32) then (lt (mst w28 0 33 ((w28 0 33) + (1 : Int32))) (fun (w31 : Mem) => lt (mst w31 0 36 ((w31 0 36) + (1 : Int32))) (fun (w32 : Mem) => if a1 = (0 : Int32) then (some ((1 : Int32), w32)) else (bd (F_X7_comesWish (r5 - (117 : Int32)) x26 x20 w32) (fun (r34 : Unit) (w33 : Mem) => some ((1 : Int32), w33)))))) else (some ((0 : Int32), w28)))
def tK19 (a1 r5 x12 x20 : Int32) (w21 : Mem) : Option (Int32 × Mem) := bd (F_X7_here w21) (fun (r23 : Int32) (w22 : Mem) => jn (tK25 a1 r5 x20) (fun k25 => if r23 = (64 : Int32) then (lt (mst w22 0 33 ((w22 0 33) + (1 : Int32))) (fun (w38 : Mem) => bd (F_X7_number (999 : Int32) w38) (fun (r40 : Int32) (w39 : Mem) => if r40 = (0 : Int32) then (some ((0 : Int32), w39)) else (bd (F_X7_skips w39) (fun (r43 : Unit) (w42 : Mem) => k25 (w39 0 35) w42))))) else (k25 x12 w22)))
theorem readsWish_u (a1 : Int32) (w : Mem) : F_X7_readsWish a1 w = bd (F_X7_skips w) (fun (r2 : Unit) (w1 : Mem) => bd (F_X7_here w1) (fun (r5 : Int32) (w4 : Mem) => bd (F_X7_in r5 (117 : Int32) (119 : Int32) w4) (fun (r8 : Int32) (w7 : Mem) => if r8 = (0 : Int32) then (some ((0 : Int32), w7)) else (if (w7 0 36) = (12 : Int32) then (some ((0 : Int32), w7)) else (lt (mst w7 0 33 ((w7 0 33) + (1 : Int32))) (fun (w10 : Mem) => jn (fun (x12 : Int32) => bd (F_X7_skips w10) (fun (r14 : Unit) (w13 : Mem) => bd (F_X7_here w13) (fun (r17 : Int32) (w16 : Mem) => jn (tK19 a1 r5 x12) (fun k19 => jn (lt (mst w16 0 33 ((w16 0 33) + (1 : Int32))) (fun (w48 : Mem) => bd (F_X7_number (500 : Int32) w48) (fun (r50 : Int32) (w49 : Mem) => if r50 = (0 : Int32) then (some ((0 : Int32), w49)) else (if r17 = (45 : Int32) then (bd (F_X7_skips w49) (fun (r56 : Unit) (w55 : Mem) => k19 (-(w49 0 35)) w55)) else (bd (F_X7_skips w49) (fun (r53 : Unit) (w52 : Mem) => k19 (w49 0 35) w52)))))) (fun k47 => if r17 = (43 : Int32) then (k47) else (if r17 = (45 : Int32) then (k47) else (k19 (0 : Int32) w16))))))) (fun k11 => if (999 : Int32) ≤ (w10 0 6) then (k11 (999 : Int32)) else (k11 (w10 0 6))))))))) := rfl
/-- how a read wish comes -/
def tcm (a1 : Int32) (y : Wi) (w : Mem) : Option (Int32 × Mem) := if a1 = (0 : Int32) then some ((1 : Int32), w) else bd (F_X7_comesWish y.1 y.2.1 y.2.2 w) (fun (r34 : Unit) (w33 : Mem) => some ((1 : Int32), w33))
theorem k25_e {V : Mem} {b : Nat → Int32} {t : Nat} (h : TM V b t) {a1 r5 x20 x26 m x : Int32} {q c : Nat} (hq : q ≤ t) : tK25 a1 r5 x20 x26 (trf V (nI q) m x (nI c)) = if thr b t q = 59 then tcm a1 (r5 - 117, x26, x20) (trf V (nI (q + 1)) m x (nI (c + 1))) else some (0, trf V (nI q) m x (nI c)) := by
  unfold tK25 tcm
  rw [here_e h hq, bd_m]
  by_cases z : thr b t q = 59
  · rw [if_pos z, if_pos z, lt_m, lt_m, trf_p, trf_sp, trf_c, trf_sc, nI_p1, nI_p1]
  · rw [if_neg z, if_neg z]
theorem k19_e {V : Mem} {b : Nat → Int32} {t : Nat} (h : TM V b t) {a1 r5 now x20 x : Int32} {q c : Nat} (hq : q ≤ t) : match twP b t now q with
    | .inl f => ∃ p' x', tK19 a1 r5 now x20 (trf V (nI q) (nI q) x (nI c)) = some (0, trf V p' (nI f) x' (nI c))
    | .inr u => ∃ x', tK19 a1 r5 now x20 (trf V (nI q) (nI q) x (nI c)) = tK25 a1 r5 x20 u.2 (trf V (nI u.1) (nI u.1) x' (nI c)) := by
  unfold tK19 twP
  rw [here_e h hq, bd_m, jn_m, lt_m, trf_p, trf_sp, nI_p1]
  by_cases z : thr b t q = 64
  · have lt : q < t := thr_lt z (by decide)
    have hn := (tsp_le (b := b) (show q + 1 ≤ t by omega)).2
    have e := tnd_ok (b := b) hn
    rw [if_pos z, if_pos z, numM_e h 999 (by omega), bd_m]
    by_cases y : tgd b t 999 (tsp b t (q + 1)) = true
    · rw [if_pos y, if_pos y, if_neg (by decide), skips_e h e.2.1, bd_m, trf_x]
      exact ⟨_, rfl⟩
    · rw [if_neg y, if_neg y, if_pos rfl]
      exact ⟨_, _, rfl⟩
  · rw [if_neg z, if_neg z]
    exact ⟨x, rfl⟩
theorem wishM_e {V : Mem} {b : Nat → Int32} {t : Nat} (h : TM V b t) {p : Nat} (hp : p ≤ t) (hs : tsp b t p = p) {m x : Int32} {c : Nat} (hc : c ≤ 12) {now : Int32} (hnow : (if (999 : Int32) ≤ V 0 6 then 999 else V 0 6) = now) (a1 : Int32) : match (if c < 12 then tww b t now p else .inl p) with
    | .inl f => ∃ p' x', F_X7_readsWish a1 (trf V (nI p) m x (nI c)) = some (0, trf V p' (nI f) x' (nI c))
    | .inr u => ∃ m' x', F_X7_readsWish a1 (trf V (nI p) m x (nI c)) = tcm a1 u.2 (trf V (nI u.1) m' x' (nI (c + 1))) := by
  rw [readsWish_u, skips_e h hp, hs, bd_m, here_e h hp, bd_m, in_e, bd_m, trf_c]
  by_cases z : wi (thr b t p) 117 119 = 0
  · rw [if_pos z, show tww b t now p = .inl p by unfold tww; rw [if_pos z], show (if c < 12 then (Sum.inl p : Nat ⊕ (Nat × Wi)) else .inl p) = .inl p by split <;> rfl]
    exact ⟨_, _, rfl⟩
  · rw [if_neg z]
    by_cases y : c < 12
    · have lt : p < t := by
        apply Nat.lt_of_not_le
        intro q
        apply z
        unfold thr
        rw [if_pos q]
        decide
      rw [if_pos y, if_neg (by rw [show (12 : Int32) = nI 12 from rfl, nI_eqk (by omega) (by omega)]; omega), lt_m, trf_p, trf_sp, nI_p1, trf_j (by decide) (by decide) (by decide) (by decide), jn_ite, hnow]
      have s1 := tsp_le (b := b) (show p + 1 ≤ t by omega)
      have ss := tsp_tsp (b := b) (show p + 1 ≤ t by omega)
      rw [skips_e h (show p + 1 ≤ t by omega), bd_m]
      unfold tww
      rw [if_neg z]
      generalize tsp b t (p + 1) = q at s1 ss
      rw [here_e h s1.2, bd_m, jn_m, jn_m]
      have ka := twA_ok (b := b) s1.2 ss
      have main : ∀ (s : Nat × Int32) (x' : Int32), s.1 ≤ t → match twB b t now (thr b t p - 117) s with
          | .inl f => ∃ p' x'', tK19 a1 (thr b t p) now s.2 (trf V (nI s.1) (nI s.1) x' (nI c)) = some (0, trf V p' (nI f) x'' (nI c))
          | .inr u => ∃ m' x'', tK19 a1 (thr b t p) now s.2 (trf V (nI s.1) (nI s.1) x' (nI c)) = tcm a1 u.2 (trf V (nI u.1) m' x'' (nI (c + 1))) := by
        intro s x' hs1
        have k := k19_e h (a1 := a1) (r5 := thr b t p) (now := now) (x20 := s.2) (x := x') (c := c) hs1
        have bound : match twP b t now s.1 with
          | .inl f => True
          | .inr u => u.1 ≤ t := by
          unfold twP
          by_cases y1 : thr b t s.1 = 64
          · have lt1 : s.1 < t := thr_lt y1 (by decide)
            have hn := (tsp_le (b := b) (show s.1 + 1 ≤ t by omega)).2
            have e := tnd_ok (b := b) hn
            rw [if_pos y1]
            by_cases y2 : tgd b t 999 (tsp b t (s.1 + 1)) = true
            · rw [if_pos y2]; exact (tsp_le e.2.1).2
            · rw [if_neg y2]; trivial
          · rw [if_neg y1]; exact hs1
        unfold twB
        generalize twP b t now s.1 = P at k bound
        cases P with
        | inl f => exact k
        | inr u =>
          obtain ⟨x'', k⟩ := k
          have hu : u.1 ≤ t := bound
          show match twE b t (thr b t p - 117) s.2 u with
            | .inl f => ∃ p' x'', tK19 a1 (thr b t p) now s.2 (trf V (nI s.1) (nI s.1) x' (nI c)) = some (0, trf V p' (nI f) x'' (nI c))
            | .inr u => ∃ m' x'', tK19 a1 (thr b t p) now s.2 (trf V (nI s.1) (nI s.1) x' (nI c)) = tcm a1 u.2 (trf V (nI u.1) m' x'' (nI (c + 1)))
          rw [k, k25_e h hu]
          unfold twE
          by_cases w : thr b t u.1 = 59
          · rw [if_pos w, if_pos w]; exact ⟨_, _, rfl⟩
          · rw [if_neg w, if_neg w]; exact ⟨_, _, rfl⟩
      unfold twA at ka ⊢
      by_cases w : thr b t q = 43 ∨ thr b t q = 45
      · have lt2 : q < t := by
          rcases w with w | w
          · exact thr_lt w (by decide)
          · exact thr_lt w (by decide)
        have hn := (tsp_le (b := b) (show q + 1 ≤ t by omega)).2
        have e := tnd_ok (b := b) hn
        have pick : ∀ A B : Option (Int32 × Mem), (if thr b t q = 43 then A else if thr b t q = 45 then A else B) = A := fun A B => by
          rcases w with w | w
          · rw [if_pos w]
          · rw [if_neg (by rw [w]; decide), if_pos w]
        rw [pick, if_pos w, lt_m, trf_p, trf_sp, nI_p1, numM_e h 500 (by omega), bd_m]
        rw [if_pos w] at ka
        by_cases v : tgd b t 500 (tsp b t (q + 1)) = true
        · rw [if_pos v] at ka
          rw [if_pos v, if_pos v, if_neg (show ¬ (1 : Int32) = 0 by decide), trf_x, skips_e h e.2.1, bd_m, bd_m]
          have mm := main (tsp b t (tnd b t (tsp b t (q + 1))).1, if thr b t q = 45 then -(tnd b t (tsp b t (q + 1))).2.2 else (tnd b t (tsp b t (q + 1))).2.2) (tnd b t (tsp b t (q + 1))).2.2 ka.1
          by_cases u : thr b t q = 45
          · rw [if_pos u] at mm
            rw [if_pos u, if_pos u]
            exact mm
          · rw [if_neg u] at mm
            rw [if_neg u, if_neg u]
            exact mm
        · rw [if_neg v, if_neg v, if_pos rfl]
          exact ⟨_, _, rfl⟩
      · rw [if_neg w, if_neg (fun y => w (Or.inl y)), if_neg (fun y => w (Or.inr y))]
        exact main (q, 0) x s1.2
    · rw [if_neg y, if_pos (by rw [show (12 : Int32) = nI 12 from rfl, nI_eqk (by omega) (by omega)]; omega)]
      exact ⟨_, _, rfl⟩
