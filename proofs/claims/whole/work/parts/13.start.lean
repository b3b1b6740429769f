/-! from the entry to the loop: by program (wip/gen/gstart.py) -/
theorem nst_of {args : Array Value} {s : State} (hts : ∀ w ∈ lw_tbl, w.before args s = true) : Nst s := by
  have tn : ∀ (i : Nat) (w : Cond), tables_1[i]? = some w → w.onTables = true → va_Nw w s := fun i w h h2 => va_Nw.of h2 (hts w (List.mem_append_right _ (List.mem_of_getElem? h)))
  refine ⟨?_, tn 98 _ (by decide +kernel) rfl, tn 334 _ (by decide +kernel) rfl⟩
  intro q hq
  simp only [NM, List.mem_cons, List.not_mem_nil, or_false] at hq
  rcases hq with rfl | rfl | rfl | rfl | rfl | rfl | rfl | rfl | rfl | rfl | rfl | rfl | rfl | rfl | rfl | rfl | rfl
  · exact tn 52 _ (by decide +kernel) rfl
  · exact tn 107 _ (by decide +kernel) rfl
  · exact tn 149 _ (by decide +kernel) rfl
  · exact tn 168 _ (by decide +kernel) rfl
  · exact tn 173 _ (by decide +kernel) rfl
  · exact tn 198 _ (by decide +kernel) rfl
  · exact tn 299 _ (by decide +kernel) rfl
  · exact tn 302 _ (by decide +kernel) rfl
  · exact tn 309 _ (by decide +kernel) rfl
  · exact tn 352 _ (by decide +kernel) rfl
  · exact tn 490 _ (by decide +kernel) rfl
  · exact tn 545 _ (by decide +kernel) rfl
  · exact tn 550 _ (by decide +kernel) rfl
  · exact tn 551 _ (by decide +kernel) rfl
  · exact tn 552 _ (by decide +kernel) rfl
  · exact tn 654 _ (by decide +kernel) rfl
  · exact tn 667 _ (by decide +kernel) rfl
theorem stt_0 {args : Array Value} {s : State} (h : (Jvm.Cond.and given_1 narrow_1).before args s = true) : ∃ t : Nat, (Term.static "DriveTicks" "SETTING_AT_FIRST" "[I").eval args s none [] s = some (.ref t) ∧ va_T .int t (sln 0) (fun j => .int (sct 0 j)) (AL s) s s.heap := by
  have hs := flat_of_before _ h
  refine va_Tof (N := 7) (by decide) (hs (.arrayOf (.static "DriveTicks" "SETTING_AT_FIRST" "[I") .int) (by decide +kernel)) (va_eqt (hs (.eq (.length (.static "DriveTicks" "SETTING_AT_FIRST" "[I")) (.int 7)) (by decide +kernel))) (fun j hj => ?_) (fun a ha => Nat.not_le.mpr ha)
  match j, hj with
  | 0, _ => exact va_eqt (hs (.eq (.elem (.static "DriveTicks" "SETTING_AT_FIRST" "[I") (.int 0)) (.int (48))) (by decide +kernel))
  | 1, _ => exact va_eqt (hs (.eq (.elem (.static "DriveTicks" "SETTING_AT_FIRST" "[I") (.int 1)) (.int (2))) (by decide +kernel))
  | 2, _ => exact va_eqt (hs (.eq (.elem (.static "DriveTicks" "SETTING_AT_FIRST" "[I") (.int 2)) (.int (1))) (by decide +kernel))
  | 3, _ => exact va_eqt (hs (.eq (.elem (.static "DriveTicks" "SETTING_AT_FIRST" "[I") (.int 3)) (.int (4))) (by decide +kernel))
  | 4, _ => exact va_eqt (hs (.eq (.elem (.static "DriveTicks" "SETTING_AT_FIRST" "[I") (.int 4)) (.int (8))) (by decide +kernel))
  | 5, _ => exact va_eqt (hs (.eq (.elem (.static "DriveTicks" "SETTING_AT_FIRST" "[I") (.int 5)) (.int (4))) (by decide +kernel))
  | 6, _ => exact va_eqt (hs (.eq (.elem (.static "DriveTicks" "SETTING_AT_FIRST" "[I") (.int 6)) (.int (0))) (by decide +kernel))
  | q + 7, h => exact absurd h (by omega)
theorem stt_1 {args : Array Value} {s : State} (h : (Jvm.Cond.and given_1 narrow_1).before args s = true) : ∃ t : Nat, (Term.static "DriveTicks" "SETTING_LEAST" "[I").eval args s none [] s = some (.ref t) ∧ va_T .int t (sln 1) (fun j => .int (sct 1 j)) (AL s) s s.heap := by
  have hs := flat_of_before _ h
  refine va_Tof (N := 7) (by decide) (hs (.arrayOf (.static "DriveTicks" "SETTING_LEAST" "[I") .int) (by decide +kernel)) (va_eqt (hs (.eq (.length (.static "DriveTicks" "SETTING_LEAST" "[I")) (.int 7)) (by decide +kernel))) (fun j hj => ?_) (fun a ha => Nat.not_le.mpr ha)
  match j, hj with
  | 0, _ => exact va_eqt (hs (.eq (.elem (.static "DriveTicks" "SETTING_LEAST" "[I") (.int 0)) (.int (12))) (by decide +kernel))
  | 1, _ => exact va_eqt (hs (.eq (.elem (.static "DriveTicks" "SETTING_LEAST" "[I") (.int 1)) (.int (0))) (by decide +kernel))
  | 2, _ => exact va_eqt (hs (.eq (.elem (.static "DriveTicks" "SETTING_LEAST" "[I") (.int 2)) (.int (0))) (by decide +kernel))
  | 3, _ => exact va_eqt (hs (.eq (.elem (.static "DriveTicks" "SETTING_LEAST" "[I") (.int 3)) (.int (1))) (by decide +kernel))
  | 4, _ => exact va_eqt (hs (.eq (.elem (.static "DriveTicks" "SETTING_LEAST" "[I") (.int 4)) (.int (0))) (by decide +kernel))
  | 5, _ => exact va_eqt (hs (.eq (.elem (.static "DriveTicks" "SETTING_LEAST" "[I") (.int 5)) (.int (0))) (by decide +kernel))
  | 6, _ => exact va_eqt (hs (.eq (.elem (.static "DriveTicks" "SETTING_LEAST" "[I") (.int 6)) (.int (0))) (by decide +kernel))
  | q + 7, h => exact absurd h (by omega)
theorem stt_2 {args : Array Value} {s : State} (h : (Jvm.Cond.and given_1 narrow_1).before args s = true) : ∃ t : Nat, (Term.static "DriveTicks" "SETTING_MOST" "[I").eval args s none [] s = some (.ref t) ∧ va_T .int t (sln 2) (fun j => .int (sct 2 j)) (AL s) s s.heap := by
  have hs := flat_of_before _ h
  refine va_Tof (N := 7) (by decide) (hs (.arrayOf (.static "DriveTicks" "SETTING_MOST" "[I") .int) (by decide +kernel)) (va_eqt (hs (.eq (.length (.static "DriveTicks" "SETTING_MOST" "[I")) (.int 7)) (by decide +kernel))) (fun j hj => ?_) (fun a ha => Nat.not_le.mpr ha)
  match j, hj with
  | 0, _ => exact va_eqt (hs (.eq (.elem (.static "DriveTicks" "SETTING_MOST" "[I") (.int 0)) (.int (96))) (by decide +kernel))
  | 1, _ => exact va_eqt (hs (.eq (.elem (.static "DriveTicks" "SETTING_MOST" "[I") (.int 1)) (.int (5))) (by decide +kernel))
  | 2, _ => exact va_eqt (hs (.eq (.elem (.static "DriveTicks" "SETTING_MOST" "[I") (.int 2)) (.int (1))) (by decide +kernel))
  | 3, _ => exact va_eqt (hs (.eq (.elem (.static "DriveTicks" "SETTING_MOST" "[I") (.int 3)) (.int (20))) (by decide +kernel))
  | 4, _ => exact va_eqt (hs (.eq (.elem (.static "DriveTicks" "SETTING_MOST" "[I") (.int 4)) (.int (20))) (by decide +kernel))
  | 5, _ => exact va_eqt (hs (.eq (.elem (.static "DriveTicks" "SETTING_MOST" "[I") (.int 5)) (.int (20))) (by decide +kernel))
  | 6, _ => exact va_eqt (hs (.eq (.elem (.static "DriveTicks" "SETTING_MOST" "[I") (.int 6)) (.int (1))) (by decide +kernel))
  | q + 7, h => exact absurd h (by omega)
theorem stt_3 {args : Array Value} {s : State} (h : (Jvm.Cond.and given_1 narrow_1).before args s = true) : ∃ t : Nat, (Term.static "DriveTicks" "LEG_TOLD" "[I").eval args s none [] s = some (.ref t) ∧ va_T .int t (sln 3) (fun j => .int (sct 3 j)) (AL s) s s.heap := by
  have hs := flat_of_before _ h
  refine va_Tof (N := 8) (by decide) (hs (.arrayOf (.static "DriveTicks" "LEG_TOLD" "[I") .int) (by decide +kernel)) (va_eqt (hs (.eq (.length (.static "DriveTicks" "LEG_TOLD" "[I")) (.int 8)) (by decide +kernel))) (fun j hj => ?_) (fun a ha => Nat.not_le.mpr ha)
  match j, hj with
  | 0, _ => exact va_eqt (hs (.eq (.elem (.static "DriveTicks" "LEG_TOLD" "[I") (.int 0)) (.int (-1))) (by decide +kernel))
  | 1, _ => exact va_eqt (hs (.eq (.elem (.static "DriveTicks" "LEG_TOLD" "[I") (.int 1)) (.int (0))) (by decide +kernel))
  | 2, _ => exact va_eqt (hs (.eq (.elem (.static "DriveTicks" "LEG_TOLD" "[I") (.int 2)) (.int (1))) (by decide +kernel))
  | 3, _ => exact va_eqt (hs (.eq (.elem (.static "DriveTicks" "LEG_TOLD" "[I") (.int 3)) (.int (2))) (by decide +kernel))
  | 4, _ => exact va_eqt (hs (.eq (.elem (.static "DriveTicks" "LEG_TOLD" "[I") (.int 4)) (.int (2))) (by decide +kernel))
  | 5, _ => exact va_eqt (hs (.eq (.elem (.static "DriveTicks" "LEG_TOLD" "[I") (.int 5)) (.int (1))) (by decide +kernel))
  | 6, _ => exact va_eqt (hs (.eq (.elem (.static "DriveTicks" "LEG_TOLD" "[I") (.int 6)) (.int (0))) (by decide +kernel))
  | 7, _ => exact va_eqt (hs (.eq (.elem (.static "DriveTicks" "LEG_TOLD" "[I") (.int 7)) (.int (-1))) (by decide +kernel))
  | q + 8, h => exact absurd h (by omega)
theorem stt_of {args : Array Value} {s : State} (h : (Jvm.Cond.and given_1 narrow_1).before args s = true) (hts : ∀ w ∈ lw_tbl, w.before args s = true) (hg : ∀ w ∈ gT, w.before args s = true) : ∃ sa : Nat → Nat, Stt (AL s) sa s := by
  obtain ⟨t0, e0, T0⟩ := stt_0 h
  obtain ⟨t1, e1, T1⟩ := stt_1 h
  obtain ⟨t2, e2, T2⟩ := stt_2 h
  obtain ⟨t3, e3, T3⟩ := stt_3 h
  refine ⟨fun k => match k with | 0 => t0 | 1 => t1 | 2 => t2 | _ => t3, fun k hk => ?_⟩
  match k, hk with
  | 0, _ => exact ⟨va_Zref (hts _ (List.mem_append_right _ (List.mem_of_getElem? (i := 99) (by decide +kernel)))) (hg _ kn_X6) e0 (fun a ha => Nat.not_le.mpr ha), T0⟩
  | 1, _ => exact ⟨va_Zref (hts _ (List.mem_append_right _ (List.mem_of_getElem? (i := 255) (by decide +kernel)))) (hg _ kn_X6) e1 (fun a ha => Nat.not_le.mpr ha), T1⟩
  | 2, _ => exact ⟨va_Zref (hts _ (List.mem_append_right _ (List.mem_of_getElem? (i := 257) (by decide +kernel)))) (hg _ kn_X6) e2 (fun a ha => Nat.not_le.mpr ha), T2⟩
  | 3, _ => exact ⟨va_Zref (hts _ (List.mem_append_right _ (List.mem_of_getElem? (i := 335) (by decide +kernel)))) (hg _ kn_X6) e3 (fun a ha => Nat.not_le.mpr ha), T3⟩
  | q + 4, h => exact absurd h (by omega)
theorem known_of {args : Array Value} {s : State} (hg : ∀ w ∈ gT, w.before args s = true) : ∃ (D : va_G) (cA : ClassId), va_K D classes [(cA, .int)] s := by
  obtain ⟨cA, kA, comp, hfind, hk, hkind⟩ := Cond.arrayClass_spec (hg _ ac_int)
  obtain ⟨c0, i0, k0⟩ := u_known (C := RX0) (T := TX0) (N := 8) (n := 8) hg inGX0 (hg _ ki_X0)
  obtain ⟨c1, i1, k1⟩ := u_known (C := RX1) (T := TX1) (N := 9) (n := 9) hg inGX1 (hg _ ki_X1)
  obtain ⟨c2, i2, k2⟩ := u_known (C := RX2) (T := TX2) (N := 2) (n := 2) hg inGX2 (hg _ ki_X2)
  obtain ⟨c3, i3, k3⟩ := u_known (C := RX3) (T := TX3) (N := 6) (n := 6) hg inGX3 (hg _ ki_X3)
  obtain ⟨c4, i4, k4⟩ := u_known (C := RX4) (T := TX4) (N := 3) (n := 3) hg inGX4 (hg _ ki_X4)
  obtain ⟨c5, i5, k5⟩ := u_known (C := RX5) (T := TX5) (N := 5) (n := 5) hg inGX5 (hg _ ki_X5)
  obtain ⟨c6, i6, k6⟩ := u_known (C := RX6) (T := TX6) (N := 8) (n := 8) hg inGX6 (hg _ ki_X6)
  obtain ⟨c7, i7, k7⟩ := u_known (C := RX7) (T := TX7) (N := 37) (n := 37) hg inGX7 (hg _ ki_X7)
  refine ⟨(fun k => match k with | 0 => c0 | 1 => c1 | 2 => c2 | 3 => c3 | 4 => c4 | 5 => c5 | 6 => c6 | _ => c7, fun k => match k with | 0 => i0 | 1 => i1 | 2 => i2 | 3 => i3 | 4 => i4 | 5 => i5 | 6 => i6 | _ => i7), cA, fun k q hq => ?_, fun k q hq => ?_⟩
  · match k, hq with
    | 0, hq => cases hq; exact k0
    | 1, hq => cases hq; exact k1
    | 2, hq => cases hq; exact k2
    | 3, hq => cases hq; exact k3
    | 4, hq => cases hq; exact k4
    | 5, hq => cases hq; exact k5
    | 6, hq => cases hq; exact k6
    | 7, hq => cases hq; exact k7
    | k + 8, hq => simp [classes] at hq
  · have hz : k < 1 := (List.getElem?_eq_some_iff.mp hq).1
    rw [show k = 0 by omega] at hq
    cases hq
    exact ⟨fun n z => ⟨fun k h => (by cases h), kA, hk, comp, hkind⟩, hfind⟩
set_option maxHeartbeats 4000000 in
theorem start_of (b0 : F_X0_beginAnew 0 wX0a = some ((), wX0)) (b7 : F_X7_begins wX7a = some ((), wX7)) {Rel : Mem → Mem → Prop} (hsim : Sim Rel) (hrel : Rel wC0 wX7) {p : Program} {e : Env} {s : State} {m : MethodId} {below : List Frame} {meth : Method} {c : Code} (l : Launch) {b L : Nat} {xs : Nat → Int32} (hL : L ≤ 2048) (C0 : lw_At p s m meth c b L xs) : W p l e room_1 s m #[Value.ref b] below meth c s.heap [] 0 0 (lw_Z below #[Value.ref b] s) (entryFrame m ([Value.ref b] : List Value).toArray 4) := by
  obtain ⟨hx, hb, hr, hml, hown, hts, hX, hbl, hlocks, hgv⟩ := id C0
  have hg := law_gT hts
  have hN := nst_of hts
  obtain ⟨sa, hZ⟩ := stt_of hgv hts hg
  obtain ⟨D, cA, hK⟩ := known_of hg
  have G : Kx D cA sa (AL s) p s m #[Value.ref b] meth c RL code 4 := ⟨hx, hb, hml, hown, hg, hK, hN, hZ, fun q h => h⟩
  have hl := lv_entry ([.ref b]) (n := 4) (Nat.le_of_ble_eq_true rfl)
  rw [lg_entry_eq]
  generalize (lg_sl ([.ref b]) ++ List.replicate (4 - (lg_sl ([.ref b])).length) Slot.unset).toArray = ls at hl ⊢
  replace hl : lv_has ls 4 [(0, .ref b)] := hl
  have hP : va_P D classes [] s.heap := fun k q h => by simp at h
  have hD : va_D (AL s) [] := ⟨fun i j p q h => by simp at h, fun k q h => by simp at h⟩
  have hS : va_S (AL s) s.heap s.heap [] := va_S.rf
  refine k_new G inGX6 tyX6 tyX6_ok kk_L_7 ki_X6 kn_X6 (ci := 6) rfl kd_X6 hP hD hS (Nat.le_of_ble_eq_true rfl) (Nat.le_of_ble_eq_true rfl) dL_law_0 (fun q1 H hP hD hS => ?_)
  refine lv_dup hx hb dL_law_3 rfl ?_
  refine k_ctor (ws := []) (rest := [.ref q1]) G hP hD hS (k_X6 b0) my_X6_init rfl kl_L_9 ⟨Nat.le_of_ble_eq_true rfl, Nat.le_of_ble_eq_true rfl⟩ rfl hl.1 rfl (Nat.le_of_ble_eq_true rfl) dL_law_4 ⟨Nat.le_of_ble_eq_true rfl, Nat.le_of_ble_eq_true rfl⟩ (fun adC H1 locs1 eC hP1 hD1 hS1 => ?_)
  clear hP hD hS
  subst eC
  refine lv_astore_n (lv' := [(1, .ref (adC 0)), (0, .ref b)]) hx hb dL_law_7 rfl hl (by decide) rfl (fun ls hl => ?_)
  refine k_new (ws := wsO 46 shC adC cA wC0) G inGX7 tyX7 tyX7_ok kk_L_10 ki_X7 kn_X7 (ci := 7) rfl kd_X7 hP1 hD1 hS1 (Nat.le_of_ble_eq_true rfl) (Nat.le_of_ble_eq_true rfl) dL_law_8 (fun q2 H hP hD hS => ?_)
  refine lv_dup hx hb dL_law_11 rfl ?_
  refine k_ctor (ws := wsO 46 shC adC cA wC0) (rest := [.ref q2]) G hP hD hS (k_X7 b7) my_X7_init rfl kl_L_12 ⟨Nat.le_of_ble_eq_true rfl, Nat.le_of_ble_eq_true rfl⟩ rfl hl.1 rfl (Nat.le_of_ble_eq_true rfl) dL_law_12 ⟨Nat.le_of_ble_eq_true rfl, Nat.le_of_ble_eq_true rfl⟩ (fun adM H2 locs2 eM hP2 hD2 hS2 => ?_)
  clear hP hD hS hP1 hD1 hS1
  subst eM
  refine lv_astore_n (lv' := [(2, .ref (adM 0)), (1, .ref (adC 0)), (0, .ref b)]) hx hb dL_law_15 rfl hl (by decide) rfl (fun ls hl => ?_)
  refine lv_iconst (v := 0) hx hb dL_law_16 (by decide) ?_
  refine lv_istore_n (lv' := [(3, .int 0), (2, .ref (adM 0)), (1, .ref (adC 0)), (0, .ref b)]) hx hb dL_law_17 rfl hl (by decide) rfl (fun ls hl => ?_)
  have len : (wsO 46 shC adC cA wC0).length = 46 := by simp [wsO]
  have left : ∀ i, i < 46 → (wsO 46 shC adC cA wC0 ++ wsO 22 shM adM cA wX7)[i]? = some (adC i, cE shC adC cA wC0 i) := fun i hi => by
    rw [List.getElem?_append_left (by omega), wsO_get hi]
  have right : ∀ j, j < 22 → (wsO 46 shC adC cA wC0 ++ wsO 22 shM adM cA wX7)[46 + j]? = some (adM j, cE shM adM cA wX7 j) := fun j hj => by
    rw [List.getElem?_append_right (by omega), len, show 46 + j - 46 = j by omega, wsO_get hj]
  have PC : va_P D classes (wsO 46 shC adC cA wC0) H2 := fun k q hk => hP2 k q (by rw [List.getElem?_append_left (List.getElem?_eq_some_iff.mp hk).1]; exact hk)
  have PM : va_P D classes (wsO 22 shM adM cA wX7) H2 := fun k q hk => hP2 (46 + k) q (by rw [List.getElem?_append_right (by omega), len, show 46 + k - 46 = k by omega]; exact hk)
  have AC : AdOk 46 adC (AL s) := ⟨fun i j hi hj e => hD2.1 i j _ _ (left i hi) (left j hj) e, fun i hi => hD2.2 i _ (left i hi)⟩
  have AM : AdOk 22 adM (AL s) := ⟨fun i j hi hj e => by have := hD2.1 _ _ _ _ (right i hi) (right j hj) e; omega, fun i hi => hD2.2 _ _ (right i hi)⟩
  have dis : ∀ i j, i < 46 → j < 22 → adC i ≠ adM j := fun i j hi hj e => by have := hD2.1 _ _ _ _ (left i hi) (right j hj) e; omega
  refine W.widen (k := 600000) (n := 7302250) (Nat.le_of_ble_eq_true rfl) (Nat.le_of_ble_eq_true rfl) ?_
  exact law_loop hL ⟨C0, hK, hN, hZ, AC, AM, dis⟩ hsim (L + 1) 0 (Nat.zero_le _) (by omega) wC0 wX7 H2 locs2 ls hrel ⟨PC, PM, hS2⟩ (lv_sub hl [3, 2, 1, 0] rfl)

