/-! walks, by program (wip/gen/walk.py): X0_makePlan, X6_within, X4_cellOr, X4_moveRow, X6_isLeg, X0_takeWant, X0_takeWishesThatHaveCome, X0_steer, X1_ticksOn, X1_lowerTicks, X1_upperTicks, X1_mean, X0_moveCurrents -/
section WK1
variable {n : Nat} {sh : Nat → Shp} {D : va_G} {cA : ClassId} {ad : Nat → Nat} {A : Nat → Prop} {sa : Nat → Nat} {l : Launch}
set_option maxHeartbeats 4000000 in
theorem c_X0_makePlan (hA : AdOk n ad A) {q0 : Nat} (h0 : isX0 n sh q0) {w w' : Mem} {r : Unit} (hF : F_X0_makePlan q0 w = some (r, w')) : Ctr l n sh D cA ad A sa yX0_makePlan cX0_makePlan 1 none 4 94 [.ref (ad q0)] w none w' := by
  refine m_enter hA (by decide) (Nat.le_of_ble_eq_true rfl) ?_
  intro p e s m args below meth c ls G hI hl
  replace hl : lv_has ls 1 [(0, .ref (ad q0))] := hl
  replace G : Mx n D cA ad A sa p s m args meth c RX0 cX0_makePlan 1 none := G
  obtain ⟨hx, hb, -, -, hown, hg, -⟩ := id G
  unfold F_X0_makePlan at hF
  refine lv_aload_n hx hb dX0_makePlan_0 rfl (lv_at hl 0 rfl) ?_
  refine gf_X0_39 G hI h0 dX0_makePlan_1 ?_
  refine lv_aload_n hx hb dX0_makePlan_4 rfl (lv_at hl 0 rfl) ?_
  refine gf_X0_9 G hI h0 dX0_makePlan_5 ?_
  refine lv_aload_n hx hb dX0_makePlan_8 rfl (lv_at hl 0 rfl) ?_
  refine gf_X0_15 G hI h0 dX0_makePlan_9 ?_
  refine lv_aload_n hx hb dX0_makePlan_12 rfl (lv_at hl 0 rfl) ?_
  refine gf_X0_18 G hI h0 dX0_makePlan_13 ?_
  obtain ⟨r2, w1, z3, hF⟩ := bd_some hF
  refine n_Vv (rest := []) G hI (c_X1_make hA (isX0.plan h0) (isX0.setting h0) (isX0.demand h0) (isX0.current h0) z3) my_X1_make kl_X0_66 (isX1.lt (isX0.plan h0)) (isX1.sh (isX0.plan h0)) rfl ⟨Nat.le_of_ble_eq_true rfl, Nat.le_of_ble_eq_true rfl⟩ rfl hl.1 rfl (Nat.le_of_ble_eq_true rfl) dX0_makePlan_16 (fun H locs hI => ?_)
  exact n_vret G hI hF rfl dX0_makePlan_19
set_option maxHeartbeats 4000000 in
theorem c_X6_within (hA : AdOk n ad A) {a0 : Int32} {a1 : Int32} {a2 : Int32} {w w' : Mem} {r : Int32} (hF : F_X6_within a0 a1 a2 w = some (r, w')) : Ctr l n sh D cA ad A sa yX6_within cX6_within 3 (some .boolean) 0 0 [.int a0, .int a1, .int a2] w (some (.int r)) w' := by
  refine m_enter hA (by decide) (Nat.le_of_ble_eq_true rfl) ?_
  intro p e s m args below meth c ls G hI hl
  replace hl : lv_has ls 3 [(0, .int a0), (1, .int a1), (2, .int a2)] := hl
  replace G : Mx n D cA ad A sa p s m args meth c RX6 cX6_within 3 (some .boolean) := G
  obtain ⟨hx, hb, -, -, hown, hg, -⟩ := id G
  unfold F_X6_within at hF
  refine lv_iload_n hx hb dX6_within_0 rfl (lv_at hl 0 rfl) ?_
  refine lv_iload_n hx hb dX6_within_1 rfl (lv_at hl 1 rfl) ?_
  refine lv_icmp_lt (tgt := 14) hx hb dX6_within_2 (by decide) (fun c2 => ?_) (fun c2 => ?_)
  · replace hF := itp c2 hF
    refine lv_iconst (v := (0 : Int32)) hx hb dX6_within_14 (by decide) ?_
    exact n_zret G hI (by decide) hF rfl dX6_within_15
  · replace hF := itn c2 hF
    refine lv_iload_n hx hb dX6_within_5 rfl (lv_at hl 0 rfl) ?_
    refine lv_iload_n hx hb dX6_within_6 rfl (lv_at hl 2 rfl) ?_
    refine lv_icmp_gt (tgt := 14) hx hb dX6_within_7 (by decide) (fun c1 => ?_) (fun c1 => ?_)
    · replace hF := itp c1 hF
      refine lv_iconst (v := (0 : Int32)) hx hb dX6_within_14 (by decide) ?_
      exact n_zret G hI (by decide) hF rfl dX6_within_15
    · replace hF := itn c1 hF
      refine lv_iconst (v := (1 : Int32)) hx hb dX6_within_10 (by decide) ?_
      refine lv_goto (tgt := 15) hx hb dX6_within_11 (by decide) ?_
      exact n_zret G hI (by decide) hF rfl dX6_within_15
set_option maxHeartbeats 4000000 in
theorem c_X4_cellOr (hA : AdOk n ad A) {q0 : Nat} (h0 : isX4 n sh q0) {a1 : Int32} {a2 : Int32} {a3 : Int32} {w w' : Mem} {r : Int32} (hF : F_X4_cellOr q0 a1 a2 a3 w = some (r, w')) : Ctr l n sh D cA ad A sa yX4_cellOr cX4_cellOr 4 (some .int) 1 22 [.ref (ad q0), .int a1, .int a2, .int a3] w (some (.int r)) w' := by
  refine m_enter hA (by decide) (Nat.le_of_ble_eq_true rfl) ?_
  intro p e s m args below meth c ls G hI hl
  replace hl : lv_has ls 4 [(0, .ref (ad q0)), (1, .int a1), (2, .int a2), (3, .int a3)] := hl
  replace G : Mx n D cA ad A sa p s m args meth c RX4 cX4_cellOr 4 (some .int) := G
  obtain ⟨hx, hb, -, -, hown, hg, -⟩ := id G
  unfold F_X4_cellOr at hF
  refine lv_iload_n hx hb dX4_cellOr_0 rfl (lv_at hl 2 rfl) ?_
  refine lv_iconst (v := (0 : Int32)) hx hb dX4_cellOr_1 (by decide) ?_
  refine lv_aload_n hx hb dX4_cellOr_2 rfl (lv_at hl 0 rfl) ?_
  refine gf_X4_25 G hI h0 dX4_cellOr_3 ?_
  refine lv_iconst (v := (1 : Int32)) hx hb dX4_cellOr_6 (by decide) ?_
  refine lv_isub hx hb dX4_cellOr_7 ?_
  obtain ⟨r2, w1, z3, hF⟩ := bd_some hF
  refine n_SNi (rest := []) (host := "DriveTicks") G hI (c_X6_within hA  z3) my_X6_within (by decide) ⟨Nat.le_of_ble_eq_true rfl, Nat.le_of_ble_eq_true rfl⟩ rfl hl.1 rfl (Nat.le_of_ble_eq_true rfl) dX4_cellOr_8 (fun H locs hI => ?_)
  refine lv_if_eq (tgt := 23) hx hb dX4_cellOr_11 (by decide) (fun c9 => ?_) (fun c9 => ?_)
  · replace hF := itp c9 hF
    refine lv_iload_n hx hb dX4_cellOr_23 rfl (lv_at hl 1 rfl) ?_
    exact n_iret G hI hF rfl dX4_cellOr_24
  · replace hF := itn c9 hF
    refine lv_iload_n hx hb dX4_cellOr_14 rfl (lv_at hl 3 rfl) ?_
    refine lv_iconst (v := (0 : Int32)) hx hb dX4_cellOr_15 (by decide) ?_
    refine lv_iconst (v := (3 : Int32)) hx hb dX4_cellOr_16 (by decide) ?_
    obtain ⟨r5, w4, z6, hF⟩ := bd_some hF
    refine n_SNi (rest := []) (host := "DriveTicks") G hI (c_X6_within hA  z6) my_X6_within (by decide) ⟨Nat.le_of_ble_eq_true rfl, Nat.le_of_ble_eq_true rfl⟩ rfl hl.1 rfl (Nat.le_of_ble_eq_true rfl) dX4_cellOr_17 (fun H locs hI => ?_)
    refine lv_if_ne (tgt := 25) hx hb dX4_cellOr_20 (by decide) (fun c8 => ?_) (fun c8 => ?_)
    · replace hF := itn c8 hF
      refine lv_aload_n hx hb dX4_cellOr_25 rfl (lv_at hl 0 rfl) ?_
      refine gf_X4_21 G hI h0 dX4_cellOr_26 ?_
      refine lv_iload_n hx hb dX4_cellOr_29 rfl (lv_at hl 2 rfl) ?_
      refine lv_iconst (v := (4 : Int32)) hx hb dX4_cellOr_30 (by decide) ?_
      refine lv_imul hx hb dX4_cellOr_31 ?_
      refine lv_iload_n hx hb dX4_cellOr_32 rfl (lv_at hl 3 rfl) ?_
      refine lv_iadd hx hb dX4_cellOr_33 ?_
      obtain ⟨g7, hF⟩ := gd_some hF
      refine n_ald G hI (isX4.cells h0) g7 dX4_cellOr_34 ?_
      exact n_iret G hI hF rfl dX4_cellOr_35
    · replace hF := itp c8 hF
      refine lv_iload_n hx hb dX4_cellOr_23 rfl (lv_at hl 1 rfl) ?_
      exact n_iret G hI hF rfl dX4_cellOr_24
set_option maxHeartbeats 4000000 in
theorem c_X4_moveRow (hA : AdOk n ad A) {q0 : Nat} (h0 : isX4 n sh q0) {a1 : Int32} {a2 : Int32} {w w' : Mem} {r : Unit} (hF : F_X4_moveRow q0 a1 a2 w = some (r, w')) : Ctr l n sh D cA ad A sa yX4_moveRow cX4_moveRow 3 none 1 26 [.ref (ad q0), .int a1, .int a2] w none w' := by
  refine m_enter hA (by decide) (Nat.le_of_ble_eq_true rfl) ?_
  intro p e s m args below meth c ls G hI hl
  replace hl : lv_has ls 3 [(0, .ref (ad q0)), (1, .int a1), (2, .int a2)] := hl
  replace G : Mx n D cA ad A sa p s m args meth c RX4 cX4_moveRow 3 none := G
  obtain ⟨hx, hb, -, -, hown, hg, -⟩ := id G
  unfold F_X4_moveRow at hF
  refine lv_iload_n hx hb dX4_moveRow_0 rfl (lv_at hl 1 rfl) ?_
  refine lv_iconst (v := (0 : Int32)) hx hb dX4_moveRow_1 (by decide) ?_
  refine lv_aload_n hx hb dX4_moveRow_2 rfl (lv_at hl 0 rfl) ?_
  refine gf_X4_25 G hI h0 dX4_moveRow_3 ?_
  refine lv_iconst (v := (1 : Int32)) hx hb dX4_moveRow_6 (by decide) ?_
  refine lv_isub hx hb dX4_moveRow_7 ?_
  obtain ⟨r2, w1, z3, hF⟩ := bd_some hF
  refine n_SNi (rest := []) (host := "DriveTicks") G hI (c_X6_within hA  z3) my_X6_within (by decide) ⟨Nat.le_of_ble_eq_true rfl, Nat.le_of_ble_eq_true rfl⟩ rfl hl.1 rfl (Nat.le_of_ble_eq_true rfl) dX4_moveRow_8 (fun H locs hI => ?_)
  refine lv_if_eq (tgt := 46) hx hb dX4_moveRow_11 (by decide) (fun c10 => ?_) (fun c10 => ?_)
  · replace hF := itp c10 hF
    exact n_vret G hI hF rfl dX4_moveRow_46
  · replace hF := itn c10 hF
    refine lv_iload_n hx hb dX4_moveRow_14 rfl (lv_at hl 2 rfl) ?_
    refine lv_iconst (v := (0 : Int32)) hx hb dX4_moveRow_15 (by decide) ?_
    refine lv_aload_n hx hb dX4_moveRow_16 rfl (lv_at hl 0 rfl) ?_
    refine gf_X4_25 G hI h0 dX4_moveRow_17 ?_
    refine lv_iconst (v := (1 : Int32)) hx hb dX4_moveRow_20 (by decide) ?_
    refine lv_isub hx hb dX4_moveRow_21 ?_
    obtain ⟨r5, w4, z6, hF⟩ := bd_some hF
    refine n_SNi (rest := []) (host := "DriveTicks") G hI (c_X6_within hA  z6) my_X6_within (by decide) ⟨Nat.le_of_ble_eq_true rfl, Nat.le_of_ble_eq_true rfl⟩ rfl hl.1 rfl (Nat.le_of_ble_eq_true rfl) dX4_moveRow_22 (fun H locs hI => ?_)
    refine lv_if_eq (tgt := 46) hx hb dX4_moveRow_25 (by decide) (fun c9 => ?_) (fun c9 => ?_)
    · replace hF := itp c9 hF
      exact n_vret G hI hF rfl dX4_moveRow_46
    · replace hF := itn c9 hF
      refine lv_aload_n hx hb dX4_moveRow_28 rfl (lv_at hl 0 rfl) ?_
      refine gf_X4_21 G hI h0 dX4_moveRow_29 ?_
      refine lv_iload_n hx hb dX4_moveRow_32 rfl (lv_at hl 1 rfl) ?_
      refine lv_iconst (v := (4 : Int32)) hx hb dX4_moveRow_33 (by decide) ?_
      refine lv_imul hx hb dX4_moveRow_34 ?_
      refine lv_aload_n hx hb dX4_moveRow_35 rfl (lv_at hl 0 rfl) ?_
      refine gf_X4_21 G hI h0 dX4_moveRow_36 ?_
      refine lv_iload_n hx hb dX4_moveRow_39 rfl (lv_at hl 2 rfl) ?_
      refine lv_iconst (v := (4 : Int32)) hx hb dX4_moveRow_40 (by decide) ?_
      refine lv_imul hx hb dX4_moveRow_41 ?_
      refine lv_iconst (v := (4 : Int32)) hx hb dX4_moveRow_42 (by decide) ?_
      obtain ⟨g7, hF⟩ := gd_some hF
      obtain ⟨w8, ew8, hF⟩ := lt_some hF
      refine n_copy G hI (isX4.cells h0) (isX4.cells h0) kl_X4_40 g7 (Nat.le_of_ble_eq_true rfl) (Nat.le_of_ble_eq_true rfl) hl.1 dX4_moveRow_43 (fun H locs hI => ?_)
      replace hI : Iv n sh D cA ad A s.heap w8 H locs := by rw [ew8]; exact hI
      exact n_vret G hI hF rfl dX4_moveRow_46
set_option maxHeartbeats 4000000 in
theorem c_X6_isLeg (hA : AdOk n ad A) {a0 : Int32} {w w' : Mem} {r : Int32} (hF : F_X6_isLeg a0 w = some (r, w')) : Ctr l n sh D cA ad A sa yX6_isLeg cX6_isLeg 1 (some .boolean) 1 22 [.int a0] w (some (.int r)) w' := by
  refine m_enter hA (by decide) (Nat.le_of_ble_eq_true rfl) ?_
  intro p e s m args below meth c ls G hI hl
  replace hl : lv_has ls 1 [(0, .int a0)] := hl
  replace G : Mx n D cA ad A sa p s m args meth c RX6 cX6_isLeg 1 (some .boolean) := G
  obtain ⟨hx, hb, -, -, hown, hg, -⟩ := id G
  unfold F_X6_isLeg at hF
  refine lv_iload_n hx hb dX6_isLeg_0 rfl (lv_at hl 0 rfl) ?_
  refine lv_iconst (v := (0 : Int32)) hx hb dX6_isLeg_1 (by decide) ?_
  refine lv_iconst (v := (2 : Int32)) hx hb dX6_isLeg_2 (by decide) ?_
  obtain ⟨r2, w1, z3, hF⟩ := bd_some hF
  refine n_Si (rest := []) G hI (c_X6_within hA  z3) my_X6_within kl_X6_56 ⟨Nat.le_of_ble_eq_true rfl, Nat.le_of_ble_eq_true rfl⟩ rfl hl.1 rfl (Nat.le_of_ble_eq_true rfl) dX6_isLeg_3 (fun H locs hI => ?_)
  obtain ⟨g4, hF⟩ := gd_some hF
  exact n_zret G hI g4 hF rfl dX6_isLeg_6
set_option maxHeartbeats 4000000 in
theorem c_X0_takeWant (hA : AdOk n ad A) {q0 : Nat} (h0 : isX0 n sh q0) {a1 : Int32} {a2 : Int32} {w w' : Mem} {r : Unit} (hF : F_X0_takeWant q0 a1 a2 w = some (r, w')) : Ctr l n sh D cA ad A sa yX0_takeWant cX0_takeWant 3 none 2 42 [.ref (ad q0), .int a1, .int a2] w none w' := by
  refine m_enter hA (by decide) (Nat.le_of_ble_eq_true rfl) ?_
  intro p e s m args below meth c ls G hI hl
  replace hl : lv_has ls 3 [(0, .ref (ad q0)), (1, .int a1), (2, .int a2)] := hl
  replace G : Mx n D cA ad A sa p s m args meth c RX0 cX0_takeWant 3 none := G
  obtain ⟨hx, hb, -, -, hown, hg, -⟩ := id G
  unfold F_X0_takeWant at hF
  refine lv_iload_n hx hb dX0_takeWant_0 rfl (lv_at hl 1 rfl) ?_
  obtain ⟨r2, w1, z3, hF⟩ := bd_some hF
  refine n_SNi (rest := []) (host := "DriveTicks") G hI (c_X6_isLeg hA  z3) my_X6_isLeg (by decide) ⟨Nat.le_of_ble_eq_true rfl, Nat.le_of_ble_eq_true rfl⟩ rfl hl.1 rfl (Nat.le_of_ble_eq_true rfl) dX0_takeWant_1 (fun H locs hI => ?_)
  refine lv_if_eq (tgt := 14) hx hb dX0_takeWant_4 (by decide) (fun c6 => ?_) (fun c6 => ?_)
  · replace hF := itp c6 hF
    exact n_vret G hI hF rfl dX0_takeWant_14
  · replace hF := itn c6 hF
    refine lv_aload_n hx hb dX0_takeWant_7 rfl (lv_at hl 0 rfl) ?_
    refine gf_X0_21 G hI h0 dX0_takeWant_8 ?_
    refine lv_iload_n hx hb dX0_takeWant_11 rfl (lv_at hl 1 rfl) ?_
    refine lv_iload_n hx hb dX0_takeWant_12 rfl (lv_at hl 2 rfl) ?_
    obtain ⟨g4, hF⟩ := gd_some hF
    obtain ⟨w5, ew5, hF⟩ := lt_some hF
    refine n_ast G hI (isX0.want h0) g4 dX0_takeWant_13 (fun H locs hI => ?_)
    replace hI : Iv n sh D cA ad A s.heap w5 H locs := by rw [ew5]; exact hI
    exact n_vret G hI hF rfl dX0_takeWant_14
set_option maxHeartbeats 4000000 in
theorem l_X0_takeWishesThatHaveCome_4 {p : Program} {e : Env} {s : State} {m : MethodId} {args : Array Value} {below : List Frame} {meth : Method} {c : Code} (G : Mx n D cA ad A sa p s m args meth c RX0 cX0_takeWishesThatHaveCome 3 none) {q0 : Nat} (h0 : isX0 n sh q0) {k : Int32 → Mem → Option (Unit × Mem)} {r : Unit} {w' : Mem}
    (hk : ∀ (v1 : Int32) (w : Mem) (H : Heap) (locs : List Loc) (ls : Array Slot), k v1 w = some (r, w') → Iv n sh D cA ad A s.heap w H locs → lv_has ls 3 [(0, .ref (ad q0)), (1, .int v1)] → W p l e ({ frames := 3, cells := 0, slots := 0, locals := 64 } : Room) s m args below meth c H locs 0 0 (QM n sh D cA ad A below args s none w') (F0 m 77 ls [])) :
    ∀ (N : Nat) (v1 : Int32) (v2 : Int32) (w : Mem) (H : Heap) (locs : List Loc) (ls : Array Slot), L_X0_takeWishesThatHaveCome_4 q0 k N v1 v2 w = some (r, w') → Iv n sh D cA ad A s.heap w H locs → lv_has ls 3 [(0, .ref (ad q0)), (1, .int v1), (2, .int v2)] → W p l e ({ frames := 3, cells := 0, slots := 0, locals := 64 } : Room) s m args below meth c H locs 0 0 (QM n sh D cA ad A below args s none w') (F0 m 4 ls []) := by
  obtain ⟨hx, hb, -, -, hown, hg, -, -, -, -, hA⟩ := id G
  intro N
  induction N with
  | zero =>
    intro v1 v2 w H locs ls hF hI hl
    cases hF
  | succ N ih =>
    intro v1 v2 w H locs ls hF hI hl
    rw [L_X0_takeWishesThatHaveCome_4] at hF
    refine lv_iload_n hx hb dX0_takeWishesThatHaveCome_4 rfl (lv_at hl 2 rfl) ?_
    refine lv_aload_n hx hb dX0_takeWishesThatHaveCome_5 rfl (lv_at hl 0 rfl) ?_
    refine gf_X0_32 G hI h0 dX0_takeWishesThatHaveCome_6 ?_
    refine gf_X0_86 G hI (isX0.wishes h0) dX0_takeWishesThatHaveCome_9 ?_
    refine lv_icmp_ge (tgt := 77) hx hb dX0_takeWishesThatHaveCome_12 (by decide) (fun c17 => ?_) (fun c17 => ?_)
    · replace hF := itp c17 hF
      exact hk _ _ _ _ _ hF hI (lv_sub hl [0, 1] rfl)
    · replace hF := itn c17 hF
      refine lv_aload_n hx hb dX0_takeWishesThatHaveCome_15 rfl (lv_at hl 0 rfl) ?_
      refine gf_X0_32 G hI h0 dX0_takeWishesThatHaveCome_16 ?_
      refine lv_iconst (v := (0 : Int32)) hx hb dX0_takeWishesThatHaveCome_19 (by decide) ?_
      refine lv_iload_n hx hb dX0_takeWishesThatHaveCome_20 rfl (lv_at hl 2 rfl) ?_
      refine lv_iconst (v := (1 : Int32)) hx hb dX0_takeWishesThatHaveCome_21 (by decide) ?_
      obtain ⟨r2, w1, z3, hF⟩ := bd_some hF
      refine n_Vi (rest := []) G hI (c_X4_cellOr hA (isX0.wishes h0) z3) my_X4_cellOr kl_X0_89 (isX4.lt (isX0.wishes h0)) (isX4.sh (isX0.wishes h0)) rfl ⟨Nat.le_of_ble_eq_true rfl, Nat.le_of_ble_eq_true rfl⟩ rfl hl.1 rfl (Nat.le_of_ble_eq_true rfl) dX0_takeWishesThatHaveCome_22 (fun H locs hI => ?_)
      refine lv_aload_n hx hb dX0_takeWishesThatHaveCome_25 rfl (lv_at hl 0 rfl) ?_
      refine gf_X0_58 G hI h0 dX0_takeWishesThatHaveCome_26 ?_
      refine lv_icmp_le (tgt := 47) hx hb dX0_takeWishesThatHaveCome_29 (by decide) (fun c16 => ?_) (fun c16 => ?_)
      · replace hF := itp c16 hF
        refine lv_aload_n hx hb dX0_takeWishesThatHaveCome_47 rfl (lv_at hl 0 rfl) ?_
        refine lv_aload_n hx hb dX0_takeWishesThatHaveCome_48 rfl (lv_at hl 0 rfl) ?_
        refine gf_X0_32 G hI h0 dX0_takeWishesThatHaveCome_49 ?_
        refine lv_iconst (v := (-1 : Int32)) hx hb dX0_takeWishesThatHaveCome_52 (by decide) ?_
        refine lv_iload_n hx hb dX0_takeWishesThatHaveCome_53 rfl (lv_at hl 2 rfl) ?_
        refine lv_iconst (v := (0 : Int32)) hx hb dX0_takeWishesThatHaveCome_54 (by decide) ?_
        obtain ⟨r5, w4, z6, hF⟩ := bd_some hF
        refine n_Vi (rest := [.ref (ad q0)]) G hI (c_X4_cellOr hA (isX0.wishes h0) z6) my_X4_cellOr kl_X0_89 (isX4.lt (isX0.wishes h0)) (isX4.sh (isX0.wishes h0)) rfl ⟨Nat.le_of_ble_eq_true rfl, Nat.le_of_ble_eq_true rfl⟩ rfl hl.1 rfl (Nat.le_of_ble_eq_true rfl) dX0_takeWishesThatHaveCome_55 (fun H locs hI => ?_)
        refine lv_aload_n hx hb dX0_takeWishesThatHaveCome_58 rfl (lv_at hl 0 rfl) ?_
        refine gf_X0_32 G hI h0 dX0_takeWishesThatHaveCome_59 ?_
        refine lv_iconst (v := (0 : Int32)) hx hb dX0_takeWishesThatHaveCome_62 (by decide) ?_
        refine lv_iload_n hx hb dX0_takeWishesThatHaveCome_63 rfl (lv_at hl 2 rfl) ?_
        refine lv_iconst (v := (2 : Int32)) hx hb dX0_takeWishesThatHaveCome_64 (by decide) ?_
        obtain ⟨r8, w7, z9, hF⟩ := bd_some hF
        refine n_Vi (rest := [.int r5, .ref (ad q0)]) G hI (c_X4_cellOr hA (isX0.wishes h0) z9) my_X4_cellOr kl_X0_89 (isX4.lt (isX0.wishes h0)) (isX4.sh (isX0.wishes h0)) rfl ⟨Nat.le_of_ble_eq_true rfl, Nat.le_of_ble_eq_true rfl⟩ rfl hl.1 rfl (Nat.le_of_ble_eq_true rfl) dX0_takeWishesThatHaveCome_65 (fun H locs hI => ?_)
        obtain ⟨r11, w10, z12, hF⟩ := bd_some hF
        refine n_Vv (rest := []) G hI (c_X0_takeWant hA h0 z12) my_X0_takeWant kl_X0_97 (isX0.lt h0) (isX0.sh h0) rfl ⟨Nat.le_of_ble_eq_true rfl, Nat.le_of_ble_eq_true rfl⟩ rfl hl.1 rfl (Nat.le_of_ble_eq_true rfl) dX0_takeWishesThatHaveCome_68 (fun H locs hI => ?_)
        refine lv_iinc (v := (v2 + (1 : Int32))) (lv' := [(2, .int (v2 + (1 : Int32))), (0, .ref (ad q0)), (1, .int v1)]) hx hb dX0_takeWishesThatHaveCome_71 hl (k := 2) rfl rfl (by decide) rfl (fun ls hl => ?_)
        refine lv_goto (tgt := 4) hx hb dX0_takeWishesThatHaveCome_74 (by decide) ?_
        exact ih _ _ _ _ _ _ hF hI (lv_sub hl [1, 2, 0] rfl)
      · replace hF := itn c16 hF
        refine lv_aload_n hx hb dX0_takeWishesThatHaveCome_32 rfl (lv_at hl 0 rfl) ?_
        refine gf_X0_32 G hI h0 dX0_takeWishesThatHaveCome_33 ?_
        refine lv_iload_n hx hb dX0_takeWishesThatHaveCome_36 rfl (lv_at hl 2 rfl) ?_
        refine lv_iload_n hx hb dX0_takeWishesThatHaveCome_37 rfl (lv_at hl 1 rfl) ?_
        obtain ⟨r14, w13, z15, hF⟩ := bd_some hF
        refine n_Vv (rest := []) G hI (c_X4_moveRow hA (isX0.wishes h0) z15) my_X4_moveRow kl_X0_93 (isX4.lt (isX0.wishes h0)) (isX4.sh (isX0.wishes h0)) rfl ⟨Nat.le_of_ble_eq_true rfl, Nat.le_of_ble_eq_true rfl⟩ rfl hl.1 rfl (Nat.le_of_ble_eq_true rfl) dX0_takeWishesThatHaveCome_38 (fun H locs hI => ?_)
        refine lv_iinc (v := (v1 + (1 : Int32))) (lv' := [(1, .int (v1 + (1 : Int32))), (0, .ref (ad q0)), (2, .int v2)]) hx hb dX0_takeWishesThatHaveCome_41 hl (k := 1) rfl rfl (by decide) rfl (fun ls hl => ?_)
        refine lv_goto (tgt := 71) hx hb dX0_takeWishesThatHaveCome_44 (by decide) ?_
        refine lv_iinc (v := (v2 + (1 : Int32))) (lv' := [(2, .int (v2 + (1 : Int32))), (1, .int (v1 + (1 : Int32))), (0, .ref (ad q0))]) hx hb dX0_takeWishesThatHaveCome_71 hl (k := 2) rfl rfl (by decide) rfl (fun ls hl => ?_)
        refine lv_goto (tgt := 4) hx hb dX0_takeWishesThatHaveCome_74 (by decide) ?_
        exact ih _ _ _ _ _ _ hF hI (lv_sub hl [2, 1, 0] rfl)
set_option maxHeartbeats 4000000 in
theorem c_X0_takeWishesThatHaveCome (hA : AdOk n ad A) {q0 : Nat} (h0 : isX0 n sh q0) {w w' : Mem} {r : Unit} (hF : F_X0_takeWishesThatHaveCome q0 w = some (r, w')) : Ctr l n sh D cA ad A sa yX0_takeWishesThatHaveCome cX0_takeWishesThatHaveCome 3 none 3 64 [.ref (ad q0)] w none w' := by
  refine m_enter hA (by decide) (Nat.le_of_ble_eq_true rfl) ?_
  intro p e s m args below meth c ls G hI hl
  replace hl : lv_has ls 3 [(0, .ref (ad q0))] := hl
  replace G : Mx n D cA ad A sa p s m args meth c RX0 cX0_takeWishesThatHaveCome 3 none := G
  obtain ⟨hx, hb, -, -, hown, hg, -⟩ := id G
  unfold F_X0_takeWishesThatHaveCome at hF
  refine lv_iconst (v := (0 : Int32)) hx hb dX0_takeWishesThatHaveCome_0 (by decide) ?_
  refine lv_istore_n (lv' := [(1, .int (0 : Int32)), (0, .ref (ad q0))]) hx hb dX0_takeWishesThatHaveCome_1 rfl hl (by decide) rfl (fun ls hl => ?_)
  refine lv_iconst (v := (0 : Int32)) hx hb dX0_takeWishesThatHaveCome_2 (by decide) ?_
  refine lv_istore_n (lv' := [(2, .int (0 : Int32)), (1, .int (0 : Int32)), (0, .ref (ad q0))]) hx hb dX0_takeWishesThatHaveCome_3 rfl hl (by decide) rfl (fun ls hl => ?_)
  refine l_X0_takeWishesThatHaveCome_4 G h0 (fun x19 w18 H locs ls hF hI hl => ?_) _ _ _ _ _ _ _ hF hI (lv_sub hl [2, 1, 0] rfl)
  refine lv_aload_n hx hb dX0_takeWishesThatHaveCome_77 rfl (lv_at hl 0 rfl) ?_
  refine gf_X0_32 G hI h0 dX0_takeWishesThatHaveCome_78 ?_
  refine lv_iload_n hx hb dX0_takeWishesThatHaveCome_81 rfl (lv_at hl 1 rfl) ?_
  obtain ⟨r21, w20, z22, hF⟩ := bd_some hF
  refine n_Vv (rest := []) G hI (c_X4_cutTo hA (isX0.wishes h0) z22) my_X4_cutTo kl_X0_55 (isX4.lt (isX0.wishes h0)) (isX4.sh (isX0.wishes h0)) rfl ⟨Nat.le_of_ble_eq_true rfl, Nat.le_of_ble_eq_true rfl⟩ rfl hl.1 rfl (Nat.le_of_ble_eq_true rfl) dX0_takeWishesThatHaveCome_82 (fun H locs hI => ?_)
  exact n_vret G hI hF rfl dX0_takeWishesThatHaveCome_85
set_option maxHeartbeats 4000000 in
theorem l_X0_steer_32 {p : Program} {e : Env} {s : State} {m : MethodId} {args : Array Value} {below : List Frame} {meth : Method} {c : Code} (G : Mx n D cA ad A sa p s m args meth c RX0 cX0_steer 6 none) {q0 : Nat} {a1 : Int32} (h0 : isX0 n sh q0) {k : Mem → Option (Unit × Mem)} {r : Unit} {w' : Mem}
    (hk : ∀  (w : Mem) (H : Heap) (locs : List Loc) (ls : Array Slot), k  w = some (r, w') → Iv n sh D cA ad A s.heap w H locs → lv_has ls 6 [] → W p l e ({ frames := 2, cells := 0, slots := 0, locals := 43 } : Room) s m args below meth c H locs 0 0 (QM n sh D cA ad A below args s none w') (F0 m 169 ls [])) :
    ∀ (N : Nat) (v2 : Int32) (w : Mem) (H : Heap) (locs : List Loc) (ls : Array Slot), L_X0_steer_32 q0 a1 k N v2 w = some (r, w') → Iv n sh D cA ad A s.heap w H locs → lv_has ls 6 [(0, .ref (ad q0)), (1, .int a1), (2, .int v2)] → W p l e ({ frames := 2, cells := 0, slots := 0, locals := 43 } : Room) s m args below meth c H locs 0 0 (QM n sh D cA ad A below args s none w') (F0 m 32 ls []) := by
  obtain ⟨hx, hb, -, -, hown, hg, -, -, -, -, hA⟩ := id G
  intro N
  induction N with
  | zero =>
    intro v2 w H locs ls hF hI hl
    cases hF
  | succ N ih =>
    intro v2 w H locs ls hF hI hl
    rw [L_X0_steer_32] at hF
    refine lv_iload_n hx hb dX0_steer_32 rfl (lv_at hl 2 rfl) ?_
    refine lv_iconst (v := (3 : Int32)) hx hb dX0_steer_33 (by decide) ?_
    refine lv_icmp_ge (tgt := 169) hx hb dX0_steer_34 (by decide) (fun c40 => ?_) (fun c40 => ?_)
    · replace hF := itp c40 hF
      exact hk _ _ _ _ hF hI (lv_sub hl [] rfl)
    · replace hF := itn c40 hF
      refine lv_aload_n hx hb dX0_steer_37 rfl (lv_at hl 0 rfl) ?_
      refine gf_X0_21 G hI h0 dX0_steer_38 ?_
      refine lv_iload_n hx hb dX0_steer_41 rfl (lv_at hl 2 rfl) ?_
      obtain ⟨g9, hF⟩ := gd_some hF
      refine n_ald G hI (isX0.want h0) g9 dX0_steer_42 ?_
      refine lv_aload_n hx hb dX0_steer_43 rfl (lv_at hl 0 rfl) ?_
      refine gf_X0_18 G hI h0 dX0_steer_44 ?_
      refine lv_iload_n hx hb dX0_steer_47 rfl (lv_at hl 2 rfl) ?_
      obtain ⟨g10, hF⟩ := gd_some hF
      refine n_ald G hI (isX0.current h0) g10 dX0_steer_48 ?_
      refine lv_isub hx hb dX0_steer_49 ?_
      obtain ⟨x11, ex11, hF⟩ := lt_some hF
      refine W.eq (g2 := F0 m 50 ls [.int x11]) (by rw [ex11]) ?_
      refine lv_istore_n (lv' := [(3, .int x11), (0, .ref (ad q0)), (1, .int a1), (2, .int v2)]) hx hb dX0_steer_50 rfl hl (by decide) rfl (fun ls hl => ?_)
      refine lv_iload_n hx hb dX0_steer_51 rfl (lv_at hl 0 rfl) ?_
      obtain ⟨k12, ek12, hF⟩ := jn_some hF
      have hJ12 : ∀ (x13 : Int32) (H : Heap) (locs : List Loc) (ls : Array Slot), k12 x13 = some (r, w') → Iv n sh D cA ad A s.heap w H locs → lv_has ls 6 [(0, .ref (ad q0)), (1, .int a1), (2, .int v2), (3, .int x11)] → W p l e ({ frames := 2, cells := 0, slots := 0, locals := 43 } : Room) s m args below meth c H locs 0 0 (QM n sh D cA ad A below args s none w') (F0 m 82 ls [.int x13]) := by
        intro x13 H locs ls hF hI hl
        replace hF := (congrFun ek12 x13).symm.trans hF
        refine lv_istore (lv' := [(4, .int x13), (0, .ref (ad q0)), (1, .int a1), (2, .int v2), (3, .int x11)]) hx hb dX0_steer_82 hl (by decide) rfl (fun ls hl => ?_)
        refine lv_iload_n hx hb dX0_steer_84 rfl (lv_at hl 2 rfl) ?_
        obtain ⟨k14, ek14, hF⟩ := jn_some hF
        have hJ14 : ∀ (w15 : Mem) (H : Heap) (locs : List Loc) (ls : Array Slot), k14  w15 = some (r, w') → Iv n sh D cA ad A s.heap w15 H locs → lv_has ls 6 [(0, .ref (ad q0)), (1, .int a1), (2, .int v2), (3, .int x11)] → W p l e ({ frames := 2, cells := 0, slots := 0, locals := 43 } : Room) s m args below meth c H locs 0 0 (QM n sh D cA ad A below args s none w') (F0 m 116 ls []) := by
          intro  w15 H locs ls hF hI hl
          replace hF := (congrFun ek14 w15).symm.trans hF
          refine lv_iload_n hx hb dX0_steer_116 rfl (lv_at hl 3 rfl) ?_
          refine lv_aload_n hx hb dX0_steer_117 rfl (lv_at hl 0 rfl) ?_
          refine gf_X0_9 G hI h0 dX0_steer_118 ?_
          refine lv_iconst (v := (4 : Int32)) hx hb dX0_steer_121 (by decide) ?_
          refine n_ald G hI (isX0.setting h0) (by decide) dX0_steer_122 ?_
          refine W.eq (g2 := F0 m 123 ls [.int (w15 (q0 + 1) 4), .int x11]) rfl ?_
          refine lv_imul hx hb dX0_steer_123 ?_
          refine lv_bipush (v := (16 : Int32)) hx hb dX0_steer_124 (by decide) ?_
          refine n_idiv G (by decide) dX0_steer_126 ?_
          refine lv_aload_n hx hb dX0_steer_127 rfl (lv_at hl 0 rfl) ?_
          refine gf_X0_24 G hI h0 dX0_steer_128 ?_
          refine lv_iload_n hx hb dX0_steer_131 rfl (lv_at hl 2 rfl) ?_
          obtain ⟨g16, hF⟩ := gd_some hF
          refine n_ald G hI (isX0.sum h0) g16 dX0_steer_132 ?_
          refine lv_aload_n hx hb dX0_steer_133 rfl (lv_at hl 0 rfl) ?_
          refine gf_X0_9 G hI h0 dX0_steer_134 ?_
          refine lv_iconst (v := (5 : Int32)) hx hb dX0_steer_137 (by decide) ?_
          refine n_ald G hI (isX0.setting h0) (by decide) dX0_steer_138 ?_
          refine W.eq (g2 := F0 m 139 ls [.int (w15 (q0 + 1) 5), .int (w15 (q0 + 5) (ix v2)), .int ((x11 * (w15 (q0 + 1) 4)) / (16 : Int32))]) rfl ?_
          refine lv_imul hx hb dX0_steer_139 ?_
          refine lv_bipush (v := (64 : Int32)) hx hb dX0_steer_140 (by decide) ?_
          refine n_idiv G (by decide) dX0_steer_142 ?_
          refine lv_iadd hx hb dX0_steer_143 ?_
          obtain ⟨x17, ex17, hF⟩ := lt_some hF
          refine W.eq (g2 := F0 m 144 ls [.int x17]) (by rw [ex17]) ?_
          refine lv_istore (lv' := [(5, .int x17), (0, .ref (ad q0)), (1, .int a1), (2, .int v2), (3, .int x11)]) hx hb dX0_steer_144 hl (by decide) rfl (fun ls hl => ?_)
          refine lv_aload_n hx hb dX0_steer_146 rfl (lv_at hl 1 rfl) ?_
          refine gf_X0_15 G hI h0 dX0_steer_147 ?_
          refine lv_iload_n hx hb dX0_steer_150 rfl (lv_at hl 3 rfl) ?_
          refine lv_iload hx hb dX0_steer_151 (lv_at hl 0 rfl) ?_
          refine lv_sipush (v := (-200 : Int32)) hx hb dX0_steer_153 (by decide) ?_
          refine lv_sipush (v := (200 : Int32)) hx hb dX0_steer_156 (by decide) ?_
          obtain ⟨r19, w18, z20, hF⟩ := bd_some hF
          refine n_SNi (rest := [.int v2, .ref (ad (q0 + 2))]) (host := "DriveTicks") G hI (c_X6_pulledWithin hA  z20) my_X6_pulledWithin (by decide) ⟨Nat.le_of_ble_eq_true rfl, Nat.le_of_ble_eq_true rfl⟩ rfl hl.1 rfl (Nat.le_of_ble_eq_true rfl) dX0_steer_159 (fun H locs hI => ?_)
          obtain ⟨g21, hF⟩ := gd_some hF
          obtain ⟨w22, ew22, hF⟩ := lt_some hF
          refine n_ast G hI (isX0.demand h0) g21 dX0_steer_162 (fun H locs hI => ?_)
          replace hI : Iv n sh D cA ad A s.heap w22 H locs := by rw [ew22]; exact hI
          refine lv_iinc (v := (v2 + (1 : Int32))) (lv' := [(2, .int (v2 + (1 : Int32))), (5, .int x17), (0, .ref (ad q0)), (1, .int a1), (3, .int x11)]) hx hb dX0_steer_163 hl (k := 3) rfl rfl (by decide) rfl (fun ls hl => ?_)
          refine lv_goto (tgt := 32) hx hb dX0_steer_166 (by decide) ?_
          exact ih _ _ _ _ _ hF hI (lv_sub hl [2, 3, 0] rfl)
        obtain ⟨k23, ek23, hF⟩ := jn_some hF
        have hJ23 : ∀  (H : Heap) (locs : List Loc) (ls : Array Slot), k23  = some (r, w') → Iv n sh D cA ad A s.heap w H locs → lv_has ls 6 [(0, .ref (ad q0)), (1, .int a1), (2, .int v2), (3, .int x11)] → W p l e ({ frames := 2, cells := 0, slots := 0, locals := 43 } : Room) s m args below meth c H locs 0 0 (QM n sh D cA ad A below args s none w') (F0 m 93 ls []) := by
          intro  H locs ls hF hI hl
          replace hF := ek23.symm.trans hF
          refine lv_aload_n hx hb dX0_steer_93 rfl (lv_at hl 0 rfl) ?_
          refine gf_X0_24 G hI h0 dX0_steer_94 ?_
          refine lv_iload_n hx hb dX0_steer_97 rfl (lv_at hl 2 rfl) ?_
          refine lv_aload_n hx hb dX0_steer_98 rfl (lv_at hl 0 rfl) ?_
          refine gf_X0_24 G hI h0 dX0_steer_99 ?_
          refine lv_iload_n hx hb dX0_steer_102 rfl (lv_at hl 2 rfl) ?_
          obtain ⟨g24, hF⟩ := gd_some hF
          refine n_ald G hI (isX0.sum h0) g24 dX0_steer_103 ?_
          refine lv_iload_n hx hb dX0_steer_104 rfl (lv_at hl 3 rfl) ?_
          refine lv_iadd hx hb dX0_steer_105 ?_
          refine lv_sipush (v := (-5000 : Int32)) hx hb dX0_steer_106 (by decide) ?_
          refine lv_sipush (v := (5000 : Int32)) hx hb dX0_steer_109 (by decide) ?_
          obtain ⟨r26, w25, z27, hF⟩ := bd_some hF
          refine n_SNi (rest := [.int v2, .ref (ad (q0 + 5))]) (host := "DriveTicks") G hI (c_X6_pulledWithin hA  z27) my_X6_pulledWithin (by decide) ⟨Nat.le_of_ble_eq_true rfl, Nat.le_of_ble_eq_true rfl⟩ rfl hl.1 rfl (Nat.le_of_ble_eq_true rfl) dX0_steer_112 (fun H locs hI => ?_)
          obtain ⟨g28, hF⟩ := gd_some hF
          obtain ⟨w29, ew29, hF⟩ := lt_some hF
          refine n_ast G hI (isX0.sum h0) g28 dX0_steer_115 (fun H locs hI => ?_)
          replace hI : Iv n sh D cA ad A s.heap w29 H locs := by rw [ew29]; exact hI
          exact hJ14 _ _ _ _ hF hI (lv_sub hl [0, 1, 2, 3] rfl)
        refine lv_if_eq (tgt := 93) hx hb dX0_steer_85 (by decide) (fun c31 => ?_) (fun c31 => ?_)
        · replace hF := itp c31 hF
          exact hJ23  _ _ _ hF hI (lv_sub hl [1, 2, 3, 4] rfl)
        · replace hF := itn c31 hF
          refine lv_iload hx hb dX0_steer_88 (lv_at hl 0 rfl) ?_
          refine lv_if_ne (tgt := 116) hx hb dX0_steer_90 (by decide) (fun c30 => ?_) (fun c30 => ?_)
          · replace hF := itn c30 hF
            exact hJ14 _ _ _ _ hF hI (lv_sub hl [1, 2, 3, 4] rfl)
          · replace hF := itp c30 hF
            exact hJ23  _ _ _ hF hI (lv_sub hl [1, 2, 3, 4] rfl)
      obtain ⟨k32, ek32, hF⟩ := jn_some hF
      have hJ32 : ∀  (H : Heap) (locs : List Loc) (ls : Array Slot), k32  = some (r, w') → Iv n sh D cA ad A s.heap w H locs → lv_has ls 6 [(0, .ref (ad q0)), (1, .int a1), (2, .int v2), (3, .int x11)] → W p l e ({ frames := 2, cells := 0, slots := 0, locals := 43 } : Room) s m args below meth c H locs 0 0 (QM n sh D cA ad A below args s none w') (F0 m 77 ls []) := by
        intro  H locs ls hF hI hl
        replace hF := ek32.symm.trans hF
        refine lv_iconst (v := (1 : Int32)) hx hb dX0_steer_77 (by decide) ?_
        refine lv_goto (tgt := 82) hx hb dX0_steer_78 (by decide) ?_
        exact hJ12 _ _ _ _ hF hI (lv_sub hl [0, 1, 2, 3] rfl)
      obtain ⟨k33, ek33, hF⟩ := jn_some hF
      have hJ33 : ∀  (H : Heap) (locs : List Loc) (ls : Array Slot), k33  = some (r, w') → Iv n sh D cA ad A s.heap w H locs → lv_has ls 6 [(0, .ref (ad q0)), (1, .int a1), (2, .int v2), (3, .int x11)] → W p l e ({ frames := 2, cells := 0, slots := 0, locals := 43 } : Room) s m args below meth c H locs 0 0 (QM n sh D cA ad A below args s none w') (F0 m 64 ls []) := by
        intro  H locs ls hF hI hl
        replace hF := ek33.symm.trans hF
        refine lv_iload_n hx hb dX0_steer_64 rfl (lv_at hl 3 rfl) ?_
        refine lv_if_ge (tgt := 81) hx hb dX0_steer_65 (by decide) (fun c36 => ?_) (fun c36 => ?_)
        · replace hF := itp c36 hF
          refine lv_iconst (v := (0 : Int32)) hx hb dX0_steer_81 (by decide) ?_
          exact hJ12 _ _ _ _ hF hI (lv_sub hl [0, 1, 2, 3] rfl)
        · replace hF := itn c36 hF
          refine lv_aload_n hx hb dX0_steer_68 rfl (lv_at hl 0 rfl) ?_
          refine gf_X0_24 G hI h0 dX0_steer_69 ?_
          refine lv_iload_n hx hb dX0_steer_72 rfl (lv_at hl 2 rfl) ?_
          obtain ⟨g34, hF⟩ := gd_some hF
          refine n_ald G hI (isX0.sum h0) g34 dX0_steer_73 ?_
          refine lv_if_ge (tgt := 81) hx hb dX0_steer_74 (by decide) (fun c35 => ?_) (fun c35 => ?_)
          · replace hF := itp c35 hF
            refine lv_iconst (v := (0 : Int32)) hx hb dX0_steer_81 (by decide) ?_
            exact hJ12 _ _ _ _ hF hI (lv_sub hl [0, 1, 2, 3] rfl)
          · replace hF := itn c35 hF
            exact hJ32  _ _ _ hF hI (lv_sub hl [0, 1, 2, 3] rfl)
      refine lv_if_le (tgt := 64) hx hb dX0_steer_52 (by decide) (fun c39 => ?_) (fun c39 => ?_)
      · replace hF := itp c39 hF
        exact hJ33  _ _ _ hF hI (lv_sub hl [1, 2, 3, 0] rfl)
      · replace hF := itn c39 hF
        refine lv_aload_n hx hb dX0_steer_55 rfl (lv_at hl 1 rfl) ?_
        refine gf_X0_24 G hI h0 dX0_steer_56 ?_
        refine lv_iload_n hx hb dX0_steer_59 rfl (lv_at hl 3 rfl) ?_
        obtain ⟨g37, hF⟩ := gd_some hF
        refine n_ald G hI (isX0.sum h0) g37 dX0_steer_60 ?_
        refine lv_if_gt (tgt := 77) hx hb dX0_steer_61 (by decide) (fun c38 => ?_) (fun c38 => ?_)
        · replace hF := itp c38 hF
          exact hJ32  _ _ _ hF hI (lv_sub hl [1, 2, 3, 0] rfl)
        · replace hF := itn c38 hF
          exact hJ33  _ _ _ hF hI (lv_sub hl [1, 2, 3, 0] rfl)
set_option maxHeartbeats 4000000 in
theorem c_X0_steer (hA : AdOk n ad A) {q0 : Nat} (h0 : isX0 n sh q0) {w w' : Mem} {r : Unit} (hF : F_X0_steer q0 w = some (r, w')) : Ctr l n sh D cA ad A sa yX0_steer cX0_steer 6 none 2 43 [.ref (ad q0)] w none w' := by
  refine m_enter hA (by decide) (Nat.le_of_ble_eq_true rfl) ?_
  intro p e s m args below meth c ls G hI hl
  replace hl : lv_has ls 6 [(0, .ref (ad q0))] := hl
  replace G : Mx n D cA ad A sa p s m args meth c RX0 cX0_steer 6 none := G
  obtain ⟨hx, hb, -, -, hown, hg, -⟩ := id G
  unfold F_X0_steer at hF
  refine lv_aload_n hx hb dX0_steer_0 rfl (lv_at hl 0 rfl) ?_
  refine gf_X0_15 G hI h0 dX0_steer_1 ?_
  obtain ⟨r2, w1, z3, hF⟩ := bd_some hF
  refine n_SNi (rest := []) (host := "DriveTicks") G hI (c_X6_greatestOf hA (isX0.demand h0) z3) my_X6_greatestOf (by decide) ⟨Nat.le_of_ble_eq_true rfl, Nat.le_of_ble_eq_true rfl⟩ rfl hl.1 rfl (Nat.le_of_ble_eq_true rfl) dX0_steer_4 (fun H locs hI => ?_)
  refine lv_aload_n hx hb dX0_steer_7 rfl (lv_at hl 0 rfl) ?_
  refine gf_X0_15 G hI h0 dX0_steer_8 ?_
  obtain ⟨r5, w4, z6, hF⟩ := bd_some hF
  refine n_SNi (rest := [.int r2]) (host := "DriveTicks") G hI (c_X6_leastOf hA (isX0.demand h0) z6) my_X6_leastOf (by decide) ⟨Nat.le_of_ble_eq_true rfl, Nat.le_of_ble_eq_true rfl⟩ rfl hl.1 rfl (Nat.le_of_ble_eq_true rfl) dX0_steer_11 (fun H locs hI => ?_)
  refine lv_isub hx hb dX0_steer_14 ?_
  refine lv_aload_n hx hb dX0_steer_15 rfl (lv_at hl 0 rfl) ?_
  refine gf_X0_9 G hI h0 dX0_steer_16 ?_
  refine lv_iconst (v := (0 : Int32)) hx hb dX0_steer_19 (by decide) ?_
  refine n_ald G hI (isX0.setting h0) (by decide) dX0_steer_20 ?_
  refine W.eq (g2 := F0 m 21 ls [.int (w4 (q0 + 1) 0), .int (r2 - r5)]) rfl ?_
  obtain ⟨k7, ek7, hF⟩ := jn_some hF
  have hJ7 : ∀ (x8 : Int32) (H : Heap) (locs : List Loc) (ls : Array Slot), k7 x8 = some (r, w') → Iv n sh D cA ad A s.heap w4 H locs → lv_has ls 6 [(0, .ref (ad q0))] → W p l e ({ frames := 2, cells := 0, slots := 0, locals := 43 } : Room) s m args below meth c H locs 0 0 (QM n sh D cA ad A below args s none w') (F0 m 29 ls [.int x8]) := by
    intro x8 H locs ls hF hI hl
    replace hF := (congrFun ek7 x8).symm.trans hF
    refine lv_istore_n (lv' := [(1, .int x8), (0, .ref (ad q0))]) hx hb dX0_steer_29 rfl hl (by decide) rfl (fun ls hl => ?_)
    refine lv_iconst (v := (0 : Int32)) hx hb dX0_steer_30 (by decide) ?_
    refine lv_istore_n (lv' := [(2, .int (0 : Int32)), (1, .int x8), (0, .ref (ad q0))]) hx hb dX0_steer_31 rfl hl (by decide) rfl (fun ls hl => ?_)
    refine l_X0_steer_32 G h0 (fun w41 H locs ls hF hI hl => ?_) _ _ _ _ _ _ hF hI (lv_sub hl [2, 1, 0] rfl)
    exact n_vret G hI hF rfl dX0_steer_169
  refine lv_icmp_le (tgt := 28) hx hb dX0_steer_21 (by decide) (fun c42 => ?_) (fun c42 => ?_)
  · replace hF := itp c42 hF
    refine lv_iconst (v := (0 : Int32)) hx hb dX0_steer_28 (by decide) ?_
    exact hJ7 _ _ _ _ hF hI (lv_sub hl [0] rfl)
  · replace hF := itn c42 hF
    refine lv_iconst (v := (1 : Int32)) hx hb dX0_steer_24 (by decide) ?_
    refine lv_goto (tgt := 29) hx hb dX0_steer_25 (by decide) ?_
    exact hJ7 _ _ _ _ hF hI (lv_sub hl [0] rfl)
set_option maxHeartbeats 4000000 in
theorem c_X1_ticksOn (hA : AdOk n ad A) {q0 : Nat} (h0 : isX1 n sh q0) {a1 : Int32} {a2 : Int32} {w w' : Mem} {r : Int32} (hF : F_X1_ticksOn q0 a1 a2 w = some (r, w')) : Ctr l n sh D cA ad A sa yX1_ticksOn cX1_ticksOn 3 (some .int) 1 21 [.ref (ad q0), .int a1, .int a2] w (some (.int r)) w' := by
  refine m_enter hA (by decide) (Nat.le_of_ble_eq_true rfl) ?_
  intro p e s m args below meth c ls G hI hl
  replace hl : lv_has ls 3 [(0, .ref (ad q0)), (1, .int a1), (2, .int a2)] := hl
  replace G : Mx n D cA ad A sa p s m args meth c RX1 cX1_ticksOn 3 (some .int) := G
  obtain ⟨hx, hb, -, -, hown, hg, -⟩ := id G
  unfold F_X1_ticksOn at hF
  refine lv_iload_n hx hb dX1_ticksOn_0 rfl (lv_at hl 1 rfl) ?_
  refine lv_aload_n hx hb dX1_ticksOn_1 rfl (lv_at hl 0 rfl) ?_
  refine gf_X1_24 G hI h0 dX1_ticksOn_2 ?_
  refine lv_icmp_lt (tgt := 15) hx hb dX1_ticksOn_5 (by decide) (fun c1 => ?_) (fun c1 => ?_)
  · replace hF := itp c1 hF
    refine lv_iconst (v := (0 : Int32)) hx hb dX1_ticksOn_15 (by decide) ?_
    refine lv_iload_n hx hb dX1_ticksOn_16 rfl (lv_at hl 1 rfl) ?_
    refine lv_iload_n hx hb dX1_ticksOn_17 rfl (lv_at hl 2 rfl) ?_
    refine lv_isub hx hb dX1_ticksOn_18 ?_
    refine n_max G kl_X1_71 (Nat.le_of_ble_eq_true rfl) (Nat.le_of_ble_eq_true rfl) hl.1 dX1_ticksOn_19 ?_
    exact n_iret G hI hF rfl dX1_ticksOn_22
  · replace hF := itn c1 hF
    refine lv_aload_n hx hb dX1_ticksOn_8 rfl (lv_at hl 0 rfl) ?_
    refine gf_X1_24 G hI h0 dX1_ticksOn_9 ?_
    refine lv_goto (tgt := 22) hx hb dX1_ticksOn_12 (by decide) ?_
    exact n_iret G hI hF rfl dX1_ticksOn_22
set_option maxHeartbeats 4000000 in
theorem c_X1_lowerTicks (hA : AdOk n ad A) {q0 : Nat} (h0 : isX1 n sh q0) {a1 : Int32} {w w' : Mem} {r : Int32} (hF : F_X1_lowerTicks q0 a1 w = some (r, w')) : Ctr l n sh D cA ad A sa yX1_lowerTicks cX1_lowerTicks 2 (some .int) 2 43 [.ref (ad q0), .int a1] w (some (.int r)) w' := by
  refine m_enter hA (by decide) (Nat.le_of_ble_eq_true rfl) ?_
  intro p e s m args below meth c ls G hI hl
  replace hl : lv_has ls 2 [(0, .ref (ad q0)), (1, .int a1)] := hl
  replace G : Mx n D cA ad A sa p s m args meth c RX1 cX1_lowerTicks 2 (some .int) := G
  obtain ⟨hx, hb, -, -, hown, hg, -⟩ := id G
  unfold F_X1_lowerTicks at hF
  refine lv_aload_n hx hb dX1_lowerTicks_0 rfl (lv_at hl 0 rfl) ?_
  refine lv_aload_n hx hb dX1_lowerTicks_1 rfl (lv_at hl 0 rfl) ?_
  refine gf_X1_24 G hI h0 dX1_lowerTicks_2 ?_
  refine lv_aload_n hx hb dX1_lowerTicks_5 rfl (lv_at hl 0 rfl) ?_
  refine gf_X1_15 G hI h0 dX1_lowerTicks_6 ?_
  refine lv_iload_n hx hb dX1_lowerTicks_9 rfl (lv_at hl 1 rfl) ?_
  obtain ⟨g1, hF⟩ := gd_some hF
  refine n_ald G hI (isX1.high h0) g1 dX1_lowerTicks_10 ?_
  refine lv_isub hx hb dX1_lowerTicks_11 ?_
  refine lv_aload_n hx hb dX1_lowerTicks_12 rfl (lv_at hl 0 rfl) ?_
  refine gf_X1_28 G hI h0 dX1_lowerTicks_13 ?_
  obtain ⟨r3, w2, z4, hF⟩ := bd_some hF
  refine n_Vi (rest := []) G hI (c_X1_ticksOn hA h0 z4) my_X1_ticksOn kl_X1_76 (isX1.lt h0) (isX1.sh h0) rfl ⟨Nat.le_of_ble_eq_true rfl, Nat.le_of_ble_eq_true rfl⟩ rfl hl.1 rfl (Nat.le_of_ble_eq_true rfl) dX1_lowerTicks_16 (fun H locs hI => ?_)
  exact n_iret G hI hF rfl dX1_lowerTicks_19
set_option maxHeartbeats 4000000 in
theorem c_X1_upperTicks (hA : AdOk n ad A) {q0 : Nat} (h0 : isX1 n sh q0) {a1 : Int32} {w w' : Mem} {r : Int32} (hF : F_X1_upperTicks q0 a1 w = some (r, w')) : Ctr l n sh D cA ad A sa yX1_upperTicks cX1_upperTicks 2 (some .int) 2 43 [.ref (ad q0), .int a1] w (some (.int r)) w' := by
  refine m_enter hA (by decide) (Nat.le_of_ble_eq_true rfl) ?_
  intro p e s m args below meth c ls G hI hl
  replace hl : lv_has ls 2 [(0, .ref (ad q0)), (1, .int a1)] := hl
  replace G : Mx n D cA ad A sa p s m args meth c RX1 cX1_upperTicks 2 (some .int) := G
  obtain ⟨hx, hb, -, -, hown, hg, -⟩ := id G
  unfold F_X1_upperTicks at hF
  refine lv_aload_n hx hb dX1_upperTicks_0 rfl (lv_at hl 0 rfl) ?_
  refine lv_aload_n hx hb dX1_upperTicks_1 rfl (lv_at hl 0 rfl) ?_
  refine gf_X1_15 G hI h0 dX1_upperTicks_2 ?_
  refine lv_iload_n hx hb dX1_upperTicks_5 rfl (lv_at hl 1 rfl) ?_
  obtain ⟨g1, hF⟩ := gd_some hF
  refine n_ald G hI (isX1.high h0) g1 dX1_upperTicks_6 ?_
  refine lv_aload_n hx hb dX1_upperTicks_7 rfl (lv_at hl 0 rfl) ?_
  refine gf_X1_28 G hI h0 dX1_upperTicks_8 ?_
  obtain ⟨r3, w2, z4, hF⟩ := bd_some hF
  refine n_Vi (rest := []) G hI (c_X1_ticksOn hA h0 z4) my_X1_ticksOn kl_X1_76 (isX1.lt h0) (isX1.sh h0) rfl ⟨Nat.le_of_ble_eq_true rfl, Nat.le_of_ble_eq_true rfl⟩ rfl hl.1 rfl (Nat.le_of_ble_eq_true rfl) dX1_upperTicks_11 (fun H locs hI => ?_)
  exact n_iret G hI hF rfl dX1_upperTicks_14
set_option maxHeartbeats 4000000 in
theorem c_X1_mean (hA : AdOk n ad A) {q0 : Nat} (h0 : isX1 n sh q0) {a1 : Int32} {w w' : Mem} {r : Int32} (hF : F_X1_mean q0 a1 w = some (r, w')) : Ctr l n sh D cA ad A sa yX1_mean cX1_mean 2 (some .int) 3 64 [.ref (ad q0), .int a1] w (some (.int r)) w' := by
  refine m_enter hA (by decide) (Nat.le_of_ble_eq_true rfl) ?_
  intro p e s m args below meth c ls G hI hl
  replace hl : lv_has ls 2 [(0, .ref (ad q0)), (1, .int a1)] := hl
  replace G : Mx n D cA ad A sa p s m args meth c RX1 cX1_mean 2 (some .int) := G
  obtain ⟨hx, hb, -, -, hown, hg, -⟩ := id G
  unfold F_X1_mean at hF
  refine lv_aload_n hx hb dX1_mean_0 rfl (lv_at hl 0 rfl) ?_
  refine gf_X1_21 G hI h0 dX1_mean_1 ?_
  refine lv_iload_n hx hb dX1_mean_4 rfl (lv_at hl 1 rfl) ?_
  obtain ⟨g1, hF⟩ := gd_some hF
  refine n_ald G hI (isX1.current h0) g1 dX1_mean_5 ?_
  refine lv_if_ge (tgt := 22) hx hb dX1_mean_6 (by decide) (fun c8 => ?_) (fun c8 => ?_)
  · replace hF := itp c8 hF
    refine lv_aload_n hx hb dX1_mean_22 rfl (lv_at hl 0 rfl) ?_
    refine lv_iload_n hx hb dX1_mean_23 rfl (lv_at hl 1 rfl) ?_
    obtain ⟨r3, w2, z4, hF⟩ := bd_some hF
    refine n_Vi (rest := []) G hI (c_X1_upperTicks hA h0 z4) my_X1_upperTicks kl_X1_79 (isX1.lt h0) (isX1.sh h0) rfl ⟨Nat.le_of_ble_eq_true rfl, Nat.le_of_ble_eq_true rfl⟩ rfl hl.1 rfl (Nat.le_of_ble_eq_true rfl) dX1_mean_24 (fun H locs hI => ?_)
    exact n_iret G hI hF rfl dX1_mean_27
  · replace hF := itn c8 hF
    refine lv_aload_n hx hb dX1_mean_9 rfl (lv_at hl 0 rfl) ?_
    refine gf_X1_24 G hI h0 dX1_mean_10 ?_
    refine lv_aload_n hx hb dX1_mean_13 rfl (lv_at hl 0 rfl) ?_
    refine lv_iload_n hx hb dX1_mean_14 rfl (lv_at hl 1 rfl) ?_
    obtain ⟨r6, w5, z7, hF⟩ := bd_some hF
    refine n_Vi (rest := [.int (w q0 0)]) G hI (c_X1_lowerTicks hA h0 z7) my_X1_lowerTicks kl_X1_82 (isX1.lt h0) (isX1.sh h0) rfl ⟨Nat.le_of_ble_eq_true rfl, Nat.le_of_ble_eq_true rfl⟩ rfl hl.1 rfl (Nat.le_of_ble_eq_true rfl) dX1_mean_15 (fun H locs hI => ?_)
    refine lv_isub hx hb dX1_mean_18 ?_
    refine lv_goto (tgt := 27) hx hb dX1_mean_19 (by decide) ?_
    exact n_iret G hI hF rfl dX1_mean_27
set_option maxHeartbeats 4000000 in
theorem l_X0_moveCurrents_29 {p : Program} {e : Env} {s : State} {m : MethodId} {args : Array Value} {below : List Frame} {meth : Method} {c : Code} (G : Mx n D cA ad A sa p s m args meth c RX0 cX0_moveCurrents 4 none) {q0 : Nat} {a1 : Int32} (h0 : isX0 n sh q0) {k : Mem → Option (Unit × Mem)} {r : Unit} {w' : Mem}
    (hk : ∀  (w : Mem) (H : Heap) (locs : List Loc) (ls : Array Slot), k  w = some (r, w') → Iv n sh D cA ad A s.heap w H locs → lv_has ls 4 [] → W p l e ({ frames := 4, cells := 0, slots := 0, locals := 85 } : Room) s m args below meth c H locs 0 0 (QM n sh D cA ad A below args s none w') (F0 m 84 ls [])) :
    ∀ (N : Nat) (v2 : Int32) (w : Mem) (H : Heap) (locs : List Loc) (ls : Array Slot), L_X0_moveCurrents_29 q0 a1 k N v2 w = some (r, w') → Iv n sh D cA ad A s.heap w H locs → lv_has ls 4 [(0, .ref (ad q0)), (1, .int a1), (2, .int v2)] → W p l e ({ frames := 4, cells := 0, slots := 0, locals := 85 } : Room) s m args below meth c H locs 0 0 (QM n sh D cA ad A below args s none w') (F0 m 29 ls []) := by
  obtain ⟨hx, hb, -, -, hown, hg, -, -, -, -, hA⟩ := id G
  intro N
  induction N with
  | zero =>
    intro v2 w H locs ls hF hI hl
    cases hF
  | succ N ih =>
    intro v2 w H locs ls hF hI hl
    rw [L_X0_moveCurrents_29] at hF
    refine lv_iload_n hx hb dX0_moveCurrents_29 rfl (lv_at hl 2 rfl) ?_
    refine lv_iconst (v := (3 : Int32)) hx hb dX0_moveCurrents_30 (by decide) ?_
    refine lv_icmp_ge (tgt := 84) hx hb dX0_moveCurrents_31 (by decide) (fun c20 => ?_) (fun c20 => ?_)
    · replace hF := itp c20 hF
      exact hk _ _ _ _ hF hI (lv_sub hl [] rfl)
    · replace hF := itn c20 hF
      refine lv_aload_n hx hb dX0_moveCurrents_34 rfl (lv_at hl 0 rfl) ?_
      refine gf_X0_18 G hI h0 dX0_moveCurrents_35 ?_
      refine lv_iload_n hx hb dX0_moveCurrents_38 rfl (lv_at hl 2 rfl) ?_
      obtain ⟨g10, hF⟩ := gd_some hF
      refine n_ald G hI (isX0.current h0) g10 dX0_moveCurrents_39 ?_
      refine lv_iconst (v := (3 : Int32)) hx hb dX0_moveCurrents_40 (by decide) ?_
      refine lv_aload_n hx hb dX0_moveCurrents_41 rfl (lv_at hl 0 rfl) ?_
      refine gf_X0_39 G hI h0 dX0_moveCurrents_42 ?_
      refine lv_iload_n hx hb dX0_moveCurrents_45 rfl (lv_at hl 2 rfl) ?_
      obtain ⟨r12, w11, z13, hF⟩ := bd_some hF
      refine n_Vi (rest := [.int (3 : Int32), .int (w (q0 + 3) (ix v2))]) G hI (c_X1_mean hA (isX0.plan h0) z13) my_X1_mean kl_X0_114 (isX1.lt (isX0.plan h0)) (isX1.sh (isX0.plan h0)) rfl ⟨Nat.le_of_ble_eq_true rfl, Nat.le_of_ble_eq_true rfl⟩ rfl hl.1 rfl (Nat.le_of_ble_eq_true rfl) dX0_moveCurrents_46 (fun H locs hI => ?_)
      refine lv_imul hx hb dX0_moveCurrents_49 ?_
      refine lv_iload_n hx hb dX0_moveCurrents_50 rfl (lv_at hl 1 rfl) ?_
      refine lv_isub hx hb dX0_moveCurrents_51 ?_
      refine lv_bipush (v := (6 : Int32)) hx hb dX0_moveCurrents_52 (by decide) ?_
      refine n_idiv G (by decide) dX0_moveCurrents_54 ?_
      refine lv_iadd hx hb dX0_moveCurrents_55 ?_
      obtain ⟨x14, ex14, hF⟩ := lt_some hF
      refine W.eq (g2 := F0 m 56 ls [.int x14]) (by rw [ex14]) ?_
      refine lv_istore_n (lv' := [(3, .int x14), (0, .ref (ad q0)), (1, .int a1), (2, .int v2)]) hx hb dX0_moveCurrents_56 rfl hl (by decide) rfl (fun ls hl => ?_)
      refine lv_aload_n hx hb dX0_moveCurrents_57 rfl (lv_at hl 1 rfl) ?_
      refine gf_X0_18 G hI h0 dX0_moveCurrents_58 ?_
      refine lv_iload_n hx hb dX0_moveCurrents_61 rfl (lv_at hl 3 rfl) ?_
      refine lv_iload_n hx hb dX0_moveCurrents_62 rfl (lv_at hl 0 rfl) ?_
      refine lv_iload_n hx hb dX0_moveCurrents_63 rfl (lv_at hl 0 rfl) ?_
      refine lv_bipush (v := (8 : Int32)) hx hb dX0_moveCurrents_64 (by decide) ?_
      refine n_idiv G (by decide) dX0_moveCurrents_66 ?_
      refine lv_isub hx hb dX0_moveCurrents_67 ?_
      refine lv_sipush (v := (-999 : Int32)) hx hb dX0_moveCurrents_68 (by decide) ?_
      refine lv_sipush (v := (999 : Int32)) hx hb dX0_moveCurrents_71 (by decide) ?_
      obtain ⟨r16, w15, z17, hF⟩ := bd_some hF
      refine n_SNi (rest := [.int v2, .ref (ad (q0 + 3))]) (host := "DriveTicks") G hI (c_X6_pulledWithin hA  z17) my_X6_pulledWithin (by decide) ⟨Nat.le_of_ble_eq_true rfl, Nat.le_of_ble_eq_true rfl⟩ rfl hl.1 rfl (Nat.le_of_ble_eq_true rfl) dX0_moveCurrents_74 (fun H locs hI => ?_)
      obtain ⟨g18, hF⟩ := gd_some hF
      obtain ⟨w19, ew19, hF⟩ := lt_some hF
      refine n_ast G hI (isX0.current h0) g18 dX0_moveCurrents_77 (fun H locs hI => ?_)
      replace hI : Iv n sh D cA ad A s.heap w19 H locs := by rw [ew19]; exact hI
      refine lv_iinc (v := (v2 + (1 : Int32))) (lv' := [(2, .int (v2 + (1 : Int32))), (3, .int x14), (0, .ref (ad q0)), (1, .int a1)]) hx hb dX0_moveCurrents_78 hl (k := 3) rfl rfl (by decide) rfl (fun ls hl => ?_)
      refine lv_goto (tgt := 29) hx hb dX0_moveCurrents_81 (by decide) ?_
      exact ih _ _ _ _ _ hF hI (lv_sub hl [2, 3, 0] rfl)
set_option maxHeartbeats 4000000 in
theorem c_X0_moveCurrents (hA : AdOk n ad A) {q0 : Nat} (h0 : isX0 n sh q0) {w w' : Mem} {r : Unit} (hF : F_X0_moveCurrents q0 w = some (r, w')) : Ctr l n sh D cA ad A sa yX0_moveCurrents cX0_moveCurrents 4 none 4 85 [.ref (ad q0)] w none w' := by
  refine m_enter hA (by decide) (Nat.le_of_ble_eq_true rfl) ?_
  intro p e s m args below meth c ls G hI hl
  replace hl : lv_has ls 4 [(0, .ref (ad q0))] := hl
  replace G : Mx n D cA ad A sa p s m args meth c RX0 cX0_moveCurrents 4 none := G
  obtain ⟨hx, hb, -, -, hown, hg, -⟩ := id G
  unfold F_X0_moveCurrents at hF
  refine lv_aload_n hx hb dX0_moveCurrents_0 rfl (lv_at hl 0 rfl) ?_
  refine gf_X0_39 G hI h0 dX0_moveCurrents_1 ?_
  refine lv_iconst (v := (0 : Int32)) hx hb dX0_moveCurrents_4 (by decide) ?_
  obtain ⟨r2, w1, z3, hF⟩ := bd_some hF
  refine n_Vi (rest := []) G hI (c_X1_mean hA (isX0.plan h0) z3) my_X1_mean kl_X0_114 (isX1.lt (isX0.plan h0)) (isX1.sh (isX0.plan h0)) rfl ⟨Nat.le_of_ble_eq_true rfl, Nat.le_of_ble_eq_true rfl⟩ rfl hl.1 rfl (Nat.le_of_ble_eq_true rfl) dX0_moveCurrents_5 (fun H locs hI => ?_)
  refine lv_aload_n hx hb dX0_moveCurrents_8 rfl (lv_at hl 0 rfl) ?_
  refine gf_X0_39 G hI h0 dX0_moveCurrents_9 ?_
  refine lv_iconst (v := (1 : Int32)) hx hb dX0_moveCurrents_12 (by decide) ?_
  obtain ⟨r5, w4, z6, hF⟩ := bd_some hF
  refine n_Vi (rest := [.int r2]) G hI (c_X1_mean hA (isX0.plan h0) z6) my_X1_mean kl_X0_114 (isX1.lt (isX0.plan h0)) (isX1.sh (isX0.plan h0)) rfl ⟨Nat.le_of_ble_eq_true rfl, Nat.le_of_ble_eq_true rfl⟩ rfl hl.1 rfl (Nat.le_of_ble_eq_true rfl) dX0_moveCurrents_13 (fun H locs hI => ?_)
  refine lv_iadd hx hb dX0_moveCurrents_16 ?_
  refine lv_aload_n hx hb dX0_moveCurrents_17 rfl (lv_at hl 0 rfl) ?_
  refine gf_X0_39 G hI h0 dX0_moveCurrents_18 ?_
  refine lv_iconst (v := (2 : Int32)) hx hb dX0_moveCurrents_21 (by decide) ?_
  obtain ⟨r8, w7, z9, hF⟩ := bd_some hF
  refine n_Vi (rest := [.int (r2 + r5)]) G hI (c_X1_mean hA (isX0.plan h0) z9) my_X1_mean kl_X0_114 (isX1.lt (isX0.plan h0)) (isX1.sh (isX0.plan h0)) rfl ⟨Nat.le_of_ble_eq_true rfl, Nat.le_of_ble_eq_true rfl⟩ rfl hl.1 rfl (Nat.le_of_ble_eq_true rfl) dX0_moveCurrents_22 (fun H locs hI => ?_)
  refine lv_iadd hx hb dX0_moveCurrents_25 ?_
  refine lv_istore_n (lv' := [(1, .int ((r2 + r5) + r8)), (0, .ref (ad q0))]) hx hb dX0_moveCurrents_26 rfl hl (by decide) rfl (fun ls hl => ?_)
  refine lv_iconst (v := (0 : Int32)) hx hb dX0_moveCurrents_27 (by decide) ?_
  refine lv_istore_n (lv' := [(2, .int (0 : Int32)), (1, .int ((r2 + r5) + r8)), (0, .ref (ad q0))]) hx hb dX0_moveCurrents_28 rfl hl (by decide) rfl (fun ls hl => ?_)
  refine l_X0_moveCurrents_29 G h0 (fun w21 H locs ls hF hI hl => ?_) _ _ _ _ _ _ hF hI (lv_sub hl [2, 1, 0] rfl)
  exact n_vret G hI hF rfl dX0_moveCurrents_84
end WK1
