/-! walks, by program (wip/gen/walk.py): X6_pulledWithin, X4_cutTo, X0_beginAnew, X4_isFull, X4_add, X4_addAll, X0_becomeLike, X6_greatestOf, X6_leastOf, X1_demandThatCounts, X1_highWithDead, X1_make -/
section WK0
variable {n : Nat} {sh : Nat → Shp} {D : va_G} {cA : ClassId} {ad : Nat → Nat} {A : Nat → Prop} {sa : Nat → Nat} {l : Launch}
set_option maxHeartbeats 4000000 in
theorem c_X6_pulledWithin (hA : AdOk n ad A) {a0 : Int32} {a1 : Int32} {a2 : Int32} {w w' : Mem} {r : Int32} (hF : F_X6_pulledWithin a0 a1 a2 w = some (r, w')) : Ctr l n sh D cA ad A sa yX6_pulledWithin cX6_pulledWithin 3 (some .int) 1 21 [.int a0, .int a1, .int a2] w (some (.int r)) w' := by
  refine m_enter hA (by decide) (Nat.le_of_ble_eq_true rfl) ?_
  intro p e s m args below meth c ls G hI hl
  replace hl : lv_has ls 3 [(0, .int a0), (1, .int a1), (2, .int a2)] := hl
  replace G : Mx n D cA ad A sa p s m args meth c RX6 cX6_pulledWithin 3 (some .int) := G
  obtain ⟨hx, hb, -, -, hown, hg, -⟩ := id G
  unfold F_X6_pulledWithin at hF
  refine lv_iload_n hx hb dX6_pulledWithin_0 rfl (lv_at hl 1 rfl) ?_
  refine lv_iload_n hx hb dX6_pulledWithin_1 rfl (lv_at hl 2 rfl) ?_
  refine lv_iload_n hx hb dX6_pulledWithin_2 rfl (lv_at hl 0 rfl) ?_
  refine n_min G kl_X6_256 (Nat.le_of_ble_eq_true rfl) (Nat.le_of_ble_eq_true rfl) hl.1 dX6_pulledWithin_3 ?_
  refine n_max G kl_X6_276 (Nat.le_of_ble_eq_true rfl) (Nat.le_of_ble_eq_true rfl) hl.1 dX6_pulledWithin_6 ?_
  exact n_iret G hI hF rfl dX6_pulledWithin_9
set_option maxHeartbeats 4000000 in
theorem c_X4_cutTo (hA : AdOk n ad A) {q0 : Nat} (h0 : isX4 n sh q0) {a1 : Int32} {w w' : Mem} {r : Unit} (hF : F_X4_cutTo q0 a1 w = some (r, w')) : Ctr l n sh D cA ad A sa yX4_cutTo cX4_cutTo 2 none 2 43 [.ref (ad q0), .int a1] w none w' := by
  refine m_enter hA (by decide) (Nat.le_of_ble_eq_true rfl) ?_
  intro p e s m args below meth c ls G hI hl
  replace hl : lv_has ls 2 [(0, .ref (ad q0)), (1, .int a1)] := hl
  replace G : Mx n D cA ad A sa p s m args meth c RX4 cX4_cutTo 2 none := G
  obtain ⟨hx, hb, -, -, hown, hg, -⟩ := id G
  unfold F_X4_cutTo at hF
  refine lv_aload_n hx hb dX4_cutTo_0 rfl (lv_at hl 0 rfl) ?_
  refine lv_iload_n hx hb dX4_cutTo_1 rfl (lv_at hl 1 rfl) ?_
  refine lv_iconst (v := (0 : Int32)) hx hb dX4_cutTo_2 (by decide) ?_
  refine lv_aload_n hx hb dX4_cutTo_3 rfl (lv_at hl 0 rfl) ?_
  refine gf_X4_25 G hI h0 dX4_cutTo_4 ?_
  obtain ⟨r2, w1, z3, hF⟩ := bd_some hF
  refine n_SNi (rest := [.ref (ad q0)]) (host := "DriveTicks") G hI (c_X6_pulledWithin hA  z3) my_X6_pulledWithin (by decide) ⟨Nat.le_of_ble_eq_true rfl, Nat.le_of_ble_eq_true rfl⟩ rfl hl.1 rfl (Nat.le_of_ble_eq_true rfl) dX4_cutTo_7 (fun H locs hI => ?_)
  obtain ⟨w4, ew4, hF⟩ := lt_some hF
  refine pf_X4_25 G hI h0 dX4_cutTo_10 (fun H locs hI => ?_)
  replace hI : Iv n sh D cA ad A s.heap w4 H locs := by rw [ew4]; exact hI
  exact n_vret G hI hF rfl dX4_cutTo_13
set_option maxHeartbeats 4000000 in
theorem l_X0_beginAnew_16 {p : Program} {e : Env} {s : State} {m : MethodId} {args : Array Value} {below : List Frame} {meth : Method} {c : Code} (G : Mx n D cA ad A sa p s m args meth c RX0 cX0_beginAnew 2 none) {q0 : Nat} (h0 : isX0 n sh q0) {k : Mem → Option (Unit × Mem)} {r : Unit} {w' : Mem}
    (hk : ∀  (w : Mem) (H : Heap) (locs : List Loc) (ls : Array Slot), k  w = some (r, w') → Iv n sh D cA ad A s.heap w H locs → lv_has ls 2 [(0, .ref (ad q0))] → W p l e ({ frames := 3, cells := 0, slots := 0, locals := 64 } : Room) s m args below meth c H locs 0 0 (QM n sh D cA ad A below args s none w') (F0 m 55 ls [])) :
    ∀ (N : Nat) (v1 : Int32) (w : Mem) (H : Heap) (locs : List Loc) (ls : Array Slot), L_X0_beginAnew_16 q0 k N v1 w = some (r, w') → Iv n sh D cA ad A s.heap w H locs → lv_has ls 2 [(0, .ref (ad q0)), (1, .int v1)] → W p l e ({ frames := 3, cells := 0, slots := 0, locals := 64 } : Room) s m args below meth c H locs 0 0 (QM n sh D cA ad A below args s none w') (F0 m 16 ls []) := by
  obtain ⟨hx, hb, -, -, hown, hg, -, -, -, -, hA⟩ := id G
  intro N
  induction N with
  | zero =>
    intro v1 w H locs ls hF hI hl
    cases hF
  | succ N ih =>
    intro v1 w H locs ls hF hI hl
    rw [L_X0_beginAnew_16] at hF
    refine lv_iload_n hx hb dX0_beginAnew_16 rfl (lv_at hl 1 rfl) ?_
    refine lv_iconst (v := (3 : Int32)) hx hb dX0_beginAnew_17 (by decide) ?_
    refine lv_icmp_ge (tgt := 55) hx hb dX0_beginAnew_18 (by decide) (fun c10 => ?_) (fun c10 => ?_)
    · replace hF := itp c10 hF
      exact hk _ _ _ _ hF hI (lv_sub hl [0] rfl)
    · replace hF := itn c10 hF
      refine lv_aload_n hx hb dX0_beginAnew_21 rfl (lv_at hl 0 rfl) ?_
      refine gf_X0_15 G hI h0 dX0_beginAnew_22 ?_
      refine lv_iload_n hx hb dX0_beginAnew_25 rfl (lv_at hl 1 rfl) ?_
      refine lv_iconst (v := (0 : Int32)) hx hb dX0_beginAnew_26 (by decide) ?_
      obtain ⟨g2, hF⟩ := gd_some hF
      obtain ⟨w3, ew3, hF⟩ := lt_some hF
      refine n_ast G hI (isX0.demand h0) g2 dX0_beginAnew_27 (fun H locs hI => ?_)
      replace hI : Iv n sh D cA ad A s.heap w3 H locs := by rw [ew3]; exact hI
      refine lv_aload_n hx hb dX0_beginAnew_28 rfl (lv_at hl 0 rfl) ?_
      refine gf_X0_18 G hI h0 dX0_beginAnew_29 ?_
      refine lv_iload_n hx hb dX0_beginAnew_32 rfl (lv_at hl 1 rfl) ?_
      refine lv_iconst (v := (0 : Int32)) hx hb dX0_beginAnew_33 (by decide) ?_
      obtain ⟨g4, hF⟩ := gd_some hF
      obtain ⟨w5, ew5, hF⟩ := lt_some hF
      refine n_ast G hI (isX0.current h0) g4 dX0_beginAnew_34 (fun H locs hI => ?_)
      replace hI : Iv n sh D cA ad A s.heap w5 H locs := by rw [ew5]; exact hI
      refine lv_aload_n hx hb dX0_beginAnew_35 rfl (lv_at hl 0 rfl) ?_
      refine gf_X0_21 G hI h0 dX0_beginAnew_36 ?_
      refine lv_iload_n hx hb dX0_beginAnew_39 rfl (lv_at hl 1 rfl) ?_
      refine lv_iconst (v := (0 : Int32)) hx hb dX0_beginAnew_40 (by decide) ?_
      obtain ⟨g6, hF⟩ := gd_some hF
      obtain ⟨w7, ew7, hF⟩ := lt_some hF
      refine n_ast G hI (isX0.want h0) g6 dX0_beginAnew_41 (fun H locs hI => ?_)
      replace hI : Iv n sh D cA ad A s.heap w7 H locs := by rw [ew7]; exact hI
      refine lv_aload_n hx hb dX0_beginAnew_42 rfl (lv_at hl 0 rfl) ?_
      refine gf_X0_24 G hI h0 dX0_beginAnew_43 ?_
      refine lv_iload_n hx hb dX0_beginAnew_46 rfl (lv_at hl 1 rfl) ?_
      refine lv_iconst (v := (0 : Int32)) hx hb dX0_beginAnew_47 (by decide) ?_
      obtain ⟨g8, hF⟩ := gd_some hF
      obtain ⟨w9, ew9, hF⟩ := lt_some hF
      refine n_ast G hI (isX0.sum h0) g8 dX0_beginAnew_48 (fun H locs hI => ?_)
      replace hI : Iv n sh D cA ad A s.heap w9 H locs := by rw [ew9]; exact hI
      refine lv_iinc (v := (v1 + (1 : Int32))) (lv' := [(1, .int (v1 + (1 : Int32))), (0, .ref (ad q0))]) hx hb dX0_beginAnew_49 hl (k := 1) rfl rfl (by decide) rfl (fun ls hl => ?_)
      refine lv_goto (tgt := 16) hx hb dX0_beginAnew_52 (by decide) ?_
      exact ih _ _ _ _ _ hF hI (lv_sub hl [1, 0] rfl)
set_option maxHeartbeats 4000000 in
theorem c_X0_beginAnew (hA : AdOk n ad A) {q0 : Nat} (h0 : isX0 n sh q0) {w w' : Mem} {r : Unit} (hF : F_X0_beginAnew q0 w = some (r, w')) : Ctr l n sh D cA ad A sa yX0_beginAnew cX0_beginAnew 2 none 3 64 [.ref (ad q0)] w none w' := by
  refine m_enter hA (by decide) (Nat.le_of_ble_eq_true rfl) ?_
  intro p e s m args below meth c ls G hI hl
  replace hl : lv_has ls 2 [(0, .ref (ad q0))] := hl
  replace G : Mx n D cA ad A sa p s m args meth c RX0 cX0_beginAnew 2 none := G
  obtain ⟨hx, hb, -, -, hown, hg, -⟩ := id G
  unfold F_X0_beginAnew at hF
  refine m_getsN G hI 0 (by decide) (fun h => h.2.1) dX0_beginAnew_0 ?_
  refine lv_iconst (v := (0 : Int32)) hx hb dX0_beginAnew_3 (by decide) ?_
  refine lv_aload_n hx hb dX0_beginAnew_4 rfl (lv_at hl 0 rfl) ?_
  refine gf_X0_9 G hI h0 dX0_beginAnew_5 ?_
  refine lv_iconst (v := (0 : Int32)) hx hb dX0_beginAnew_8 (by decide) ?_
  refine lv_bipush (v := (7 : Int32)) hx hb dX0_beginAnew_9 (by decide) ?_
  obtain ⟨w1, ew1, hF⟩ := lt_some hF
  refine n_copyS G hI 0 (by decide) (isX0.setting h0) kl_X0_49 (by decide) (Nat.le_of_ble_eq_true rfl) (Nat.le_of_ble_eq_true rfl) hl.1 dX0_beginAnew_11 (fun H locs hI => ?_)
  replace hI : Iv n sh D cA ad A s.heap w1 H locs := by rw [ew1]; exact hI
  refine lv_iconst (v := (0 : Int32)) hx hb dX0_beginAnew_14 (by decide) ?_
  refine lv_istore_n (lv' := [(1, .int (0 : Int32)), (0, .ref (ad q0))]) hx hb dX0_beginAnew_15 rfl hl (by decide) rfl (fun ls hl => ?_)
  refine l_X0_beginAnew_16 G h0 (fun w11 H locs ls hF hI hl => ?_) _ _ _ _ _ _ hF hI (lv_sub hl [1, 0] rfl)
  refine lv_aload_n hx hb dX0_beginAnew_55 rfl (lv_at hl 0 rfl) ?_
  refine gf_X0_32 G hI h0 dX0_beginAnew_56 ?_
  refine lv_iconst (v := (0 : Int32)) hx hb dX0_beginAnew_59 (by decide) ?_
  obtain ⟨r13, w12, z14, hF⟩ := bd_some hF
  refine n_Vv (rest := []) G hI (c_X4_cutTo hA (isX0.wishes h0) z14) my_X4_cutTo kl_X0_55 (isX4.lt (isX0.wishes h0)) (isX4.sh (isX0.wishes h0)) rfl ⟨Nat.le_of_ble_eq_true rfl, Nat.le_of_ble_eq_true rfl⟩ rfl hl.1 rfl (Nat.le_of_ble_eq_true rfl) dX0_beginAnew_60 (fun H locs hI => ?_)
  refine lv_aload_n hx hb dX0_beginAnew_63 rfl (lv_at hl 0 rfl) ?_
  refine lv_iconst (v := (0 : Int32)) hx hb dX0_beginAnew_64 (by decide) ?_
  obtain ⟨w15, ew15, hF⟩ := lt_some hF
  refine pf_X0_58 G hI h0 dX0_beginAnew_65 (fun H locs hI => ?_)
  replace hI : Iv n sh D cA ad A s.heap w15 H locs := by rw [ew15]; exact hI
  exact n_vret G hI hF rfl dX0_beginAnew_68
set_option maxHeartbeats 4000000 in
theorem c_X4_isFull (hA : AdOk n ad A) {q0 : Nat} (h0 : isX4 n sh q0) {w w' : Mem} {r : Int32} (hF : F_X4_isFull q0 w = some (r, w')) : Ctr l n sh D cA ad A sa yX4_isFull cX4_isFull 1 (some .boolean) 0 0 [.ref (ad q0)] w (some (.int r)) w' := by
  refine m_enter hA (by decide) (Nat.le_of_ble_eq_true rfl) ?_
  intro p e s m args below meth c ls G hI hl
  replace hl : lv_has ls 1 [(0, .ref (ad q0))] := hl
  replace G : Mx n D cA ad A sa p s m args meth c RX4 cX4_isFull 1 (some .boolean) := G
  obtain ⟨hx, hb, -, -, hown, hg, -⟩ := id G
  unfold F_X4_isFull at hF
  refine lv_aload_n hx hb dX4_isFull_0 rfl (lv_at hl 0 rfl) ?_
  refine gf_X4_25 G hI h0 dX4_isFull_1 ?_
  refine lv_aload_n hx hb dX4_isFull_4 rfl (lv_at hl 0 rfl) ?_
  refine gf_X4_15 G hI h0 dX4_isFull_5 ?_
  refine lv_icmp_lt (tgt := 15) hx hb dX4_isFull_8 (by decide) (fun c1 => ?_) (fun c1 => ?_)
  · replace hF := itp c1 hF
    refine lv_iconst (v := (0 : Int32)) hx hb dX4_isFull_15 (by decide) ?_
    exact n_zret G hI (by decide) hF rfl dX4_isFull_16
  · replace hF := itn c1 hF
    refine lv_iconst (v := (1 : Int32)) hx hb dX4_isFull_11 (by decide) ?_
    refine lv_goto (tgt := 16) hx hb dX4_isFull_12 (by decide) ?_
    exact n_zret G hI (by decide) hF rfl dX4_isFull_16
set_option maxHeartbeats 4000000 in
theorem c_X4_add (hA : AdOk n ad A) {q0 : Nat} (h0 : isX4 n sh q0) {a1 : Int32} {a2 : Int32} {a3 : Int32} {a4 : Int32} {w w' : Mem} {r : Unit} (hF : F_X4_add q0 a1 a2 a3 a4 w = some (r, w')) : Ctr l n sh D cA ad A sa yX4_add cX4_add 6 none 1 20 [.ref (ad q0), .int a1, .int a2, .int a3, .int a4] w none w' := by
  refine m_enter hA (by decide) (Nat.le_of_ble_eq_true rfl) ?_
  intro p e s m args below meth c ls G hI hl
  replace hl : lv_has ls 6 [(0, .ref (ad q0)), (1, .int a1), (2, .int a2), (3, .int a3), (4, .int a4)] := hl
  replace G : Mx n D cA ad A sa p s m args meth c RX4 cX4_add 6 none := G
  obtain ⟨hx, hb, -, -, hown, hg, -⟩ := id G
  unfold F_X4_add at hF
  refine lv_aload_n hx hb dX4_add_0 rfl (lv_at hl 0 rfl) ?_
  obtain ⟨r2, w1, z3, hF⟩ := bd_some hF
  refine n_Vi (rest := []) G hI (c_X4_isFull hA h0 z3) my_X4_isFull kl_X4_28 (isX4.lt h0) (isX4.sh h0) rfl ⟨Nat.le_of_ble_eq_true rfl, Nat.le_of_ble_eq_true rfl⟩ rfl hl.1 rfl (Nat.le_of_ble_eq_true rfl) dX4_add_1 (fun H locs hI => ?_)
  refine lv_if_eq (tgt := 8) hx hb dX4_add_4 (by decide) (fun c14 => ?_) (fun c14 => ?_)
  · replace hF := itp c14 hF
    refine lv_aload_n hx hb dX4_add_8 rfl (lv_at hl 0 rfl) ?_
    refine gf_X4_25 G hI h0 dX4_add_9 ?_
    refine lv_iconst (v := (4 : Int32)) hx hb dX4_add_12 (by decide) ?_
    refine lv_imul hx hb dX4_add_13 ?_
    obtain ⟨x4, ex4, hF⟩ := lt_some hF
    refine W.eq (g2 := F0 m 14 ls [.int x4]) (by rw [ex4]) ?_
    refine lv_istore (lv' := [(5, .int x4), (0, .ref (ad q0)), (1, .int a1), (2, .int a2), (3, .int a3), (4, .int a4)]) hx hb dX4_add_14 hl (by decide) rfl (fun ls hl => ?_)
    refine lv_aload_n hx hb dX4_add_16 rfl (lv_at hl 1 rfl) ?_
    refine gf_X4_21 G hI h0 dX4_add_17 ?_
    refine lv_iload hx hb dX4_add_20 (lv_at hl 0 rfl) ?_
    refine lv_iload_n hx hb dX4_add_22 rfl (lv_at hl 2 rfl) ?_
    obtain ⟨g5, hF⟩ := gd_some hF
    obtain ⟨w6, ew6, hF⟩ := lt_some hF
    refine n_ast G hI (isX4.cells h0) g5 dX4_add_23 (fun H locs hI => ?_)
    replace hI : Iv n sh D cA ad A s.heap w6 H locs := by rw [ew6]; exact hI
    refine lv_aload_n hx hb dX4_add_24 rfl (lv_at hl 1 rfl) ?_
    refine gf_X4_21 G hI h0 dX4_add_25 ?_
    refine lv_iload hx hb dX4_add_28 (lv_at hl 0 rfl) ?_
    refine lv_iconst (v := (1 : Int32)) hx hb dX4_add_30 (by decide) ?_
    refine lv_iadd hx hb dX4_add_31 ?_
    refine lv_iload_n hx hb dX4_add_32 rfl (lv_at hl 3 rfl) ?_
    obtain ⟨g7, hF⟩ := gd_some hF
    obtain ⟨w8, ew8, hF⟩ := lt_some hF
    refine n_ast G hI (isX4.cells h0) g7 dX4_add_33 (fun H locs hI => ?_)
    replace hI : Iv n sh D cA ad A s.heap w8 H locs := by rw [ew8]; exact hI
    refine lv_aload_n hx hb dX4_add_34 rfl (lv_at hl 1 rfl) ?_
    refine gf_X4_21 G hI h0 dX4_add_35 ?_
    refine lv_iload hx hb dX4_add_38 (lv_at hl 0 rfl) ?_
    refine lv_iconst (v := (2 : Int32)) hx hb dX4_add_40 (by decide) ?_
    refine lv_iadd hx hb dX4_add_41 ?_
    refine lv_iload_n hx hb dX4_add_42 rfl (lv_at hl 4 rfl) ?_
    obtain ⟨g9, hF⟩ := gd_some hF
    obtain ⟨w10, ew10, hF⟩ := lt_some hF
    refine n_ast G hI (isX4.cells h0) g9 dX4_add_43 (fun H locs hI => ?_)
    replace hI : Iv n sh D cA ad A s.heap w10 H locs := by rw [ew10]; exact hI
    refine lv_aload_n hx hb dX4_add_44 rfl (lv_at hl 1 rfl) ?_
    refine gf_X4_21 G hI h0 dX4_add_45 ?_
    refine lv_iload hx hb dX4_add_48 (lv_at hl 0 rfl) ?_
    refine lv_iconst (v := (3 : Int32)) hx hb dX4_add_50 (by decide) ?_
    refine lv_iadd hx hb dX4_add_51 ?_
    refine lv_iload hx hb dX4_add_52 (lv_at hl 5 rfl) ?_
    obtain ⟨g11, hF⟩ := gd_some hF
    obtain ⟨w12, ew12, hF⟩ := lt_some hF
    refine n_ast G hI (isX4.cells h0) g11 dX4_add_54 (fun H locs hI => ?_)
    replace hI : Iv n sh D cA ad A s.heap w12 H locs := by rw [ew12]; exact hI
    refine lv_aload_n hx hb dX4_add_55 rfl (lv_at hl 1 rfl) ?_
    refine lv_dup hx hb dX4_add_56 rfl ?_
    refine gf_X4_25 G hI h0 dX4_add_57 ?_
    refine lv_iconst (v := (1 : Int32)) hx hb dX4_add_60 (by decide) ?_
    refine lv_iadd hx hb dX4_add_61 ?_
    obtain ⟨w13, ew13, hF⟩ := lt_some hF
    refine pf_X4_25 G hI h0 dX4_add_62 (fun H locs hI => ?_)
    replace hI : Iv n sh D cA ad A s.heap w13 H locs := by rw [ew13]; exact hI
    exact n_vret G hI hF rfl dX4_add_65
  · replace hF := itn c14 hF
    exact n_vret G hI hF rfl dX4_add_7
set_option maxHeartbeats 4000000 in
theorem l_X4_addAll_2 {p : Program} {e : Env} {s : State} {m : MethodId} {args : Array Value} {below : List Frame} {meth : Method} {c : Code} (G : Mx n D cA ad A sa p s m args meth c RX4 cX4_addAll 4 none) {q0 : Nat} {q1 : Nat} (h0 : isX4 n sh q0) (h1 : isX4 n sh q1) {k : Mem → Option (Unit × Mem)} {r : Unit} {w' : Mem}
    (hk : ∀  (w : Mem) (H : Heap) (locs : List Loc) (ls : Array Slot), k  w = some (r, w') → Iv n sh D cA ad A s.heap w H locs → lv_has ls 4 [] → W p l e ({ frames := 2, cells := 0, slots := 0, locals := 45 } : Room) s m args below meth c H locs 0 0 (QM n sh D cA ad A below args s none w') (F0 m 54 ls [])) :
    ∀ (N : Nat) (v2 : Int32) (w : Mem) (H : Heap) (locs : List Loc) (ls : Array Slot), L_X4_addAll_2 q0 q1 k N v2 w = some (r, w') → Iv n sh D cA ad A s.heap w H locs → lv_has ls 4 [(0, .ref (ad q0)), (1, .ref (ad q1)), (2, .int v2)] → W p l e ({ frames := 2, cells := 0, slots := 0, locals := 45 } : Room) s m args below meth c H locs 0 0 (QM n sh D cA ad A below args s none w') (F0 m 2 ls []) := by
  obtain ⟨hx, hb, -, -, hown, hg, -, -, -, -, hA⟩ := id G
  intro N
  induction N with
  | zero =>
    intro v2 w H locs ls hF hI hl
    cases hF
  | succ N ih =>
    intro v2 w H locs ls hF hI hl
    rw [L_X4_addAll_2] at hF
    refine lv_iload_n hx hb dX4_addAll_2 rfl (lv_at hl 2 rfl) ?_
    refine lv_aload_n hx hb dX4_addAll_3 rfl (lv_at hl 1 rfl) ?_
    refine gf_X4_25 G hI h1 dX4_addAll_4 ?_
    refine lv_icmp_ge (tgt := 54) hx hb dX4_addAll_7 (by decide) (fun c8 => ?_) (fun c8 => ?_)
    · replace hF := itp c8 hF
      exact hk _ _ _ _ hF hI (lv_sub hl [] rfl)
    · replace hF := itn c8 hF
      refine lv_iload_n hx hb dX4_addAll_10 rfl (lv_at hl 2 rfl) ?_
      refine lv_iconst (v := (4 : Int32)) hx hb dX4_addAll_11 (by decide) ?_
      refine lv_imul hx hb dX4_addAll_12 ?_
      refine lv_istore_n (lv' := [(3, .int (v2 * (4 : Int32))), (0, .ref (ad q0)), (1, .ref (ad q1)), (2, .int v2)]) hx hb dX4_addAll_13 rfl hl (by decide) rfl (fun ls hl => ?_)
      refine lv_aload_n hx hb dX4_addAll_14 rfl (lv_at hl 1 rfl) ?_
      refine lv_aload_n hx hb dX4_addAll_15 rfl (lv_at hl 2 rfl) ?_
      refine gf_X4_21 G hI h1 dX4_addAll_16 ?_
      refine lv_iload_n hx hb dX4_addAll_19 rfl (lv_at hl 0 rfl) ?_
      obtain ⟨g1, hF⟩ := gd_some hF
      refine n_ald G hI (isX4.cells h1) g1 dX4_addAll_20 ?_
      refine lv_aload_n hx hb dX4_addAll_21 rfl (lv_at hl 2 rfl) ?_
      refine gf_X4_21 G hI h1 dX4_addAll_22 ?_
      refine lv_iload_n hx hb dX4_addAll_25 rfl (lv_at hl 0 rfl) ?_
      refine lv_iconst (v := (1 : Int32)) hx hb dX4_addAll_26 (by decide) ?_
      refine lv_iadd hx hb dX4_addAll_27 ?_
      obtain ⟨g2, hF⟩ := gd_some hF
      refine n_ald G hI (isX4.cells h1) g2 dX4_addAll_28 ?_
      refine lv_aload_n hx hb dX4_addAll_29 rfl (lv_at hl 2 rfl) ?_
      refine gf_X4_21 G hI h1 dX4_addAll_30 ?_
      refine lv_iload_n hx hb dX4_addAll_33 rfl (lv_at hl 0 rfl) ?_
      refine lv_iconst (v := (2 : Int32)) hx hb dX4_addAll_34 (by decide) ?_
      refine lv_iadd hx hb dX4_addAll_35 ?_
      obtain ⟨g3, hF⟩ := gd_some hF
      refine n_ald G hI (isX4.cells h1) g3 dX4_addAll_36 ?_
      refine lv_aload_n hx hb dX4_addAll_37 rfl (lv_at hl 2 rfl) ?_
      refine gf_X4_21 G hI h1 dX4_addAll_38 ?_
      refine lv_iload_n hx hb dX4_addAll_41 rfl (lv_at hl 0 rfl) ?_
      refine lv_iconst (v := (3 : Int32)) hx hb dX4_addAll_42 (by decide) ?_
      refine lv_iadd hx hb dX4_addAll_43 ?_
      obtain ⟨g4, hF⟩ := gd_some hF
      refine n_ald G hI (isX4.cells h1) g4 dX4_addAll_44 ?_
      obtain ⟨r6, w5, z7, hF⟩ := bd_some hF
      refine n_Vv (rest := []) G hI (c_X4_add hA h0 z7) my_X4_add kl_X4_32 (isX4.lt h0) (isX4.sh h0) rfl ⟨Nat.le_of_ble_eq_true rfl, Nat.le_of_ble_eq_true rfl⟩ rfl hl.1 rfl (Nat.le_of_ble_eq_true rfl) dX4_addAll_45 (fun H locs hI => ?_)
      refine lv_iinc (v := (v2 + (1 : Int32))) (lv' := [(2, .int (v2 + (1 : Int32))), (3, .int (v2 * (4 : Int32))), (0, .ref (ad q0)), (1, .ref (ad q1))]) hx hb dX4_addAll_48 hl (k := 3) rfl rfl (by decide) rfl (fun ls hl => ?_)
      refine lv_goto (tgt := 2) hx hb dX4_addAll_51 (by decide) ?_
      exact ih _ _ _ _ _ hF hI (lv_sub hl [2, 3, 0] rfl)
set_option maxHeartbeats 4000000 in
theorem c_X4_addAll (hA : AdOk n ad A) {q0 : Nat} (h0 : isX4 n sh q0) {q1 : Nat} (h1 : isX4 n sh q1) {w w' : Mem} {r : Unit} (hF : F_X4_addAll q0 q1 w = some (r, w')) : Ctr l n sh D cA ad A sa yX4_addAll cX4_addAll 4 none 2 45 [.ref (ad q0), .ref (ad q1)] w none w' := by
  refine m_enter hA (by decide) (Nat.le_of_ble_eq_true rfl) ?_
  intro p e s m args below meth c ls G hI hl
  replace hl : lv_has ls 4 [(0, .ref (ad q0)), (1, .ref (ad q1))] := hl
  replace G : Mx n D cA ad A sa p s m args meth c RX4 cX4_addAll 4 none := G
  obtain ⟨hx, hb, -, -, hown, hg, -⟩ := id G
  unfold F_X4_addAll at hF
  refine lv_iconst (v := (0 : Int32)) hx hb dX4_addAll_0 (by decide) ?_
  refine lv_istore_n (lv' := [(2, .int (0 : Int32)), (0, .ref (ad q0)), (1, .ref (ad q1))]) hx hb dX4_addAll_1 rfl hl (by decide) rfl (fun ls hl => ?_)
  refine l_X4_addAll_2 G h0 h1 (fun w9 H locs ls hF hI hl => ?_) _ _ _ _ _ _ hF hI (lv_sub hl [1, 2, 0] rfl)
  exact n_vret G hI hF rfl dX4_addAll_54
set_option maxHeartbeats 4000000 in
theorem c_X0_becomeLike (hA : AdOk n ad A) {q0 : Nat} (h0 : isX0 n sh q0) {q1 : Nat} (h1 : isX0 n sh q1) {w w' : Mem} {r : Unit} (hF : F_X0_becomeLike q0 q1 w = some (r, w')) : Ctr l n sh D cA ad A sa yX0_becomeLike cX0_becomeLike 2 none 3 68 [.ref (ad q0), .ref (ad q1)] w none w' := by
  refine m_enter hA (by decide) (Nat.le_of_ble_eq_true rfl) ?_
  intro p e s m args below meth c ls G hI hl
  replace hl : lv_has ls 2 [(0, .ref (ad q0)), (1, .ref (ad q1))] := hl
  replace G : Mx n D cA ad A sa p s m args meth c RX0 cX0_becomeLike 2 none := G
  obtain ⟨hx, hb, -, -, hown, hg, -⟩ := id G
  unfold F_X0_becomeLike at hF
  refine lv_aload_n hx hb dX0_becomeLike_0 rfl (lv_at hl 1 rfl) ?_
  refine gf_X0_9 G hI h1 dX0_becomeLike_1 ?_
  refine lv_iconst (v := (0 : Int32)) hx hb dX0_becomeLike_4 (by decide) ?_
  refine lv_aload_n hx hb dX0_becomeLike_5 rfl (lv_at hl 0 rfl) ?_
  refine gf_X0_9 G hI h0 dX0_becomeLike_6 ?_
  refine lv_iconst (v := (0 : Int32)) hx hb dX0_becomeLike_9 (by decide) ?_
  refine lv_bipush (v := (7 : Int32)) hx hb dX0_becomeLike_10 (by decide) ?_
  obtain ⟨w1, ew1, hF⟩ := lt_some hF
  refine n_copy G hI (isX0.setting h1) (isX0.setting h0) kl_X0_49 (by decide) (Nat.le_of_ble_eq_true rfl) (Nat.le_of_ble_eq_true rfl) hl.1 dX0_becomeLike_12 (fun H locs hI => ?_)
  replace hI : Iv n sh D cA ad A s.heap w1 H locs := by rw [ew1]; exact hI
  refine lv_aload_n hx hb dX0_becomeLike_15 rfl (lv_at hl 1 rfl) ?_
  refine gf_X0_15 G hI h1 dX0_becomeLike_16 ?_
  refine lv_iconst (v := (0 : Int32)) hx hb dX0_becomeLike_19 (by decide) ?_
  refine lv_aload_n hx hb dX0_becomeLike_20 rfl (lv_at hl 0 rfl) ?_
  refine gf_X0_15 G hI h0 dX0_becomeLike_21 ?_
  refine lv_iconst (v := (0 : Int32)) hx hb dX0_becomeLike_24 (by decide) ?_
  refine lv_iconst (v := (3 : Int32)) hx hb dX0_becomeLike_25 (by decide) ?_
  obtain ⟨w2, ew2, hF⟩ := lt_some hF
  refine n_copy G hI (isX0.demand h1) (isX0.demand h0) kl_X0_49 (by decide) (Nat.le_of_ble_eq_true rfl) (Nat.le_of_ble_eq_true rfl) hl.1 dX0_becomeLike_26 (fun H locs hI => ?_)
  replace hI : Iv n sh D cA ad A s.heap w2 H locs := by rw [ew2]; exact hI
  refine lv_aload_n hx hb dX0_becomeLike_29 rfl (lv_at hl 1 rfl) ?_
  refine gf_X0_18 G hI h1 dX0_becomeLike_30 ?_
  refine lv_iconst (v := (0 : Int32)) hx hb dX0_becomeLike_33 (by decide) ?_
  refine lv_aload_n hx hb dX0_becomeLike_34 rfl (lv_at hl 0 rfl) ?_
  refine gf_X0_18 G hI h0 dX0_becomeLike_35 ?_
  refine lv_iconst (v := (0 : Int32)) hx hb dX0_becomeLike_38 (by decide) ?_
  refine lv_iconst (v := (3 : Int32)) hx hb dX0_becomeLike_39 (by decide) ?_
  obtain ⟨w3, ew3, hF⟩ := lt_some hF
  refine n_copy G hI (isX0.current h1) (isX0.current h0) kl_X0_49 (by decide) (Nat.le_of_ble_eq_true rfl) (Nat.le_of_ble_eq_true rfl) hl.1 dX0_becomeLike_40 (fun H locs hI => ?_)
  replace hI : Iv n sh D cA ad A s.heap w3 H locs := by rw [ew3]; exact hI
  refine lv_aload_n hx hb dX0_becomeLike_43 rfl (lv_at hl 1 rfl) ?_
  refine gf_X0_21 G hI h1 dX0_becomeLike_44 ?_
  refine lv_iconst (v := (0 : Int32)) hx hb dX0_becomeLike_47 (by decide) ?_
  refine lv_aload_n hx hb dX0_becomeLike_48 rfl (lv_at hl 0 rfl) ?_
  refine gf_X0_21 G hI h0 dX0_becomeLike_49 ?_
  refine lv_iconst (v := (0 : Int32)) hx hb dX0_becomeLike_52 (by decide) ?_
  refine lv_iconst (v := (3 : Int32)) hx hb dX0_becomeLike_53 (by decide) ?_
  obtain ⟨w4, ew4, hF⟩ := lt_some hF
  refine n_copy G hI (isX0.want h1) (isX0.want h0) kl_X0_49 (by decide) (Nat.le_of_ble_eq_true rfl) (Nat.le_of_ble_eq_true rfl) hl.1 dX0_becomeLike_54 (fun H locs hI => ?_)
  replace hI : Iv n sh D cA ad A s.heap w4 H locs := by rw [ew4]; exact hI
  refine lv_aload_n hx hb dX0_becomeLike_57 rfl (lv_at hl 1 rfl) ?_
  refine gf_X0_24 G hI h1 dX0_becomeLike_58 ?_
  refine lv_iconst (v := (0 : Int32)) hx hb dX0_becomeLike_61 (by decide) ?_
  refine lv_aload_n hx hb dX0_becomeLike_62 rfl (lv_at hl 0 rfl) ?_
  refine gf_X0_24 G hI h0 dX0_becomeLike_63 ?_
  refine lv_iconst (v := (0 : Int32)) hx hb dX0_becomeLike_66 (by decide) ?_
  refine lv_iconst (v := (3 : Int32)) hx hb dX0_becomeLike_67 (by decide) ?_
  obtain ⟨w5, ew5, hF⟩ := lt_some hF
  refine n_copy G hI (isX0.sum h1) (isX0.sum h0) kl_X0_49 (by decide) (Nat.le_of_ble_eq_true rfl) (Nat.le_of_ble_eq_true rfl) hl.1 dX0_becomeLike_68 (fun H locs hI => ?_)
  replace hI : Iv n sh D cA ad A s.heap w5 H locs := by rw [ew5]; exact hI
  refine lv_aload_n hx hb dX0_becomeLike_71 rfl (lv_at hl 0 rfl) ?_
  refine gf_X0_32 G hI h0 dX0_becomeLike_72 ?_
  refine lv_iconst (v := (0 : Int32)) hx hb dX0_becomeLike_75 (by decide) ?_
  obtain ⟨r7, w6, z8, hF⟩ := bd_some hF
  refine n_Vv (rest := []) G hI (c_X4_cutTo hA (isX0.wishes h0) z8) my_X4_cutTo kl_X0_55 (isX4.lt (isX0.wishes h0)) (isX4.sh (isX0.wishes h0)) rfl ⟨Nat.le_of_ble_eq_true rfl, Nat.le_of_ble_eq_true rfl⟩ rfl hl.1 rfl (Nat.le_of_ble_eq_true rfl) dX0_becomeLike_76 (fun H locs hI => ?_)
  refine lv_aload_n hx hb dX0_becomeLike_79 rfl (lv_at hl 0 rfl) ?_
  refine gf_X0_32 G hI h0 dX0_becomeLike_80 ?_
  refine lv_aload_n hx hb dX0_becomeLike_83 rfl (lv_at hl 1 rfl) ?_
  refine gf_X0_32 G hI h1 dX0_becomeLike_84 ?_
  obtain ⟨r10, w9, z11, hF⟩ := bd_some hF
  refine n_Vv (rest := []) G hI (c_X4_addAll hA (isX0.wishes h0) (isX0.wishes h1) z11) my_X4_addAll kl_X0_62 (isX4.lt (isX0.wishes h0)) (isX4.sh (isX0.wishes h0)) rfl ⟨Nat.le_of_ble_eq_true rfl, Nat.le_of_ble_eq_true rfl⟩ rfl hl.1 rfl (Nat.le_of_ble_eq_true rfl) dX0_becomeLike_87 (fun H locs hI => ?_)
  refine lv_aload_n hx hb dX0_becomeLike_90 rfl (lv_at hl 0 rfl) ?_
  refine lv_aload_n hx hb dX0_becomeLike_91 rfl (lv_at hl 1 rfl) ?_
  refine gf_X0_58 G hI h1 dX0_becomeLike_92 ?_
  obtain ⟨w12, ew12, hF⟩ := lt_some hF
  refine pf_X0_58 G hI h0 dX0_becomeLike_95 (fun H locs hI => ?_)
  replace hI : Iv n sh D cA ad A s.heap w12 H locs := by rw [ew12]; exact hI
  exact n_vret G hI hF rfl dX0_becomeLike_98
set_option maxHeartbeats 4000000 in
theorem c_X6_greatestOf (hA : AdOk n ad A) {q0 : Nat} (h0 : isAr n sh q0 3) {w w' : Mem} {r : Int32} (hF : F_X6_greatestOf q0 w = some (r, w')) : Ctr l n sh D cA ad A sa yX6_greatestOf cX6_greatestOf 1 (some .int) 1 21 [.ref (ad q0)] w (some (.int r)) w' := by
  refine m_enter hA (by decide) (Nat.le_of_ble_eq_true rfl) ?_
  intro p e s m args below meth c ls G hI hl
  replace hl : lv_has ls 1 [(0, .ref (ad q0))] := hl
  replace G : Mx n D cA ad A sa p s m args meth c RX6 cX6_greatestOf 1 (some .int) := G
  obtain ⟨hx, hb, -, -, hown, hg, -⟩ := id G
  unfold F_X6_greatestOf at hF
  refine lv_aload_n hx hb dX6_greatestOf_0 rfl (lv_at hl 0 rfl) ?_
  refine lv_iconst (v := (0 : Int32)) hx hb dX6_greatestOf_1 (by decide) ?_
  refine n_ald G hI h0 (by decide) dX6_greatestOf_2 ?_
  refine W.eq (g2 := F0 m 3 ls [.int (w q0 0)]) rfl ?_
  refine lv_aload_n hx hb dX6_greatestOf_3 rfl (lv_at hl 0 rfl) ?_
  refine lv_iconst (v := (1 : Int32)) hx hb dX6_greatestOf_4 (by decide) ?_
  refine n_ald G hI h0 (by decide) dX6_greatestOf_5 ?_
  refine W.eq (g2 := F0 m 6 ls [.int (w q0 1), .int (w q0 0)]) rfl ?_
  refine lv_aload_n hx hb dX6_greatestOf_6 rfl (lv_at hl 0 rfl) ?_
  refine lv_iconst (v := (2 : Int32)) hx hb dX6_greatestOf_7 (by decide) ?_
  refine n_ald G hI h0 (by decide) dX6_greatestOf_8 ?_
  refine W.eq (g2 := F0 m 9 ls [.int (w q0 2), .int (w q0 1), .int (w q0 0)]) rfl ?_
  refine n_max G kl_X6_276 (Nat.le_of_ble_eq_true rfl) (Nat.le_of_ble_eq_true rfl) hl.1 dX6_greatestOf_9 ?_
  refine n_max G kl_X6_276 (Nat.le_of_ble_eq_true rfl) (Nat.le_of_ble_eq_true rfl) hl.1 dX6_greatestOf_12 ?_
  exact n_iret G hI hF rfl dX6_greatestOf_15
set_option maxHeartbeats 4000000 in
theorem c_X6_leastOf (hA : AdOk n ad A) {q0 : Nat} (h0 : isAr n sh q0 3) {w w' : Mem} {r : Int32} (hF : F_X6_leastOf q0 w = some (r, w')) : Ctr l n sh D cA ad A sa yX6_leastOf cX6_leastOf 1 (some .int) 1 21 [.ref (ad q0)] w (some (.int r)) w' := by
  refine m_enter hA (by decide) (Nat.le_of_ble_eq_true rfl) ?_
  intro p e s m args below meth c ls G hI hl
  replace hl : lv_has ls 1 [(0, .ref (ad q0))] := hl
  replace G : Mx n D cA ad A sa p s m args meth c RX6 cX6_leastOf 1 (some .int) := G
  obtain ⟨hx, hb, -, -, hown, hg, -⟩ := id G
  unfold F_X6_leastOf at hF
  refine lv_aload_n hx hb dX6_leastOf_0 rfl (lv_at hl 0 rfl) ?_
  refine lv_iconst (v := (0 : Int32)) hx hb dX6_leastOf_1 (by decide) ?_
  refine n_ald G hI h0 (by decide) dX6_leastOf_2 ?_
  refine W.eq (g2 := F0 m 3 ls [.int (w q0 0)]) rfl ?_
  refine lv_aload_n hx hb dX6_leastOf_3 rfl (lv_at hl 0 rfl) ?_
  refine lv_iconst (v := (1 : Int32)) hx hb dX6_leastOf_4 (by decide) ?_
  refine n_ald G hI h0 (by decide) dX6_leastOf_5 ?_
  refine W.eq (g2 := F0 m 6 ls [.int (w q0 1), .int (w q0 0)]) rfl ?_
  refine lv_aload_n hx hb dX6_leastOf_6 rfl (lv_at hl 0 rfl) ?_
  refine lv_iconst (v := (2 : Int32)) hx hb dX6_leastOf_7 (by decide) ?_
  refine n_ald G hI h0 (by decide) dX6_leastOf_8 ?_
  refine W.eq (g2 := F0 m 9 ls [.int (w q0 2), .int (w q0 1), .int (w q0 0)]) rfl ?_
  refine n_min G kl_X6_256 (Nat.le_of_ble_eq_true rfl) (Nat.le_of_ble_eq_true rfl) hl.1 dX6_leastOf_9 ?_
  refine n_min G kl_X6_256 (Nat.le_of_ble_eq_true rfl) (Nat.le_of_ble_eq_true rfl) hl.1 dX6_leastOf_12 ?_
  exact n_iret G hI hF rfl dX6_leastOf_15
set_option maxHeartbeats 4000000 in
theorem c_X1_demandThatCounts (hA : AdOk n ad A) {q0 : Nat} (h0 : isX1 n sh q0) {a1 : Int32} {w w' : Mem} {r : Int32} (hF : F_X1_demandThatCounts q0 a1 w = some (r, w')) : Ctr l n sh D cA ad A sa yX1_demandThatCounts cX1_demandThatCounts 2 (some .int) 0 0 [.ref (ad q0), .int a1] w (some (.int r)) w' := by
  refine m_enter hA (by decide) (Nat.le_of_ble_eq_true rfl) ?_
  intro p e s m args below meth c ls G hI hl
  replace hl : lv_has ls 2 [(0, .ref (ad q0)), (1, .int a1)] := hl
  replace G : Mx n D cA ad A sa p s m args meth c RX1 cX1_demandThatCounts 2 (some .int) := G
  obtain ⟨hx, hb, -, -, hown, hg, -⟩ := id G
  unfold F_X1_demandThatCounts at hF
  refine lv_aload_n hx hb dX1_demandThatCounts_0 rfl (lv_at hl 0 rfl) ?_
  refine gf_X1_45 G hI h0 dX1_demandThatCounts_1 ?_
  refine lv_if_eq (tgt := 28) hx hb dX1_demandThatCounts_4 (by decide) (fun c3 => ?_) (fun c3 => ?_)
  · replace hF := itp c3 hF
    refine lv_iload_n hx hb dX1_demandThatCounts_28 rfl (lv_at hl 1 rfl) ?_
    exact n_iret G hI hF rfl dX1_demandThatCounts_29
  · replace hF := itn c3 hF
    refine lv_aload_n hx hb dX1_demandThatCounts_7 rfl (lv_at hl 0 rfl) ?_
    refine gf_X1_42 G hI h0 dX1_demandThatCounts_8 ?_
    refine lv_if_le (tgt := 28) hx hb dX1_demandThatCounts_11 (by decide) (fun c2 => ?_) (fun c2 => ?_)
    · replace hF := itp c2 hF
      refine lv_iload_n hx hb dX1_demandThatCounts_28 rfl (lv_at hl 1 rfl) ?_
      exact n_iret G hI hF rfl dX1_demandThatCounts_29
    · replace hF := itn c2 hF
      refine lv_iload_n hx hb dX1_demandThatCounts_14 rfl (lv_at hl 1 rfl) ?_
      refine lv_aload_n hx hb dX1_demandThatCounts_15 rfl (lv_at hl 0 rfl) ?_
      refine gf_X1_24 G hI h0 dX1_demandThatCounts_16 ?_
      refine lv_imul hx hb dX1_demandThatCounts_19 ?_
      refine lv_aload_n hx hb dX1_demandThatCounts_20 rfl (lv_at hl 0 rfl) ?_
      refine gf_X1_42 G hI h0 dX1_demandThatCounts_21 ?_
      obtain ⟨g1, hF⟩ := gd_some hF
      refine n_idiv G g1 dX1_demandThatCounts_24 ?_
      refine lv_goto (tgt := 29) hx hb dX1_demandThatCounts_25 (by decide) ?_
      exact n_iret G hI hF rfl dX1_demandThatCounts_29
set_option maxHeartbeats 4000000 in
theorem c_X1_highWithDead (hA : AdOk n ad A) {q0 : Nat} (h0 : isX1 n sh q0) {a1 : Int32} {a2 : Int32} {w w' : Mem} {r : Int32} (hF : F_X1_highWithDead q0 a1 a2 w = some (r, w')) : Ctr l n sh D cA ad A sa yX1_highWithDead cX1_highWithDead 4 (some .int) 2 43 [.ref (ad q0), .int a1, .int a2] w (some (.int r)) w' := by
  refine m_enter hA (by decide) (Nat.le_of_ble_eq_true rfl) ?_
  intro p e s m args below meth c ls G hI hl
  replace hl : lv_has ls 4 [(0, .ref (ad q0)), (1, .int a1), (2, .int a2)] := hl
  replace G : Mx n D cA ad A sa p s m args meth c RX1 cX1_highWithDead 4 (some .int) := G
  obtain ⟨hx, hb, -, -, hown, hg, -⟩ := id G
  unfold F_X1_highWithDead at hF
  refine lv_aload_n hx hb dX1_highWithDead_0 rfl (lv_at hl 0 rfl) ?_
  refine gf_X1_31 G hI h0 dX1_highWithDead_1 ?_
  refine lv_if_eq (tgt := 16) hx hb dX1_highWithDead_4 (by decide) (fun c13 => ?_) (fun c13 => ?_)
  · replace hF := itp c13 hF
    refine lv_aload_n hx hb dX1_highWithDead_16 rfl (lv_at hl 0 rfl) ?_
    refine gf_X1_9 G hI h0 dX1_highWithDead_17 ?_
    refine lv_iload_n hx hb dX1_highWithDead_20 rfl (lv_at hl 1 rfl) ?_
    obtain ⟨g1, hF⟩ := gd_some hF
    refine n_ald G hI (isX1.uncorrected h0) g1 dX1_highWithDead_21 ?_
    exact n_iret G hI hF rfl dX1_highWithDead_22
  · replace hF := itn c13 hF
    refine lv_aload_n hx hb dX1_highWithDead_7 rfl (lv_at hl 0 rfl) ?_
    refine gf_X1_21 G hI h0 dX1_highWithDead_8 ?_
    refine lv_iload_n hx hb dX1_highWithDead_11 rfl (lv_at hl 1 rfl) ?_
    obtain ⟨g2, hF⟩ := gd_some hF
    refine n_ald G hI (isX1.current h0) g2 dX1_highWithDead_12 ?_
    refine lv_if_ne (tgt := 23) hx hb dX1_highWithDead_13 (by decide) (fun c12 => ?_) (fun c12 => ?_)
    · replace hF := itn c12 hF
      refine lv_aload_n hx hb dX1_highWithDead_23 rfl (lv_at hl 0 rfl) ?_
      refine gf_X1_21 G hI h0 dX1_highWithDead_24 ?_
      refine lv_iload_n hx hb dX1_highWithDead_27 rfl (lv_at hl 1 rfl) ?_
      obtain ⟨g3, hF⟩ := gd_some hF
      refine n_ald G hI (isX1.current h0) g3 dX1_highWithDead_28 ?_
      obtain ⟨k4, ek4, hF⟩ := jn_some hF
      have hJ4 : ∀ (x5 : Int32) (H : Heap) (locs : List Loc) (ls : Array Slot), k4 x5 = some (r, w') → Iv n sh D cA ad A s.heap w H locs → lv_has ls 4 [(0, .ref (ad q0)), (1, .int a1)] → W p l e ({ frames := 2, cells := 0, slots := 0, locals := 43 } : Room) s m args below meth c H locs 0 0 (QM n sh D cA ad A below args s (some (.int r)) w') (F0 m 38 ls [.int x5]) := by
        intro x5 H locs ls hF hI hl
        replace hF := (congrFun ek4 x5).symm.trans hF
        refine lv_istore_n (lv' := [(3, .int x5), (0, .ref (ad q0)), (1, .int a1)]) hx hb dX1_highWithDead_38 rfl hl (by decide) rfl (fun ls hl => ?_)
        refine lv_aload_n hx hb dX1_highWithDead_39 rfl (lv_at hl 1 rfl) ?_
        refine gf_X1_9 G hI h0 dX1_highWithDead_40 ?_
        refine lv_iload_n hx hb dX1_highWithDead_43 rfl (lv_at hl 2 rfl) ?_
        obtain ⟨g6, hF⟩ := gd_some hF
        refine n_ald G hI (isX1.uncorrected h0) g6 dX1_highWithDead_44 ?_
        refine lv_iload_n hx hb dX1_highWithDead_45 rfl (lv_at hl 0 rfl) ?_
        refine lv_iadd hx hb dX1_highWithDead_46 ?_
        refine lv_iconst (v := (0 : Int32)) hx hb dX1_highWithDead_47 (by decide) ?_
        refine lv_aload_n hx hb dX1_highWithDead_48 rfl (lv_at hl 1 rfl) ?_
        refine gf_X1_24 G hI h0 dX1_highWithDead_49 ?_
        obtain ⟨r8, w7, z9, hF⟩ := bd_some hF
        refine n_SNi (rest := []) (host := "DriveTicks") G hI (c_X6_pulledWithin hA  z9) my_X6_pulledWithin (by decide) ⟨Nat.le_of_ble_eq_true rfl, Nat.le_of_ble_eq_true rfl⟩ rfl hl.1 rfl (Nat.le_of_ble_eq_true rfl) dX1_highWithDead_52 (fun H locs hI => ?_)
        exact n_iret G hI hF rfl dX1_highWithDead_55
      refine lv_if_le (tgt := 36) hx hb dX1_highWithDead_29 (by decide) (fun c10 => ?_) (fun c10 => ?_)
      · replace hF := itp c10 hF
        refine lv_iload_n hx hb dX1_highWithDead_36 rfl (lv_at hl 2 rfl) ?_
        refine lv_ineg hx hb dX1_highWithDead_37 ?_
        exact hJ4 _ _ _ _ hF hI (lv_sub hl [0, 1] rfl)
      · replace hF := itn c10 hF
        refine lv_iload_n hx hb dX1_highWithDead_32 rfl (lv_at hl 2 rfl) ?_
        refine lv_goto (tgt := 38) hx hb dX1_highWithDead_33 (by decide) ?_
        exact hJ4 _ _ _ _ hF hI (lv_sub hl [0, 1] rfl)
    · replace hF := itp c12 hF
      refine lv_aload_n hx hb dX1_highWithDead_16 rfl (lv_at hl 0 rfl) ?_
      refine gf_X1_9 G hI h0 dX1_highWithDead_17 ?_
      refine lv_iload_n hx hb dX1_highWithDead_20 rfl (lv_at hl 1 rfl) ?_
      obtain ⟨g11, hF⟩ := gd_some hF
      refine n_ald G hI (isX1.uncorrected h0) g11 dX1_highWithDead_21 ?_
      exact n_iret G hI hF rfl dX1_highWithDead_22
set_option maxHeartbeats 4000000 in
theorem l_X1_make_89 {p : Program} {e : Env} {s : State} {m : MethodId} {args : Array Value} {below : List Frame} {meth : Method} {c : Code} (G : Mx n D cA ad A sa p s m args meth c RX1 cX1_make 9 none) {q0 : Nat} {q2 : Nat} {q3 : Nat} {a6 : Int32} (h0 : isX1 n sh q0) (h2 : isAr n sh q2 3) (h3 : isAr n sh q3 3) {k : Mem → Option (Unit × Mem)} {r : Unit} {w' : Mem}
    (hk : ∀  (w : Mem) (H : Heap) (locs : List Loc) (ls : Array Slot), k  w = some (r, w') → Iv n sh D cA ad A s.heap w H locs → lv_has ls 9 [] → W p l e ({ frames := 3, cells := 0, slots := 0, locals := 66 } : Room) s m args below meth c H locs 0 0 (QM n sh D cA ad A below args s none w') (F0 m 189 ls [])) :
    ∀ (N : Nat) (v7 : Int32) (w : Mem) (H : Heap) (locs : List Loc) (ls : Array Slot), L_X1_make_89 q0 q2 q3 a6 k N v7 w = some (r, w') → Iv n sh D cA ad A s.heap w H locs → lv_has ls 9 [(0, .ref (ad q0)), (2, .ref (ad q2)), (3, .ref (ad q3)), (6, .int a6), (7, .int v7)] → W p l e ({ frames := 3, cells := 0, slots := 0, locals := 66 } : Room) s m args below meth c H locs 0 0 (QM n sh D cA ad A below args s none w') (F0 m 89 ls []) := by
  obtain ⟨hx, hb, -, -, hown, hg, -, -, -, -, hA⟩ := id G
  intro N
  induction N with
  | zero =>
    intro v7 w H locs ls hF hI hl
    cases hF
  | succ N ih =>
    intro v7 w H locs ls hF hI hl
    rw [L_X1_make_89] at hF
    refine lv_iload hx hb dX1_make_89 (lv_at hl 4 rfl) ?_
    refine lv_iconst (v := (3 : Int32)) hx hb dX1_make_91 (by decide) ?_
    refine lv_icmp_ge (tgt := 189) hx hb dX1_make_92 (by decide) (fun c45 => ?_) (fun c45 => ?_)
    · replace hF := itp c45 hF
      exact hk _ _ _ _ hF hI (lv_sub hl [] rfl)
    · replace hF := itn c45 hF
      refine lv_aload_n hx hb dX1_make_95 rfl (lv_at hl 0 rfl) ?_
      refine gf_X1_21 G hI h0 dX1_make_96 ?_
      refine lv_iload hx hb dX1_make_99 (lv_at hl 4 rfl) ?_
      refine lv_aload_n hx hb dX1_make_101 rfl (lv_at hl 2 rfl) ?_
      refine lv_iload hx hb dX1_make_102 (lv_at hl 4 rfl) ?_
      obtain ⟨g24, hF⟩ := gd_some hF
      refine n_ald G hI h3 g24 dX1_make_104 ?_
      obtain ⟨g25, hF⟩ := gd_some hF
      obtain ⟨w26, ew26, hF⟩ := lt_some hF
      refine n_ast G hI (isX1.current h0) g25 dX1_make_105 (fun H locs hI => ?_)
      replace hI : Iv n sh D cA ad A s.heap w26 H locs := by rw [ew26]; exact hI
      refine lv_aload_n hx hb dX1_make_106 rfl (lv_at hl 0 rfl) ?_
      refine gf_X1_24 G hI h0 dX1_make_107 ?_
      refine lv_iconst (v := (2 : Int32)) hx hb dX1_make_110 (by decide) ?_
      refine lv_aload_n hx hb dX1_make_111 rfl (lv_at hl 0 rfl) ?_
      refine lv_aload_n hx hb dX1_make_112 rfl (lv_at hl 1 rfl) ?_
      refine lv_iload hx hb dX1_make_113 (lv_at hl 4 rfl) ?_
      obtain ⟨g27, hF⟩ := gd_some hF
      refine n_ald G hI h2 g27 dX1_make_115 ?_
      obtain ⟨r29, w28, z30, hF⟩ := bd_some hF
      refine n_Vi (rest := [.int (2 : Int32), .int (w26 q0 0)]) G hI (c_X1_demandThatCounts hA h0 z30) my_X1_demandThatCounts kl_X1_48 (isX1.lt h0) (isX1.sh h0) rfl ⟨Nat.le_of_ble_eq_true rfl, Nat.le_of_ble_eq_true rfl⟩ rfl hl.1 rfl (Nat.le_of_ble_eq_true rfl) dX1_make_116 (fun H locs hI => ?_)
      refine lv_imul hx hb dX1_make_119 ?_
      refine lv_iadd hx hb dX1_make_120 ?_
      refine lv_iload hx hb dX1_make_121 (lv_at hl 3 rfl) ?_
      refine lv_isub hx hb dX1_make_123 ?_
      refine lv_iconst (v := (2 : Int32)) hx hb dX1_make_124 (by decide) ?_
      refine n_idiv G (by decide) dX1_make_125 ?_
      obtain ⟨x31, ex31, hF⟩ := lt_some hF
      refine W.eq (g2 := F0 m 126 ls [.int x31]) (by rw [ex31]) ?_
      refine lv_istore (lv' := [(8, .int x31), (0, .ref (ad q0)), (2, .ref (ad q2)), (3, .ref (ad q3)), (6, .int a6), (7, .int v7)]) hx hb dX1_make_126 hl (by decide) rfl (fun ls hl => ?_)
      refine lv_aload_n hx hb dX1_make_128 rfl (lv_at hl 1 rfl) ?_
      refine gf_X1_9 G hI h0 dX1_make_129 ?_
      refine lv_iload hx hb dX1_make_132 (lv_at hl 5 rfl) ?_
      refine lv_iload hx hb dX1_make_134 (lv_at hl 0 rfl) ?_
      refine lv_iconst (v := (0 : Int32)) hx hb dX1_make_136 (by decide) ?_
      refine lv_aload_n hx hb dX1_make_137 rfl (lv_at hl 1 rfl) ?_
      refine gf_X1_24 G hI h0 dX1_make_138 ?_
      obtain ⟨r33, w32, z34, hF⟩ := bd_some hF
      refine n_SNi (rest := [.int v7, .ref (ad (q0 + 1))]) (host := "DriveTicks") G hI (c_X6_pulledWithin hA  z34) my_X6_pulledWithin (by decide) ⟨Nat.le_of_ble_eq_true rfl, Nat.le_of_ble_eq_true rfl⟩ rfl hl.1 rfl (Nat.le_of_ble_eq_true rfl) dX1_make_141 (fun H locs hI => ?_)
      obtain ⟨g35, hF⟩ := gd_some hF
      obtain ⟨w36, ew36, hF⟩ := lt_some hF
      refine n_ast G hI (isX1.uncorrected h0) g35 dX1_make_144 (fun H locs hI => ?_)
      replace hI : Iv n sh D cA ad A s.heap w36 H locs := by rw [ew36]; exact hI
      refine lv_aload_n hx hb dX1_make_145 rfl (lv_at hl 1 rfl) ?_
      refine gf_X1_15 G hI h0 dX1_make_146 ?_
      refine lv_iload hx hb dX1_make_149 (lv_at hl 5 rfl) ?_
      refine lv_aload_n hx hb dX1_make_151 rfl (lv_at hl 1 rfl) ?_
      refine lv_iload hx hb dX1_make_152 (lv_at hl 5 rfl) ?_
      refine lv_aload_n hx hb dX1_make_154 rfl (lv_at hl 1 rfl) ?_
      refine gf_X1_28 G hI h0 dX1_make_155 ?_
      obtain ⟨r38, w37, z39, hF⟩ := bd_some hF
      refine n_Vi (rest := [.int v7, .ref (ad (q0 + 2))]) G hI (c_X1_highWithDead hA h0 z39) my_X1_highWithDead kl_X1_56 (isX1.lt h0) (isX1.sh h0) rfl ⟨Nat.le_of_ble_eq_true rfl, Nat.le_of_ble_eq_true rfl⟩ rfl hl.1 rfl (Nat.le_of_ble_eq_true rfl) dX1_make_158 (fun H locs hI => ?_)
      obtain ⟨g40, hF⟩ := gd_some hF
      obtain ⟨w41, ew41, hF⟩ := lt_some hF
      refine n_ast G hI (isX1.high h0) g40 dX1_make_161 (fun H locs hI => ?_)
      replace hI : Iv n sh D cA ad A s.heap w41 H locs := by rw [ew41]; exact hI
      refine lv_aload_n hx hb dX1_make_162 rfl (lv_at hl 1 rfl) ?_
      refine gf_X1_18 G hI h0 dX1_make_163 ?_
      refine lv_iload hx hb dX1_make_166 (lv_at hl 5 rfl) ?_
      refine lv_aload_n hx hb dX1_make_168 rfl (lv_at hl 1 rfl) ?_
      refine gf_X1_24 G hI h0 dX1_make_169 ?_
      refine lv_aload_n hx hb dX1_make_172 rfl (lv_at hl 1 rfl) ?_
      refine gf_X1_15 G hI h0 dX1_make_173 ?_
      refine lv_iload hx hb dX1_make_176 (lv_at hl 5 rfl) ?_
      obtain ⟨g42, hF⟩ := gd_some hF
      refine n_ald G hI (isX1.high h0) g42 dX1_make_178 ?_
      refine lv_isub hx hb dX1_make_179 ?_
      refine lv_iconst (v := (2 : Int32)) hx hb dX1_make_180 (by decide) ?_
      refine n_idiv G (by decide) dX1_make_181 ?_
      obtain ⟨g43, hF⟩ := gd_some hF
      obtain ⟨w44, ew44, hF⟩ := lt_some hF
      refine n_ast G hI (isX1.start h0) g43 dX1_make_182 (fun H locs hI => ?_)
      replace hI : Iv n sh D cA ad A s.heap w44 H locs := by rw [ew44]; exact hI
      refine lv_iinc (v := (v7 + (1 : Int32))) (lv' := [(7, .int (v7 + (1 : Int32))), (8, .int x31), (0, .ref (ad q0)), (2, .ref (ad q2)), (3, .ref (ad q3)), (6, .int a6)]) hx hb dX1_make_183 hl (k := 5) rfl rfl (by decide) rfl (fun ls hl => ?_)
      refine lv_goto (tgt := 89) hx hb dX1_make_186 (by decide) ?_
      exact ih _ _ _ _ _ hF hI (lv_sub hl [2, 3, 4, 5, 0] rfl)
set_option maxHeartbeats 4000000 in
theorem c_X1_make (hA : AdOk n ad A) {q0 : Nat} (h0 : isX1 n sh q0) {q1 : Nat} (h1 : isAr n sh q1 7) {q2 : Nat} (h2 : isAr n sh q2 3) {q3 : Nat} (h3 : isAr n sh q3 3) {w w' : Mem} {r : Unit} (hF : F_X1_make q0 q1 q2 q3 w = some (r, w')) : Ctr l n sh D cA ad A sa yX1_make cX1_make 9 none 3 66 [.ref (ad q0), .ref (ad q1), .ref (ad q2), .ref (ad q3)] w none w' := by
  refine m_enter hA (by decide) (Nat.le_of_ble_eq_true rfl) ?_
  intro p e s m args below meth c ls G hI hl
  replace hl : lv_has ls 9 [(0, .ref (ad q0)), (1, .ref (ad q1)), (2, .ref (ad q2)), (3, .ref (ad q3))] := hl
  replace G : Mx n D cA ad A sa p s m args meth c RX1 cX1_make 9 none := G
  obtain ⟨hx, hb, -, -, hown, hg, -⟩ := id G
  unfold F_X1_make at hF
  refine lv_aload_n hx hb dX1_make_0 rfl (lv_at hl 0 rfl) ?_
  refine lv_aload_n hx hb dX1_make_1 rfl (lv_at hl 1 rfl) ?_
  refine lv_iconst (v := (0 : Int32)) hx hb dX1_make_2 (by decide) ?_
  refine n_ald G hI h1 (by decide) dX1_make_3 ?_
  refine W.eq (g2 := F0 m 4 ls [.int (w q1 0), .ref (ad q0)]) rfl ?_
  obtain ⟨w1, ew1, hF⟩ := lt_some hF
  refine pf_X1_24 G hI h0 dX1_make_4 (fun H locs hI => ?_)
  replace hI : Iv n sh D cA ad A s.heap w1 H locs := by rw [ew1]; exact hI
  refine lv_aload_n hx hb dX1_make_7 rfl (lv_at hl 0 rfl) ?_
  refine lv_aload_n hx hb dX1_make_8 rfl (lv_at hl 1 rfl) ?_
  refine lv_iconst (v := (1 : Int32)) hx hb dX1_make_9 (by decide) ?_
  refine n_ald G hI h1 (by decide) dX1_make_10 ?_
  refine W.eq (g2 := F0 m 11 ls [.int (w1 q1 1), .ref (ad q0)]) rfl ?_
  obtain ⟨w2, ew2, hF⟩ := lt_some hF
  refine pf_X1_28 G hI h0 dX1_make_11 (fun H locs hI => ?_)
  replace hI : Iv n sh D cA ad A s.heap w2 H locs := by rw [ew2]; exact hI
  refine lv_aload_n hx hb dX1_make_14 rfl (lv_at hl 0 rfl) ?_
  refine lv_aload_n hx hb dX1_make_15 rfl (lv_at hl 1 rfl) ?_
  refine lv_iconst (v := (2 : Int32)) hx hb dX1_make_16 (by decide) ?_
  refine n_ald G hI h1 (by decide) dX1_make_17 ?_
  refine W.eq (g2 := F0 m 18 ls [.int (w2 q1 2), .ref (ad q0)]) rfl ?_
  refine lv_iconst (v := (1 : Int32)) hx hb dX1_make_18 (by decide) ?_
  obtain ⟨k3, ek3, hF⟩ := jn_some hF
  have hJ3 : ∀ (x4 : Int32) (H : Heap) (locs : List Loc) (ls : Array Slot), k3 x4 = some (r, w') → Iv n sh D cA ad A s.heap w2 H locs → lv_has ls 9 [(0, .ref (ad q0)), (2, .ref (ad q2)), (3, .ref (ad q3))] → W p l e ({ frames := 3, cells := 0, slots := 0, locals := 66 } : Room) s m args below meth c H locs 0 0 (QM n sh D cA ad A below args s none w') (F0 m 27 ls [.int x4, .ref (ad q0)]) := by
    intro x4 H locs ls hF hI hl
    replace hF := (congrFun ek3 x4).symm.trans hF
    obtain ⟨g6, hF⟩ := gd_some hF
    obtain ⟨w5, ew5, hF⟩ := lt_some hF
    refine pf_X1_31 G hI h0 g6 dX1_make_27 (fun H locs hI => ?_)
    replace hI : Iv n sh D cA ad A s.heap w5 H locs := by rw [ew5]; exact hI
    refine lv_aload_n hx hb dX1_make_30 rfl (lv_at hl 1 rfl) ?_
    obtain ⟨r8, w7, z9, hF⟩ := bd_some hF
    refine n_SNi (rest := []) (host := "DriveTicks") G hI (c_X6_greatestOf hA h2 z9) my_X6_greatestOf (by decide) ⟨Nat.le_of_ble_eq_true rfl, Nat.le_of_ble_eq_true rfl⟩ rfl hl.1 rfl (Nat.le_of_ble_eq_true rfl) dX1_make_31 (fun H locs hI => ?_)
    refine lv_istore (lv' := [(4, .int r8), (0, .ref (ad q0)), (2, .ref (ad q2)), (3, .ref (ad q3))]) hx hb dX1_make_34 hl (by decide) rfl (fun ls hl => ?_)
    refine lv_aload_n hx hb dX1_make_36 rfl (lv_at hl 2 rfl) ?_
    obtain ⟨r11, w10, z12, hF⟩ := bd_some hF
    refine n_SNi (rest := []) (host := "DriveTicks") G hI (c_X6_leastOf hA h2 z12) my_X6_leastOf (by decide) ⟨Nat.le_of_ble_eq_true rfl, Nat.le_of_ble_eq_true rfl⟩ rfl hl.1 rfl (Nat.le_of_ble_eq_true rfl) dX1_make_37 (fun H locs hI => ?_)
    refine lv_istore (lv' := [(5, .int r11), (4, .int r8), (0, .ref (ad q0)), (2, .ref (ad q2)), (3, .ref (ad q3))]) hx hb dX1_make_40 hl (by decide) rfl (fun ls hl => ?_)
    refine lv_aload_n hx hb dX1_make_42 rfl (lv_at hl 2 rfl) ?_
    refine lv_iload hx hb dX1_make_43 (lv_at hl 1 rfl) ?_
    refine lv_iload hx hb dX1_make_45 (lv_at hl 0 rfl) ?_
    refine lv_isub hx hb dX1_make_47 ?_
    obtain ⟨w13, ew13, hF⟩ := lt_some hF
    refine pf_X1_42 G hI h0 dX1_make_48 (fun H locs hI => ?_)
    replace hI : Iv n sh D cA ad A s.heap w13 H locs := by rw [ew13]; exact hI
    refine lv_aload_n hx hb dX1_make_51 rfl (lv_at hl 2 rfl) ?_
    refine lv_aload_n hx hb dX1_make_52 rfl (lv_at hl 2 rfl) ?_
    refine gf_X1_42 G hI h0 dX1_make_53 ?_
    refine lv_aload_n hx hb dX1_make_56 rfl (lv_at hl 2 rfl) ?_
    refine gf_X1_24 G hI h0 dX1_make_57 ?_
    obtain ⟨k14, ek14, hF⟩ := jn_some hF
    have hJ14 : ∀ (x15 : Int32) (H : Heap) (locs : List Loc) (ls : Array Slot), k14 x15 = some (r, w') → Iv n sh D cA ad A s.heap w13 H locs → lv_has ls 9 [(0, .ref (ad q0)), (2, .ref (ad q2)), (3, .ref (ad q3)), (4, .int r8), (5, .int r11)] → W p l e ({ frames := 3, cells := 0, slots := 0, locals := 66 } : Room) s m args below meth c H locs 0 0 (QM n sh D cA ad A below args s none w') (F0 m 68 ls [.int x15, .ref (ad q0)]) := by
      intro x15 H locs ls hF hI hl
      replace hF := (congrFun ek14 x15).symm.trans hF
      obtain ⟨g17, hF⟩ := gd_some hF
      obtain ⟨w16, ew16, hF⟩ := lt_some hF
      refine pf_X1_45 G hI h0 g17 dX1_make_68 (fun H locs hI => ?_)
      replace hI : Iv n sh D cA ad A s.heap w16 H locs := by rw [ew16]; exact hI
      refine lv_aload_n hx hb dX1_make_71 rfl (lv_at hl 0 rfl) ?_
      refine lv_iload hx hb dX1_make_72 (lv_at hl 3 rfl) ?_
      obtain ⟨r19, w18, z20, hF⟩ := bd_some hF
      refine n_Vi (rest := []) G hI (c_X1_demandThatCounts hA h0 z20) my_X1_demandThatCounts kl_X1_48 (isX1.lt h0) (isX1.sh h0) rfl ⟨Nat.le_of_ble_eq_true rfl, Nat.le_of_ble_eq_true rfl⟩ rfl hl.1 rfl (Nat.le_of_ble_eq_true rfl) dX1_make_74 (fun H locs hI => ?_)
      refine lv_aload_n hx hb dX1_make_77 rfl (lv_at hl 0 rfl) ?_
      refine lv_iload hx hb dX1_make_78 (lv_at hl 4 rfl) ?_
      obtain ⟨r22, w21, z23, hF⟩ := bd_some hF
      refine n_Vi (rest := [.int r19]) G hI (c_X1_demandThatCounts hA h0 z23) my_X1_demandThatCounts kl_X1_48 (isX1.lt h0) (isX1.sh h0) rfl ⟨Nat.le_of_ble_eq_true rfl, Nat.le_of_ble_eq_true rfl⟩ rfl hl.1 rfl (Nat.le_of_ble_eq_true rfl) dX1_make_80 (fun H locs hI => ?_)
      refine lv_iadd hx hb dX1_make_83 ?_
      refine lv_istore (lv' := [(6, .int (r19 + r22)), (0, .ref (ad q0)), (2, .ref (ad q2)), (3, .ref (ad q3)), (4, .int r8), (5, .int r11)]) hx hb dX1_make_84 hl (by decide) rfl (fun ls hl => ?_)
      refine lv_iconst (v := (0 : Int32)) hx hb dX1_make_86 (by decide) ?_
      refine lv_istore (lv' := [(7, .int (0 : Int32)), (6, .int (r19 + r22)), (0, .ref (ad q0)), (2, .ref (ad q2)), (3, .ref (ad q3)), (4, .int r8), (5, .int r11)]) hx hb dX1_make_87 hl (by decide) rfl (fun ls hl => ?_)
      refine l_X1_make_89 G h0 h2 h3 (fun w46 H locs ls hF hI hl => ?_) _ _ _ _ _ _ hF hI (lv_sub hl [2, 3, 4, 1, 0] rfl)
      exact n_vret G hI hF rfl dX1_make_189
    refine lv_icmp_le (tgt := 67) hx hb dX1_make_60 (by decide) (fun c47 => ?_) (fun c47 => ?_)
    · replace hF := itp c47 hF
      refine lv_iconst (v := (0 : Int32)) hx hb dX1_make_67 (by decide) ?_
      exact hJ14 _ _ _ _ hF hI (lv_sub hl [2, 3, 4, 1, 0] rfl)
    · replace hF := itn c47 hF
      refine lv_iconst (v := (1 : Int32)) hx hb dX1_make_63 (by decide) ?_
      refine lv_goto (tgt := 68) hx hb dX1_make_64 (by decide) ?_
      exact hJ14 _ _ _ _ hF hI (lv_sub hl [2, 3, 4, 1, 0] rfl)
  refine lv_icmp_ne (tgt := 26) hx hb dX1_make_19 (by decide) (fun c48 => ?_) (fun c48 => ?_)
  · replace hF := itn c48 hF
    refine lv_iconst (v := (0 : Int32)) hx hb dX1_make_26 (by decide) ?_
    exact hJ3 _ _ _ _ hF hI (lv_sub hl [0, 2, 3] rfl)
  · replace hF := itp c48 hF
    refine lv_iconst (v := (1 : Int32)) hx hb dX1_make_22 (by decide) ?_
    refine lv_goto (tgt := 27) hx hb dX1_make_23 (by decide) ?_
    exact hJ3 _ _ _ _ hF hI (lv_sub hl [0, 2, 3] rfl)
end WK0
