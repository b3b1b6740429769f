/-! walks, by program (wip/gen/walk.py): X5_faultOfWishes, X6_refuseBad, X6_sets, X6_leg, X6_anew, X6_planNow, X6_draw, X6_runsNow, X6_plan, X6_of, X6_at -/
section WK5
variable {n : Nat} {sh : Nat → Shp} {D : va_G} {cA : ClassId} {ad : Nat → Nat} {A : Nat → Prop} {sa : Nat → Nat} {l : Launch}
set_option maxHeartbeats 4000000 in
theorem l_X5_faultOfWishes_40 {p : Program} {e : Env} {s : State} {m : MethodId} {args : Array Value} {below : List Frame} {meth : Method} {c : Code} (G : Mx n D cA ad A sa p s m args meth c RX5 cX5_faultOfWishes 4 (some .int)) {a1 : Int32} {a2 : Int32} (h0 : isX5 n sh 41) {k : Mem → Option (Int32 × Mem)} {r : Int32} {w' : Mem}
    (hk : ∀  (w : Mem) (H : Heap) (locs : List Loc) (ls : Array Slot), k  w = some (r, w') → Iv n sh D cA ad A s.heap w H locs → lv_has ls 4 [(0, .ref (ad 41))] → W p l e ({ frames := 5, cells := 0, slots := 0, locals := 111 } : Room) s m args below meth c H locs 0 0 (QM n sh D cA ad A below args s (some (.int r)) w') (F0 m 81 ls [])) :
    ∀ (N : Nat) (v3 : Int32) (w : Mem) (H : Heap) (locs : List Loc) (ls : Array Slot), L_X5_faultOfWishes_40 a1 a2 k N v3 w = some (r, w') → Iv n sh D cA ad A s.heap w H locs → lv_has ls 4 [(0, .ref (ad 41)), (1, .int a1), (2, .int a2), (3, .int v3)] → W p l e ({ frames := 5, cells := 0, slots := 0, locals := 111 } : Room) s m args below meth c H locs 0 0 (QM n sh D cA ad A below args s (some (.int r)) w') (F0 m 40 ls []) := by
  obtain ⟨hx, hb, -, -, hown, hg, -, -, -, -, hA⟩ := id G
  intro N
  induction N with
  | zero =>
    intro v3 w H locs ls hF hI hl
    cases hF
  | succ N ih =>
    intro v3 w H locs ls hF hI hl
    rw [L_X5_faultOfWishes_40] at hF
    refine lv_iload_n hx hb dX5_faultOfWishes_40 rfl (lv_at hl 3 rfl) ?_
    refine lv_bipush (v := (12 : Int32)) hx hb dX5_faultOfWishes_41 (by decide) ?_
    refine lv_icmp_gt (tgt := 81) hx hb dX5_faultOfWishes_43 (by decide) (fun c17 => ?_) (fun c17 => ?_)
    · replace hF := itp c17 hF
      exact hk _ _ _ _ hF hI (lv_sub hl [0] rfl)
    · replace hF := itn c17 hF
      refine lv_aload_n hx hb dX5_faultOfWishes_46 rfl (lv_at hl 0 rfl) ?_
      refine gf_X5_31 G hI h0 dX5_faultOfWishes_47 ?_
      refine lv_aload_n hx hb dX5_faultOfWishes_50 rfl (lv_at hl 0 rfl) ?_
      refine gf_X5_24 G hI h0 dX5_faultOfWishes_51 ?_
      refine lv_icmp_ge (tgt := 81) hx hb dX5_faultOfWishes_54 (by decide) (fun c16 => ?_) (fun c16 => ?_)
      · replace hF := itp c16 hF
        exact hk _ _ _ _ hF hI (lv_sub hl [0] rfl)
      · replace hF := itn c16 hF
        refine lv_aload_n hx hb dX5_faultOfWishes_57 rfl (lv_at hl 0 rfl) ?_
        refine gf_X5_34 G hI h0 dX5_faultOfWishes_58 ?_
        refine lv_iconst (v := (-1 : Int32)) hx hb dX5_faultOfWishes_61 (by decide) ?_
        refine lv_icmp_ne (tgt := 81) hx hb dX5_faultOfWishes_62 (by decide) (fun c15 => ?_) (fun c15 => ?_)
        · replace hF := itn c15 hF
          exact hk _ _ _ _ hF hI (lv_sub hl [0] rfl)
        · replace hF := itp c15 hF
          refine lv_aload_n hx hb dX5_faultOfWishes_65 rfl (lv_at hl 0 rfl) ?_
          refine lv_iload_n hx hb dX5_faultOfWishes_66 rfl (lv_at hl 1 rfl) ?_
          refine lv_iload_n hx hb dX5_faultOfWishes_67 rfl (lv_at hl 2 rfl) ?_
          obtain ⟨r10, w9, z11, hF⟩ := bd_some hF
          refine n_Vv (rest := []) G hI (c_X5_readWish hA h0 z11) my_X5_readWish kl_X5_40 (isX5.lt h0) (isX5.sh h0) rfl ⟨Nat.le_of_ble_eq_true rfl, Nat.le_of_ble_eq_true rfl⟩ rfl hl.1 rfl (Nat.le_of_ble_eq_true rfl) dX5_faultOfWishes_68 (fun H locs hI => ?_)
          refine lv_aload_n hx hb dX5_faultOfWishes_71 rfl (lv_at hl 0 rfl) ?_
          obtain ⟨r13, w12, z14, hF⟩ := bd_some hF
          refine n_Vv (rest := []) G hI (c_X5_skipBlanks hA h0 z14) my_X5_skipBlanks kl_X5_37 (isX5.lt h0) (isX5.sh h0) rfl ⟨Nat.le_of_ble_eq_true rfl, Nat.le_of_ble_eq_true rfl⟩ rfl hl.1 rfl (Nat.le_of_ble_eq_true rfl) dX5_faultOfWishes_72 (fun H locs hI => ?_)
          refine lv_iinc (v := (v3 + (1 : Int32))) (lv' := [(3, .int (v3 + (1 : Int32))), (0, .ref (ad 41)), (1, .int a1), (2, .int a2)]) hx hb dX5_faultOfWishes_75 hl (k := 3) rfl rfl (by decide) rfl (fun ls hl => ?_)
          refine lv_goto (tgt := 40) hx hb dX5_faultOfWishes_78 (by decide) ?_
          exact ih _ _ _ _ _ hF hI (lv_sub hl [1, 2, 3, 0] rfl)
set_option maxHeartbeats 4000000 in
theorem c_X5_faultOfWishes (hA : AdOk n ad A) (h0 : isX5 n sh 41) {a1 : Int32} {a2 : Int32} {w w' : Mem} {r : Int32} (hF : F_X5_faultOfWishes a1 a2 w = some (r, w')) : Ctr l n sh D cA ad A sa yX5_faultOfWishes cX5_faultOfWishes 4 (some .int) 5 111 [.ref (ad 41), .int a1, .int a2] w (some (.int r)) w' := by
  refine m_enter hA (by decide) (Nat.le_of_ble_eq_true rfl) ?_
  intro p e s m args below meth c ls G hI hl
  replace hl : lv_has ls 4 [(0, .ref (ad 41)), (1, .int a1), (2, .int a2)] := hl
  replace G : Mx n D cA ad A sa p s m args meth c RX5 cX5_faultOfWishes 4 (some .int) := G
  obtain ⟨hx, hb, -, -, hown, hg, -⟩ := id G
  unfold F_X5_faultOfWishes at hF
  refine lv_aload_n hx hb dX5_faultOfWishes_0 rfl (lv_at hl 0 rfl) ?_
  refine gf_X5_20 G hI h0 dX5_faultOfWishes_1 ?_
  refine lv_iconst (v := (0 : Int32)) hx hb dX5_faultOfWishes_4 (by decide) ?_
  obtain ⟨r2, w1, z3, hF⟩ := bd_some hF
  refine n_Vv (rest := []) G hI (c_X4_cutTo hA (isX5.wishes h0) z3) my_X4_cutTo kl_X5_28 (isX4.lt (isX5.wishes h0)) (isX4.sh (isX5.wishes h0)) rfl ⟨Nat.le_of_ble_eq_true rfl, Nat.le_of_ble_eq_true rfl⟩ rfl hl.1 rfl (Nat.le_of_ble_eq_true rfl) dX5_faultOfWishes_5 (fun H locs hI => ?_)
  refine lv_aload_n hx hb dX5_faultOfWishes_8 rfl (lv_at hl 0 rfl) ?_
  refine lv_iconst (v := (0 : Int32)) hx hb dX5_faultOfWishes_9 (by decide) ?_
  obtain ⟨w4, ew4, hF⟩ := lt_some hF
  refine pf_X5_31 G hI h0 dX5_faultOfWishes_10 (fun H locs hI => ?_)
  replace hI : Iv n sh D cA ad A s.heap w4 H locs := by rw [ew4]; exact hI
  refine lv_aload_n hx hb dX5_faultOfWishes_13 rfl (lv_at hl 0 rfl) ?_
  refine lv_iconst (v := (-1 : Int32)) hx hb dX5_faultOfWishes_14 (by decide) ?_
  obtain ⟨w5, ew5, hF⟩ := lt_some hF
  refine pf_X5_34 G hI h0 dX5_faultOfWishes_15 (fun H locs hI => ?_)
  replace hI : Iv n sh D cA ad A s.heap w5 H locs := by rw [ew5]; exact hI
  refine lv_aload_n hx hb dX5_faultOfWishes_18 rfl (lv_at hl 0 rfl) ?_
  obtain ⟨r7, w6, z8, hF⟩ := bd_some hF
  refine n_Vv (rest := []) G hI (c_X5_skipBlanks hA h0 z8) my_X5_skipBlanks kl_X5_37 (isX5.lt h0) (isX5.sh h0) rfl ⟨Nat.le_of_ble_eq_true rfl, Nat.le_of_ble_eq_true rfl⟩ rfl hl.1 rfl (Nat.le_of_ble_eq_true rfl) dX5_faultOfWishes_19 (fun H locs hI => ?_)
  refine lv_aload_n hx hb dX5_faultOfWishes_22 rfl (lv_at hl 0 rfl) ?_
  refine gf_X5_31 G hI h0 dX5_faultOfWishes_23 ?_
  refine lv_aload_n hx hb dX5_faultOfWishes_26 rfl (lv_at hl 0 rfl) ?_
  refine gf_X5_24 G hI h0 dX5_faultOfWishes_27 ?_
  refine lv_icmp_lt (tgt := 38) hx hb dX5_faultOfWishes_30 (by decide) (fun c19 => ?_) (fun c19 => ?_)
  · replace hF := itp c19 hF
    refine lv_iconst (v := (0 : Int32)) hx hb dX5_faultOfWishes_38 (by decide) ?_
    refine lv_istore_n (lv' := [(3, .int (0 : Int32)), (0, .ref (ad 41)), (1, .int a1), (2, .int a2)]) hx hb dX5_faultOfWishes_39 rfl hl (by decide) rfl (fun ls hl => ?_)
    refine l_X5_faultOfWishes_40 G h0 (fun w18 H locs ls hF hI hl => ?_) _ _ _ _ _ _ hF hI (lv_sub hl [1, 2, 3, 0] rfl)
    refine lv_aload_n hx hb dX5_faultOfWishes_81 rfl (lv_at hl 0 rfl) ?_
    refine gf_X5_34 G hI h0 dX5_faultOfWishes_82 ?_
    exact n_iret G hI hF rfl dX5_faultOfWishes_85
  · replace hF := itn c19 hF
    refine lv_aload_n hx hb dX5_faultOfWishes_33 rfl (lv_at hl 0 rfl) ?_
    refine gf_X5_24 G hI h0 dX5_faultOfWishes_34 ?_
    exact n_iret G hI hF rfl dX5_faultOfWishes_37
set_option maxHeartbeats 4000000 in
theorem c_X6_refuseBad (hA : AdOk n ad A) (h0 : isX6 n sh 0) {w w' : Mem} {r : Int32} (hF : F_X6_refuseBad  w = some (r, w')) : Ctr l n sh D cA ad A sa yX6_refuseBad cX6_refuseBad 1 (some .int) 0 0 [.ref (ad 0)] w (some (.int r)) w' := by
  refine m_enter hA (by decide) (Nat.le_of_ble_eq_true rfl) ?_
  intro p e s m args below meth c ls G hI hl
  replace hl : lv_has ls 1 [(0, .ref (ad 0))] := hl
  replace G : Mx n D cA ad A sa p s m args meth c RX6 cX6_refuseBad 1 (some .int) := G
  obtain ⟨hx, hb, -, -, hown, hg, -⟩ := id G
  unfold F_X6_refuseBad at hF
  refine lv_aload_n hx hb dX6_refuseBad_0 rfl (lv_at hl 0 rfl) ?_
  refine gf_X6_52 G hI h0 dX6_refuseBad_1 ?_
  refine lv_iconst (v := (0 : Int32)) hx hb dX6_refuseBad_4 (by decide) ?_
  refine lv_dup2_11 hx hb dX6_refuseBad_5 rfl rfl ?_
  refine n_ald G hI (isX6.refused h0) (by decide) dX6_refuseBad_6 ?_
  refine W.eq (g2 := F0 m 7 ls [.int (w 45 0), .int (0 : Int32), .ref (ad 45)]) rfl ?_
  refine lv_iconst (v := (1 : Int32)) hx hb dX6_refuseBad_7 (by decide) ?_
  refine lv_iadd hx hb dX6_refuseBad_8 ?_
  obtain ⟨w1, ew1, hF⟩ := lt_some hF
  refine n_ast G hI (isX6.refused h0) (by decide) dX6_refuseBad_9 (fun H locs hI => ?_)
  replace hI : Iv n sh D cA ad A s.heap w1 H locs := by rw [ew1]; exact hI
  refine lv_bipush (v := (-2 : Int32)) hx hb dX6_refuseBad_10 (by decide) ?_
  exact n_iret G hI hF rfl dX6_refuseBad_12
set_option maxHeartbeats 4000000 in
theorem c_X6_sets (hA : AdOk n ad A) (h0 : isX6 n sh 0) {a1 : Int32} {a2 : Int32} {w w' : Mem} {r : Int32} (hF : F_X6_sets a1 a2 w = some (r, w')) : Ctr l n sh D cA ad A sa yX6_sets cX6_sets 4 (some .int) 1 22 [.ref (ad 0), .int a1, .int a2] w (some (.int r)) w' := by
  refine m_enter hA (by decide) (Nat.le_of_ble_eq_true rfl) ?_
  intro p e s m args below meth c ls G hI hl
  replace hl : lv_has ls 4 [(0, .ref (ad 0)), (1, .int a1), (2, .int a2)] := hl
  replace G : Mx n D cA ad A sa p s m args meth c RX6 cX6_sets 4 (some .int) := G
  obtain ⟨hx, hb, -, -, hown, hg, -⟩ := id G
  unfold F_X6_sets at hF
  refine lv_iload_n hx hb dX6_sets_0 rfl (lv_at hl 1 rfl) ?_
  refine lv_iconst (v := (0 : Int32)) hx hb dX6_sets_1 (by decide) ?_
  refine lv_bipush (v := (6 : Int32)) hx hb dX6_sets_2 (by decide) ?_
  obtain ⟨r2, w1, z3, hF⟩ := bd_some hF
  refine n_Si (rest := []) G hI (c_X6_within hA  z3) my_X6_within kl_X6_56 ⟨Nat.le_of_ble_eq_true rfl, Nat.le_of_ble_eq_true rfl⟩ rfl hl.1 rfl (Nat.le_of_ble_eq_true rfl) dX6_sets_4 (fun H locs hI => ?_)
  refine lv_if_eq (tgt := 27) hx hb dX6_sets_7 (by decide) (fun c25 => ?_) (fun c25 => ?_)
  · replace hF := itp c25 hF
    refine lv_aload_n hx hb dX6_sets_27 rfl (lv_at hl 0 rfl) ?_
    obtain ⟨r5, w4, z6, hF⟩ := bd_some hF
    refine n_Vi (rest := []) G hI (c_X6_refuseBad hA h0 z6) my_X6_refuseBad kl_X6_66 (isX6.lt h0) (isX6.sh h0) rfl ⟨Nat.le_of_ble_eq_true rfl, Nat.le_of_ble_eq_true rfl⟩ rfl hl.1 rfl (Nat.le_of_ble_eq_true rfl) dX6_sets_28 (fun H locs hI => ?_)
    exact n_iret G hI hF rfl dX6_sets_31
  · replace hF := itn c25 hF
    refine lv_iload_n hx hb dX6_sets_10 rfl (lv_at hl 2 rfl) ?_
    refine m_gets G hI 1 (by decide) sf_X6_60 dX6_sets_11 ?_
    refine lv_iload_n hx hb dX6_sets_14 rfl (lv_at hl 1 rfl) ?_
    obtain ⟨g7, hF⟩ := gd_some hF
    refine n_sald G hI 1 (by decide) g7 dX6_sets_15 ?_
    refine m_gets G hI 2 (by decide) sf_X6_63 dX6_sets_16 ?_
    refine lv_iload_n hx hb dX6_sets_19 rfl (lv_at hl 1 rfl) ?_
    obtain ⟨g8, hF⟩ := gd_some hF
    refine n_sald G hI 2 (by decide) g8 dX6_sets_20 ?_
    obtain ⟨r10, w9, z11, hF⟩ := bd_some hF
    refine n_Si (rest := []) G hI (c_X6_within hA  z11) my_X6_within kl_X6_56 ⟨Nat.le_of_ble_eq_true rfl, Nat.le_of_ble_eq_true rfl⟩ rfl hl.1 rfl (Nat.le_of_ble_eq_true rfl) dX6_sets_21 (fun H locs hI => ?_)
    refine lv_if_ne (tgt := 32) hx hb dX6_sets_24 (by decide) (fun c24 => ?_) (fun c24 => ?_)
    · replace hF := itn c24 hF
      refine lv_iload_n hx hb dX6_sets_32 rfl (lv_at hl 1 rfl) ?_
      obtain ⟨k12, ek12, hF⟩ := jn_some hF
      have hJ12 : ∀  (H : Heap) (locs : List Loc) (ls : Array Slot), k12  = some (r, w') → Iv n sh D cA ad A s.heap w9 H locs → lv_has ls 4 [(0, .ref (ad 0)), (1, .int a1), (2, .int a2)] → W p l e ({ frames := 1, cells := 0, slots := 0, locals := 22 } : Room) s m args below meth c H locs 0 0 (QM n sh D cA ad A below args s (some (.int r)) w') (F0 m 47 ls []) := by
        intro  H locs ls hF hI hl
        replace hF := ek12.symm.trans hF
        refine lv_aload_n hx hb dX6_sets_47 rfl (lv_at hl 0 rfl) ?_
        refine gf_X6_10 G hI h0 dX6_sets_48 ?_
        refine gf_X6_70 G hI (isX6.drive h0) dX6_sets_51 ?_
        refine lv_iload_n hx hb dX6_sets_54 rfl (lv_at hl 1 rfl) ?_
        obtain ⟨g13, hF⟩ := gd_some hF
        refine n_ald G hI (isX0.setting (isX6.drive h0)) g13 dX6_sets_55 ?_
        refine lv_istore_n (lv' := [(3, .int (w9 2 (ix a1))), (0, .ref (ad 0)), (1, .int a1), (2, .int a2)]) hx hb dX6_sets_56 rfl hl (by decide) rfl (fun ls hl => ?_)
        refine lv_aload_n hx hb dX6_sets_57 rfl (lv_at hl 1 rfl) ?_
        refine gf_X6_10 G hI h0 dX6_sets_58 ?_
        refine gf_X6_70 G hI (isX6.drive h0) dX6_sets_61 ?_
        refine lv_iload_n hx hb dX6_sets_64 rfl (lv_at hl 2 rfl) ?_
        refine lv_iload_n hx hb dX6_sets_65 rfl (lv_at hl 3 rfl) ?_
        obtain ⟨g14, hF⟩ := gd_some hF
        obtain ⟨w15, ew15, hF⟩ := lt_some hF
        refine n_ast G hI (isX0.setting (isX6.drive h0)) g14 dX6_sets_66 (fun H locs hI => ?_)
        replace hI : Iv n sh D cA ad A s.heap w15 H locs := by rw [ew15]; exact hI
        refine lv_iload_n hx hb dX6_sets_67 rfl (lv_at hl 0 rfl) ?_
        exact n_iret G hI hF rfl dX6_sets_68
      refine lv_if_ne (tgt := 47) hx hb dX6_sets_33 (by decide) (fun c20 => ?_) (fun c20 => ?_)
      · replace hF := itn c20 hF
        exact hJ12  _ _ _ hF hI (lv_sub hl [0, 1, 2] rfl)
      · replace hF := itp c20 hF
        refine lv_iload_n hx hb dX6_sets_36 rfl (lv_at hl 2 rfl) ?_
        refine lv_iconst (v := (2 : Int32)) hx hb dX6_sets_37 (by decide) ?_
        refine n_irem G (by decide) dX6_sets_38 ?_
        refine lv_if_eq (tgt := 47) hx hb dX6_sets_39 (by decide) (fun c19 => ?_) (fun c19 => ?_)
        · replace hF := itp c19 hF
          exact hJ12  _ _ _ hF hI (lv_sub hl [0, 1, 2] rfl)
        · replace hF := itn c19 hF
          refine lv_aload_n hx hb dX6_sets_42 rfl (lv_at hl 0 rfl) ?_
          obtain ⟨r17, w16, z18, hF⟩ := bd_some hF
          refine n_Vi (rest := []) G hI (c_X6_refuseBad hA h0 z18) my_X6_refuseBad kl_X6_66 (isX6.lt h0) (isX6.sh h0) rfl ⟨Nat.le_of_ble_eq_true rfl, Nat.le_of_ble_eq_true rfl⟩ rfl hl.1 rfl (Nat.le_of_ble_eq_true rfl) dX6_sets_43 (fun H locs hI => ?_)
          exact n_iret G hI hF rfl dX6_sets_46
    · replace hF := itp c24 hF
      refine lv_aload_n hx hb dX6_sets_27 rfl (lv_at hl 0 rfl) ?_
      obtain ⟨r22, w21, z23, hF⟩ := bd_some hF
      refine n_Vi (rest := []) G hI (c_X6_refuseBad hA h0 z23) my_X6_refuseBad kl_X6_66 (isX6.lt h0) (isX6.sh h0) rfl ⟨Nat.le_of_ble_eq_true rfl, Nat.le_of_ble_eq_true rfl⟩ rfl hl.1 rfl (Nat.le_of_ble_eq_true rfl) dX6_sets_28 (fun H locs hI => ?_)
      exact n_iret G hI hF rfl dX6_sets_31
set_option maxHeartbeats 4000000 in
theorem c_X6_leg (hA : AdOk n ad A) (h0 : isX6 n sh 0) {a1 : Int32} {a2 : Int32} {a3 : Int32} {w w' : Mem} {r : Int32} (hF : F_X6_leg a1 a2 a3 w = some (r, w')) : Ctr l n sh D cA ad A sa yX6_leg cX6_leg 7 (some .int) 2 42 [.ref (ad 0), .int a1, .int a2, .int a3] w (some (.int r)) w' := by
  refine m_enter hA (by decide) (Nat.le_of_ble_eq_true rfl) ?_
  intro p e s m args below meth c ls G hI hl
  replace hl : lv_has ls 7 [(0, .ref (ad 0)), (1, .int a1), (2, .int a2), (3, .int a3)] := hl
  replace G : Mx n D cA ad A sa p s m args meth c RX6 cX6_leg 7 (some .int) := G
  obtain ⟨hx, hb, -, -, hown, hg, -⟩ := id G
  unfold F_X6_leg at hF
  refine lv_iload_n hx hb dX6_leg_0 rfl (lv_at hl 1 rfl) ?_
  obtain ⟨r2, w1, z3, hF⟩ := bd_some hF
  refine n_Si (rest := []) G hI (c_X6_isLeg hA  z3) my_X6_isLeg kl_X6_73 ⟨Nat.le_of_ble_eq_true rfl, Nat.le_of_ble_eq_true rfl⟩ rfl hl.1 rfl (Nat.le_of_ble_eq_true rfl) dX6_leg_1 (fun H locs hI => ?_)
  refine lv_if_eq (tgt := 16) hx hb dX6_leg_4 (by decide) (fun c31 => ?_) (fun c31 => ?_)
  · replace hF := itp c31 hF
    refine lv_aload_n hx hb dX6_leg_16 rfl (lv_at hl 0 rfl) ?_
    obtain ⟨r5, w4, z6, hF⟩ := bd_some hF
    refine n_Vi (rest := []) G hI (c_X6_refuseBad hA h0 z6) my_X6_refuseBad kl_X6_66 (isX6.lt h0) (isX6.sh h0) rfl ⟨Nat.le_of_ble_eq_true rfl, Nat.le_of_ble_eq_true rfl⟩ rfl hl.1 rfl (Nat.le_of_ble_eq_true rfl) dX6_leg_17 (fun H locs hI => ?_)
    exact n_iret G hI hF rfl dX6_leg_20
  · replace hF := itn c31 hF
    refine lv_iload_n hx hb dX6_leg_7 rfl (lv_at hl 2 rfl) ?_
    refine lv_iconst (v := (0 : Int32)) hx hb dX6_leg_8 (by decide) ?_
    refine lv_iconst (v := (1 : Int32)) hx hb dX6_leg_9 (by decide) ?_
    obtain ⟨r8, w7, z9, hF⟩ := bd_some hF
    refine n_Si (rest := []) G hI (c_X6_within hA  z9) my_X6_within kl_X6_56 ⟨Nat.le_of_ble_eq_true rfl, Nat.le_of_ble_eq_true rfl⟩ rfl hl.1 rfl (Nat.le_of_ble_eq_true rfl) dX6_leg_10 (fun H locs hI => ?_)
    refine lv_if_ne (tgt := 21) hx hb dX6_leg_13 (by decide) (fun c30 => ?_) (fun c30 => ?_)
    · replace hF := itn c30 hF
      refine lv_iload_n hx hb dX6_leg_21 rfl (lv_at hl 2 rfl) ?_
      obtain ⟨k10, ek10, hF⟩ := jn_some hF
      have hJ10 : ∀ (x11 : Int32) (H : Heap) (locs : List Loc) (ls : Array Slot), k10 x11 = some (r, w') → Iv n sh D cA ad A s.heap w7 H locs → lv_has ls 7 [(0, .ref (ad 0)), (1, .int a1), (2, .int a2), (3, .int a3)] → W p l e ({ frames := 2, cells := 0, slots := 0, locals := 42 } : Room) s m args below meth c H locs 0 0 (QM n sh D cA ad A below args s (some (.int r)) w') (F0 m 34 ls [.int x11]) := by
        intro x11 H locs ls hF hI hl
        replace hF := (congrFun ek10 x11).symm.trans hF
        refine lv_istore (lv' := [(4, .int x11), (0, .ref (ad 0)), (1, .int a1), (2, .int a2), (3, .int a3)]) hx hb dX6_leg_34 hl (by decide) rfl (fun ls hl => ?_)
        refine lv_iload_n hx hb dX6_leg_36 rfl (lv_at hl 4 rfl) ?_
        refine lv_iload hx hb dX6_leg_37 (lv_at hl 0 rfl) ?_
        refine lv_ineg hx hb dX6_leg_39 ?_
        refine lv_iload hx hb dX6_leg_40 (lv_at hl 0 rfl) ?_
        obtain ⟨r13, w12, z14, hF⟩ := bd_some hF
        refine n_Si (rest := []) G hI (c_X6_within hA  z14) my_X6_within kl_X6_56 ⟨Nat.le_of_ble_eq_true rfl, Nat.le_of_ble_eq_true rfl⟩ rfl hl.1 rfl (Nat.le_of_ble_eq_true rfl) dX6_leg_42 (fun H locs hI => ?_)
        refine lv_if_ne (tgt := 53) hx hb dX6_leg_45 (by decide) (fun c25 => ?_) (fun c25 => ?_)
        · replace hF := itn c25 hF
          refine lv_iload_n hx hb dX6_leg_53 rfl (lv_at hl 3 rfl) ?_
          refine lv_if_ne (tgt := 67) hx hb dX6_leg_54 (by decide) (fun c21 => ?_) (fun c21 => ?_)
          · replace hF := itn c21 hF
            refine lv_aload_n hx hb dX6_leg_67 rfl (lv_at hl 1 rfl) ?_
            refine gf_X6_10 G hI h0 dX6_leg_68 ?_
            refine gf_X6_80 G hI (isX6.drive h0) dX6_leg_71 ?_
            refine lv_astore (lv' := [(5, .ref (ad 4)), (4, .int x11), (0, .ref (ad 0)), (1, .int a1), (2, .int a2), (3, .int a3)]) hx hb dX6_leg_74 hl (by decide) rfl (fun ls hl => ?_)
            refine lv_aload hx hb dX6_leg_76 (lv_at hl 0 rfl) ?_
            refine lv_iload_n hx hb dX6_leg_78 rfl (lv_at hl 3 rfl) ?_
            obtain ⟨g15, hF⟩ := gd_some hF
            refine n_ald G hI (isX0.current (isX6.drive h0)) g15 dX6_leg_79 ?_
            refine lv_istore (lv' := [(6, .int (w12 4 (ix a1))), (5, .ref (ad 4)), (4, .int x11), (0, .ref (ad 0)), (1, .int a1), (2, .int a2), (3, .int a3)]) hx hb dX6_leg_80 hl (by decide) rfl (fun ls hl => ?_)
            refine lv_aload hx hb dX6_leg_82 (lv_at hl 1 rfl) ?_
            refine lv_iload_n hx hb dX6_leg_84 rfl (lv_at hl 4 rfl) ?_
            refine lv_iload_n hx hb dX6_leg_85 rfl (lv_at hl 6 rfl) ?_
            obtain ⟨g16, hF⟩ := gd_some hF
            obtain ⟨w17, ew17, hF⟩ := lt_some hF
            refine n_ast G hI (isX0.current (isX6.drive h0)) g16 dX6_leg_86 (fun H locs hI => ?_)
            replace hI : Iv n sh D cA ad A s.heap w17 H locs := by rw [ew17]; exact hI
            refine lv_iload hx hb dX6_leg_87 (lv_at hl 0 rfl) ?_
            exact n_iret G hI hF rfl dX6_leg_89
          · replace hF := itp c21 hF
            refine lv_aload_n hx hb dX6_leg_57 rfl (lv_at hl 1 rfl) ?_
            refine gf_X6_10 G hI h0 dX6_leg_58 ?_
            refine gf_X6_77 G hI (isX6.drive h0) dX6_leg_61 ?_
            refine lv_goto (tgt := 74) hx hb dX6_leg_64 (by decide) ?_
            refine lv_astore (lv' := [(5, .ref (ad 3)), (4, .int x11), (0, .ref (ad 0)), (1, .int a1), (2, .int a2), (3, .int a3)]) hx hb dX6_leg_74 hl (by decide) rfl (fun ls hl => ?_)
            refine lv_aload hx hb dX6_leg_76 (lv_at hl 0 rfl) ?_
            refine lv_iload_n hx hb dX6_leg_78 rfl (lv_at hl 3 rfl) ?_
            obtain ⟨g18, hF⟩ := gd_some hF
            refine n_ald G hI (isX0.demand (isX6.drive h0)) g18 dX6_leg_79 ?_
            refine lv_istore (lv' := [(6, .int (w12 3 (ix a1))), (5, .ref (ad 3)), (4, .int x11), (0, .ref (ad 0)), (1, .int a1), (2, .int a2), (3, .int a3)]) hx hb dX6_leg_80 hl (by decide) rfl (fun ls hl => ?_)
            refine lv_aload hx hb dX6_leg_82 (lv_at hl 1 rfl) ?_
            refine lv_iload_n hx hb dX6_leg_84 rfl (lv_at hl 4 rfl) ?_
            refine lv_iload_n hx hb dX6_leg_85 rfl (lv_at hl 6 rfl) ?_
            obtain ⟨g19, hF⟩ := gd_some hF
            obtain ⟨w20, ew20, hF⟩ := lt_some hF
            refine n_ast G hI (isX0.demand (isX6.drive h0)) g19 dX6_leg_86 (fun H locs hI => ?_)
            replace hI : Iv n sh D cA ad A s.heap w20 H locs := by rw [ew20]; exact hI
            refine lv_iload hx hb dX6_leg_87 (lv_at hl 0 rfl) ?_
            exact n_iret G hI hF rfl dX6_leg_89
        · replace hF := itp c25 hF
          refine lv_aload_n hx hb dX6_leg_48 rfl (lv_at hl 1 rfl) ?_
          obtain ⟨r23, w22, z24, hF⟩ := bd_some hF
          refine n_Vi (rest := []) G hI (c_X6_refuseBad hA h0 z24) my_X6_refuseBad kl_X6_66 (isX6.lt h0) (isX6.sh h0) rfl ⟨Nat.le_of_ble_eq_true rfl, Nat.le_of_ble_eq_true rfl⟩ rfl hl.1 rfl (Nat.le_of_ble_eq_true rfl) dX6_leg_49 (fun H locs hI => ?_)
          exact n_iret G hI hF rfl dX6_leg_52
      refine lv_if_ne (tgt := 31) hx hb dX6_leg_22 (by decide) (fun c26 => ?_) (fun c26 => ?_)
      · replace hF := itn c26 hF
        refine lv_sipush (v := (999 : Int32)) hx hb dX6_leg_31 (by decide) ?_
        exact hJ10 _ _ _ _ hF hI (lv_sub hl [0, 1, 2, 3] rfl)
      · replace hF := itp c26 hF
        refine lv_sipush (v := (200 : Int32)) hx hb dX6_leg_25 (by decide) ?_
        refine lv_goto (tgt := 34) hx hb dX6_leg_28 (by decide) ?_
        exact hJ10 _ _ _ _ hF hI (lv_sub hl [0, 1, 2, 3] rfl)
    · replace hF := itp c30 hF
      refine lv_aload_n hx hb dX6_leg_16 rfl (lv_at hl 0 rfl) ?_
      obtain ⟨r28, w27, z29, hF⟩ := bd_some hF
      refine n_Vi (rest := []) G hI (c_X6_refuseBad hA h0 z29) my_X6_refuseBad kl_X6_66 (isX6.lt h0) (isX6.sh h0) rfl ⟨Nat.le_of_ble_eq_true rfl, Nat.le_of_ble_eq_true rfl⟩ rfl hl.1 rfl (Nat.le_of_ble_eq_true rfl) dX6_leg_17 (fun H locs hI => ?_)
      exact n_iret G hI hF rfl dX6_leg_20
set_option maxHeartbeats 4000000 in
theorem c_X6_anew (hA : AdOk n ad A) (h0 : isX6 n sh 0) {w w' : Mem} {r : Int32} (hF : F_X6_anew  w = some (r, w')) : Ctr l n sh D cA ad A sa yX6_anew cX6_anew 2 (some .int) 4 85 [.ref (ad 0)] w (some (.int r)) w' := by
  refine m_enter hA (by decide) (Nat.le_of_ble_eq_true rfl) ?_
  intro p e s m args below meth c ls G hI hl
  replace hl : lv_has ls 2 [(0, .ref (ad 0))] := hl
  replace G : Mx n D cA ad A sa p s m args meth c RX6 cX6_anew 2 (some .int) := G
  obtain ⟨hx, hb, -, -, hown, hg, -⟩ := id G
  unfold F_X6_anew at hF
  refine lv_aload_n hx hb dX6_anew_0 rfl (lv_at hl 0 rfl) ?_
  refine gf_X6_10 G hI h0 dX6_anew_1 ?_
  refine gf_X6_83 G hI (isX6.drive h0) dX6_anew_4 ?_
  refine lv_istore_n (lv' := [(1, .int (w 1 7)), (0, .ref (ad 0))]) hx hb dX6_anew_7 rfl hl (by decide) rfl (fun ls hl => ?_)
  refine lv_aload_n hx hb dX6_anew_8 rfl (lv_at hl 1 rfl) ?_
  refine gf_X6_10 G hI h0 dX6_anew_9 ?_
  obtain ⟨r2, w1, z3, hF⟩ := bd_some hF
  refine n_Vv (rest := []) G hI (c_X0_beginAnew hA (isX6.drive h0) z3) my_X0_beginAnew kl_X6_87 (isX0.lt (isX6.drive h0)) (isX0.sh (isX6.drive h0)) rfl ⟨Nat.le_of_ble_eq_true rfl, Nat.le_of_ble_eq_true rfl⟩ rfl hl.1 rfl (Nat.le_of_ble_eq_true rfl) dX6_anew_12 (fun H locs hI => ?_)
  refine lv_aload_n hx hb dX6_anew_15 rfl (lv_at hl 1 rfl) ?_
  refine gf_X6_42 G hI h0 dX6_anew_16 ?_
  refine lv_iconst (v := (0 : Int32)) hx hb dX6_anew_19 (by decide) ?_
  obtain ⟨r5, w4, z6, hF⟩ := bd_some hF
  refine n_Vv (rest := []) G hI (c_X4_cutTo hA (isX6.remembered h0) z6) my_X4_cutTo kl_X6_90 (isX4.lt (isX6.remembered h0)) (isX4.sh (isX6.remembered h0)) rfl ⟨Nat.le_of_ble_eq_true rfl, Nat.le_of_ble_eq_true rfl⟩ rfl hl.1 rfl (Nat.le_of_ble_eq_true rfl) dX6_anew_20 (fun H locs hI => ?_)
  refine lv_iload_n hx hb dX6_anew_23 rfl (lv_at hl 0 rfl) ?_
  exact n_iret G hI hF rfl dX6_anew_24
set_option maxHeartbeats 4000000 in
theorem c_X6_planNow (hA : AdOk n ad A) (h0 : isX6 n sh 0) {w w' : Mem} {r : Unit} (hF : F_X6_planNow  w = some (r, w')) : Ctr l n sh D cA ad A sa yX6_planNow cX6_planNow 1 (some (.object "DriveTicks$Plan")) 5 114 [.ref (ad 0)] w (some (.ref (ad 9))) w' := by
  refine m_enter hA (by decide) (Nat.le_of_ble_eq_true rfl) ?_
  intro p e s m args below meth c ls G hI hl
  replace hl : lv_has ls 1 [(0, .ref (ad 0))] := hl
  replace G : Mx n D cA ad A sa p s m args meth c RX6 cX6_planNow 1 (some (.object "DriveTicks$Plan")) := G
  obtain ⟨hx, hb, -, -, hown, hg, -⟩ := id G
  unfold F_X6_planNow at hF
  refine lv_aload_n hx hb dX6_planNow_0 rfl (lv_at hl 0 rfl) ?_
  refine gf_X6_10 G hI h0 dX6_planNow_1 ?_
  obtain ⟨r2, w1, z3, hF⟩ := bd_some hF
  refine n_Vv (rest := []) G hI (c_X0_makePlan hA (isX6.drive h0) z3) my_X0_makePlan kl_X6_279 (isX0.lt (isX6.drive h0)) (isX0.sh (isX6.drive h0)) rfl ⟨Nat.le_of_ble_eq_true rfl, Nat.le_of_ble_eq_true rfl⟩ rfl hl.1 rfl (Nat.le_of_ble_eq_true rfl) dX6_planNow_4 (fun H locs hI => ?_)
  refine lv_aload_n hx hb dX6_planNow_7 rfl (lv_at hl 0 rfl) ?_
  refine gf_X6_10 G hI h0 dX6_planNow_8 ?_
  refine gf_X6_282 G hI (isX6.drive h0) dX6_planNow_11 ?_
  exact n_aret G hI hF rfl dX6_planNow_14
set_option maxHeartbeats 4000000 in
theorem l_X6_draw_21 {p : Program} {e : Env} {s : State} {m : MethodId} {args : Array Value} {below : List Frame} {meth : Method} {c : Code} (G : Mx n D cA ad A sa p s m args meth c RX6 cX6_draw 5 (some .int))  (h0 : isX6 n sh 0) {k : Mem → Option (Int32 × Mem)} {r : Int32} {w' : Mem}
    (hk : ∀  (w : Mem) (H : Heap) (locs : List Loc) (ls : Array Slot), k  w = some (r, w') → Iv n sh D cA ad A s.heap w H locs → lv_has ls 5 [(0, .ref (ad 0))] → W p l e ({ frames := 6, cells := 0, slots := 0, locals := 134 } : Room) s m args below meth c H locs 0 0 (QM n sh D cA ad A below args s (some (.int r)) w') (F0 m 94 ls [])) :
    ∀ (N : Nat) (v2 : Int64) (v4 : Int32) (w : Mem) (H : Heap) (locs : List Loc) (ls : Array Slot), L_X6_draw_21  k N v2 v4 w = some (r, w') → Iv n sh D cA ad A s.heap w H locs → lv_has ls 5 [(0, .ref (ad 0)), (2, .long v2), (4, .int v4)] → W p l e ({ frames := 6, cells := 0, slots := 0, locals := 134 } : Room) s m args below meth c H locs 0 0 (QM n sh D cA ad A below args s (some (.int r)) w') (F0 m 21 ls []) := by
  obtain ⟨hx, hb, -, -, hown, hg, -, -, -, -, hA⟩ := id G
  intro N
  induction N with
  | zero =>
    intro v2 v4 w H locs ls hF hI hl
    cases hF
  | succ N ih =>
    intro v2 v4 w H locs ls hF hI hl
    rw [L_X6_draw_21] at hF
    refine lv_iload hx hb dX6_draw_21 (lv_at hl 2 rfl) ?_
    refine lv_iconst (v := (3 : Int32)) hx hb dX6_draw_23 (by decide) ?_
    refine lv_icmp_ge (tgt := 94) hx hb dX6_draw_24 (by decide) (fun c9 => ?_) (fun c9 => ?_)
    · replace hF := itp c9 hF
      exact hk _ _ _ _ hF hI (lv_sub hl [0] rfl)
    · replace hF := itn c9 hF
      refine lv_lload_n hx hb dX6_draw_27 rfl (lv_at hl 1 rfl) ?_
      refine lv_ldc2 hx hb hown (hg _ kc_X6_94) dX6_draw_28 ?_
      refine lv_lmul hx hb dX6_draw_31 ?_
      refine lv_ldc2 hx hb hown (hg _ kc_X6_96) dX6_draw_32 ?_
      refine lv_ladd hx hb dX6_draw_35 ?_
      refine lv_ldc2 hx hb hown (hg _ kc_X6_98) dX6_draw_36 ?_
      refine n_lrem G (by decide) dX6_draw_39 ?_
      obtain ⟨x4, ex4, hF⟩ := lt_some hF
      refine W.eq (g2 := F0 m 40 ls [.long x4]) (by rw [ex4]) ?_
      refine lv_lstore_n (lv' := [(2, .long x4), (0, .ref (ad 0)), (4, .int v4)]) hx hb dX6_draw_40 rfl hl (by decide) rfl (fun ls hl => ?_)
      refine lv_aload_n hx hb dX6_draw_41 rfl (lv_at hl 1 rfl) ?_
      refine gf_X6_10 G hI h0 dX6_draw_42 ?_
      refine gf_X6_77 G hI (isX6.drive h0) dX6_draw_45 ?_
      refine lv_iload hx hb dX6_draw_48 (lv_at hl 2 rfl) ?_
      refine lv_lload_n hx hb dX6_draw_50 rfl (lv_at hl 0 rfl) ?_
      refine lv_ldc2 hx hb hown (hg _ kc_X6_100) dX6_draw_51 ?_
      refine n_ldiv G (by decide) dX6_draw_54 ?_
      refine lv_ldc2 hx hb hown (hg _ kc_X6_102) dX6_draw_55 ?_
      refine n_lrem G (by decide) dX6_draw_58 ?_
      refine lv_l2i hx hb dX6_draw_59 rfl ?_
      refine lv_bipush (v := (100 : Int32)) hx hb dX6_draw_60 (by decide) ?_
      refine lv_isub hx hb dX6_draw_62 ?_
      obtain ⟨g5, hF⟩ := gd_some hF
      obtain ⟨w6, ew6, hF⟩ := lt_some hF
      refine n_ast G hI (isX0.demand (isX6.drive h0)) g5 dX6_draw_63 (fun H locs hI => ?_)
      replace hI : Iv n sh D cA ad A s.heap w6 H locs := by rw [ew6]; exact hI
      refine lv_aload_n hx hb dX6_draw_64 rfl (lv_at hl 1 rfl) ?_
      refine gf_X6_10 G hI h0 dX6_draw_65 ?_
      refine gf_X6_80 G hI (isX6.drive h0) dX6_draw_68 ?_
      refine lv_iload hx hb dX6_draw_71 (lv_at hl 2 rfl) ?_
      refine lv_lload_n hx hb dX6_draw_73 rfl (lv_at hl 0 rfl) ?_
      refine lv_ldc2 hx hb hown (hg _ kc_X6_104) dX6_draw_74 ?_
      refine n_ldiv G (by decide) dX6_draw_77 ?_
      refine lv_ldc2 hx hb hown (hg _ kc_X6_106) dX6_draw_78 ?_
      refine n_lrem G (by decide) dX6_draw_81 ?_
      refine lv_l2i hx hb dX6_draw_82 rfl ?_
      refine lv_sipush (v := (200 : Int32)) hx hb dX6_draw_83 (by decide) ?_
      refine lv_isub hx hb dX6_draw_86 ?_
      obtain ⟨g7, hF⟩ := gd_some hF
      obtain ⟨w8, ew8, hF⟩ := lt_some hF
      refine n_ast G hI (isX0.current (isX6.drive h0)) g7 dX6_draw_87 (fun H locs hI => ?_)
      replace hI : Iv n sh D cA ad A s.heap w8 H locs := by rw [ew8]; exact hI
      refine lv_iinc (v := (v4 + (1 : Int32))) (lv' := [(4, .int (v4 + (1 : Int32))), (2, .long x4), (0, .ref (ad 0))]) hx hb dX6_draw_88 hl (k := 2) rfl rfl (by decide) rfl (fun ls hl => ?_)
      refine lv_goto (tgt := 21) hx hb dX6_draw_91 (by decide) ?_
      exact ih _ _ _ _ _ _ hF hI (lv_sub hl [2, 1, 0] rfl)
set_option maxHeartbeats 4000000 in
theorem c_X6_draw (hA : AdOk n ad A) (h0 : isX6 n sh 0) {a1 : Int32} {w w' : Mem} {r : Int32} (hF : F_X6_draw a1 w = some (r, w')) : Ctr l n sh D cA ad A sa yX6_draw cX6_draw 5 (some .int) 6 134 [.ref (ad 0), .int a1] w (some (.int r)) w' := by
  refine m_enter hA (by decide) (Nat.le_of_ble_eq_true rfl) ?_
  intro p e s m args below meth c ls G hI hl
  replace hl : lv_has ls 5 [(0, .ref (ad 0)), (1, .int a1)] := hl
  replace G : Mx n D cA ad A sa p s m args meth c RX6 cX6_draw 5 (some .int) := G
  obtain ⟨hx, hb, -, -, hown, hg, -⟩ := id G
  unfold F_X6_draw at hF
  refine lv_iload_n hx hb dX6_draw_0 rfl (lv_at hl 1 rfl) ?_
  refine lv_iconst (v := (0 : Int32)) hx hb dX6_draw_1 (by decide) ?_
  refine lv_ldc hx hb hown (hg _ kc_X6_93) dX6_draw_2 ?_
  obtain ⟨r2, w1, z3, hF⟩ := bd_some hF
  refine n_Si (rest := []) G hI (c_X6_within hA  z3) my_X6_within kl_X6_56 ⟨Nat.le_of_ble_eq_true rfl, Nat.le_of_ble_eq_true rfl⟩ rfl hl.1 rfl (Nat.le_of_ble_eq_true rfl) dX6_draw_4 (fun H locs hI => ?_)
  refine lv_if_ne (tgt := 15) hx hb dX6_draw_7 (by decide) (fun c17 => ?_) (fun c17 => ?_)
  · replace hF := itn c17 hF
    refine lv_iload_n hx hb dX6_draw_15 rfl (lv_at hl 1 rfl) ?_
    refine lv_i2l hx hb dX6_draw_16 rfl ?_
    refine lv_lstore_n (lv' := [(2, .long (Int32.toInt64 a1)), (0, .ref (ad 0)), (1, .int a1)]) hx hb dX6_draw_17 rfl hl (by decide) rfl (fun ls hl => ?_)
    refine lv_iconst (v := (0 : Int32)) hx hb dX6_draw_18 (by decide) ?_
    refine lv_istore (lv' := [(4, .int (0 : Int32)), (2, .long (Int32.toInt64 a1)), (0, .ref (ad 0)), (1, .int a1)]) hx hb dX6_draw_19 hl (by decide) rfl (fun ls hl => ?_)
    refine l_X6_draw_21 G h0 (fun w10 H locs ls hF hI hl => ?_) _ _ _ _ _ _ _ hF hI (lv_sub hl [2, 1, 0] rfl)
    refine lv_aload_n hx hb dX6_draw_94 rfl (lv_at hl 0 rfl) ?_
    obtain ⟨r12, w11, z13, hF⟩ := bd_some hF
    refine n_Vr (rest := []) G hI (c_X6_planNow hA h0 z13) my_X6_planNow kl_X6_108 (isX6.lt h0) (isX6.sh h0) rfl ⟨Nat.le_of_ble_eq_true rfl, Nat.le_of_ble_eq_true rfl⟩ rfl hl.1 rfl (Nat.le_of_ble_eq_true rfl) dX6_draw_95 (fun H locs hI => ?_)
    refine gf_X6_112 G hI (isX0.plan (isX6.drive h0)) dX6_draw_98 ?_
    exact n_iret G hI hF rfl dX6_draw_101
  · replace hF := itp c17 hF
    refine lv_aload_n hx hb dX6_draw_10 rfl (lv_at hl 0 rfl) ?_
    obtain ⟨r15, w14, z16, hF⟩ := bd_some hF
    refine n_Vi (rest := []) G hI (c_X6_refuseBad hA h0 z16) my_X6_refuseBad kl_X6_66 (isX6.lt h0) (isX6.sh h0) rfl ⟨Nat.le_of_ble_eq_true rfl, Nat.le_of_ble_eq_true rfl⟩ rfl hl.1 rfl (Nat.le_of_ble_eq_true rfl) dX6_draw_11 (fun H locs hI => ?_)
    exact n_iret G hI hF rfl dX6_draw_14
set_option maxHeartbeats 4000000 in
theorem c_X6_runsNow (hA : AdOk n ad A) (h0 : isX6 n sh 0) {w w' : Mem} {r : Unit} (hF : F_X6_runsNow  w = some (r, w')) : Ctr l n sh D cA ad A sa yX6_runsNow cX6_runsNow 2 (some (.object "DriveTicks$Runs")) 6 134 [.ref (ad 0)] w (some (.ref (ad 27))) w' := by
  refine m_enter hA (by decide) (Nat.le_of_ble_eq_true rfl) ?_
  intro p e s m args below meth c ls G hI hl
  replace hl : lv_has ls 2 [(0, .ref (ad 0))] := hl
  replace G : Mx n D cA ad A sa p s m args meth c RX6 cX6_runsNow 2 (some (.object "DriveTicks$Runs")) := G
  obtain ⟨hx, hb, -, -, hown, hg, -⟩ := id G
  unfold F_X6_runsNow at hF
  refine lv_aload_n hx hb dX6_runsNow_0 rfl (lv_at hl 0 rfl) ?_
  obtain ⟨r2, w1, z3, hF⟩ := bd_some hF
  refine n_Vr (rest := []) G hI (c_X6_planNow hA h0 z3) my_X6_planNow kl_X6_108 (isX6.lt h0) (isX6.sh h0) rfl ⟨Nat.le_of_ble_eq_true rfl, Nat.le_of_ble_eq_true rfl⟩ rfl hl.1 rfl (Nat.le_of_ble_eq_true rfl) dX6_runsNow_1 (fun H locs hI => ?_)
  refine lv_astore_n (lv' := [(1, .ref (ad 9)), (0, .ref (ad 0))]) hx hb dX6_runsNow_4 rfl hl (by decide) rfl (fun ls hl => ?_)
  refine lv_aload_n hx hb dX6_runsNow_5 rfl (lv_at hl 1 rfl) ?_
  refine gf_X6_22 G hI h0 dX6_runsNow_6 ?_
  refine lv_aload_n hx hb dX6_runsNow_9 rfl (lv_at hl 0 rfl) ?_
  refine gf_X6_182 G hI (isX0.plan (isX6.drive h0)) dX6_runsNow_10 ?_
  refine lv_aload_n hx hb dX6_runsNow_13 rfl (lv_at hl 1 rfl) ?_
  refine gf_X6_10 G hI h0 dX6_runsNow_14 ?_
  refine gf_X6_70 G hI (isX6.drive h0) dX6_runsNow_17 ?_
  refine lv_iconst (v := (3 : Int32)) hx hb dX6_runsNow_20 (by decide) ?_
  refine n_ald G hI (isX0.setting (isX6.drive h0)) (by decide) dX6_runsNow_21 ?_
  refine W.eq (g2 := F0 m 22 ls [.int (w1 2 3), .int (w1 9 0), .ref (ad 27)]) rfl ?_
  refine lv_aload_n hx hb dX6_runsNow_22 rfl (lv_at hl 0 rfl) ?_
  refine gf_X6_138 G hI (isX0.plan (isX6.drive h0)) dX6_runsNow_23 ?_
  refine lv_aload_n hx hb dX6_runsNow_26 rfl (lv_at hl 0 rfl) ?_
  refine gf_X6_135 G hI (isX0.plan (isX6.drive h0)) dX6_runsNow_27 ?_
  obtain ⟨r5, w4, z6, hF⟩ := bd_some hF
  refine n_Vv (rest := []) G hI (c_X2_find hA (isX6.runs h0) (isX1.start (isX0.plan (isX6.drive h0))) (isX1.high (isX0.plan (isX6.drive h0))) z6) my_X2_find kl_X6_286 (isX2.lt (isX6.runs h0)) (isX2.sh (isX6.runs h0)) rfl ⟨Nat.le_of_ble_eq_true rfl, Nat.le_of_ble_eq_true rfl⟩ rfl hl.1 rfl (Nat.le_of_ble_eq_true rfl) dX6_runsNow_30 (fun H locs hI => ?_)
  refine lv_aload_n hx hb dX6_runsNow_33 rfl (lv_at hl 1 rfl) ?_
  refine gf_X6_22 G hI h0 dX6_runsNow_34 ?_
  exact n_aret G hI hF rfl dX6_runsNow_37
set_option maxHeartbeats 4000000 in
theorem c_X6_plan (hA : AdOk n ad A) (h0 : isX6 n sh 0) {a1 : Int32} {w w' : Mem} {r : Int32} (hF : F_X6_plan a1 w = some (r, w')) : Ctr l n sh D cA ad A sa yX6_plan cX6_plan 2 (some .int) 7 155 [.ref (ad 0), .int a1] w (some (.int r)) w' := by
  refine m_enter hA (by decide) (Nat.le_of_ble_eq_true rfl) ?_
  intro p e s m args below meth c ls G hI hl
  replace hl : lv_has ls 2 [(0, .ref (ad 0)), (1, .int a1)] := hl
  replace G : Mx n D cA ad A sa p s m args meth c RX6 cX6_plan 2 (some .int) := G
  obtain ⟨hx, hb, -, -, hown, hg, -⟩ := id G
  unfold F_X6_plan at hF
  refine lv_iload_n hx hb dX6_plan_0 rfl (lv_at hl 1 rfl) ?_
  by_cases c26 : a1 = (0 : Int32)
  · replace hF := itp c26 hF
    refine lv_tableIn (tgt := 36) hx hb dX6_plan_1 (by rw [c26]; decide) (by rw [c26]; decide) (by rw [c26]; rfl) (by decide) ?_
    refine lv_aload_n hx hb dX6_plan_36 rfl (lv_at hl 0 rfl) ?_
    obtain ⟨r5, w4, z6, hF⟩ := bd_some hF
    refine n_Vr (rest := []) G hI (c_X6_planNow hA h0 z6) my_X6_planNow kl_X6_108 (isX6.lt h0) (isX6.sh h0) rfl ⟨Nat.le_of_ble_eq_true rfl, Nat.le_of_ble_eq_true rfl⟩ rfl hl.1 rfl (Nat.le_of_ble_eq_true rfl) dX6_plan_37 (fun H locs hI => ?_)
    refine gf_X6_112 G hI (isX0.plan (isX6.drive h0)) dX6_plan_40 ?_
    exact n_iret G hI hF rfl dX6_plan_43
  · replace hF := itn c26 hF
    by_cases c27 : a1 = (1 : Int32)
    · replace hF := itp c27 hF
      refine lv_tableIn (tgt := 44) hx hb dX6_plan_1 (by rw [c27]; decide) (by rw [c27]; decide) (by rw [c27]; rfl) (by decide) ?_
      refine lv_aload_n hx hb dX6_plan_44 rfl (lv_at hl 0 rfl) ?_
      obtain ⟨r8, w7, z9, hF⟩ := bd_some hF
      refine n_Vr (rest := []) G hI (c_X6_planNow hA h0 z9) my_X6_planNow kl_X6_108 (isX6.lt h0) (isX6.sh h0) rfl ⟨Nat.le_of_ble_eq_true rfl, Nat.le_of_ble_eq_true rfl⟩ rfl hl.1 rfl (Nat.le_of_ble_eq_true rfl) dX6_plan_45 (fun H locs hI => ?_)
      refine gf_X6_117 G hI (isX0.plan (isX6.drive h0)) dX6_plan_48 ?_
      refine lv_if_eq (tgt := 58) hx hb dX6_plan_51 (by decide) (fun c10 => ?_) (fun c10 => ?_)
      · replace hF := itp c10 hF
        refine lv_iconst (v := (0 : Int32)) hx hb dX6_plan_58 (by decide) ?_
        exact n_iret G hI hF rfl dX6_plan_59
      · replace hF := itn c10 hF
        refine lv_iconst (v := (1 : Int32)) hx hb dX6_plan_54 (by decide) ?_
        refine lv_goto (tgt := 59) hx hb dX6_plan_55 (by decide) ?_
        exact n_iret G hI hF rfl dX6_plan_59
    · replace hF := itn c27 hF
      by_cases c28 : a1 = (2 : Int32)
      · replace hF := itp c28 hF
        refine lv_tableIn (tgt := 60) hx hb dX6_plan_1 (by rw [c28]; decide) (by rw [c28]; decide) (by rw [c28]; rfl) (by decide) ?_
        refine lv_aload_n hx hb dX6_plan_60 rfl (lv_at hl 0 rfl) ?_
        obtain ⟨r12, w11, z13, hF⟩ := bd_some hF
        refine n_Vr (rest := []) G hI (c_X6_runsNow hA h0 z13) my_X6_runsNow kl_X6_121 (isX6.lt h0) (isX6.sh h0) rfl ⟨Nat.le_of_ble_eq_true rfl, Nat.le_of_ble_eq_true rfl⟩ rfl hl.1 rfl (Nat.le_of_ble_eq_true rfl) dX6_plan_61 (fun H locs hI => ?_)
        refine lv_iconst (v := (0 : Int32)) hx hb dX6_plan_64 (by decide) ?_
        obtain ⟨r15, w14, z16, hF⟩ := bd_some hF
        refine n_Vi (rest := []) G hI (c_X2_ticksOf hA (isX6.runs h0) z16) my_X2_ticksOf kl_X6_125 (isX2.lt (isX6.runs h0)) (isX2.sh (isX6.runs h0)) rfl ⟨Nat.le_of_ble_eq_true rfl, Nat.le_of_ble_eq_true rfl⟩ rfl hl.1 rfl (Nat.le_of_ble_eq_true rfl) dX6_plan_65 (fun H locs hI => ?_)
        exact n_iret G hI hF rfl dX6_plan_68
      · replace hF := itn c28 hF
        by_cases c29 : a1 = (3 : Int32)
        · replace hF := itp c29 hF
          refine lv_tableIn (tgt := 69) hx hb dX6_plan_1 (by rw [c29]; decide) (by rw [c29]; decide) (by rw [c29]; rfl) (by decide) ?_
          refine lv_aload_n hx hb dX6_plan_69 rfl (lv_at hl 0 rfl) ?_
          obtain ⟨r18, w17, z19, hF⟩ := bd_some hF
          refine n_Vr (rest := []) G hI (c_X6_runsNow hA h0 z19) my_X6_runsNow kl_X6_121 (isX6.lt h0) (isX6.sh h0) rfl ⟨Nat.le_of_ble_eq_true rfl, Nat.le_of_ble_eq_true rfl⟩ rfl hl.1 rfl (Nat.le_of_ble_eq_true rfl) dX6_plan_70 (fun H locs hI => ?_)
          refine lv_bipush (v := (7 : Int32)) hx hb dX6_plan_73 (by decide) ?_
          obtain ⟨r21, w20, z22, hF⟩ := bd_some hF
          refine n_Vi (rest := []) G hI (c_X2_ticksOf hA (isX6.runs h0) z22) my_X2_ticksOf kl_X6_125 (isX2.lt (isX6.runs h0)) (isX2.sh (isX6.runs h0)) rfl ⟨Nat.le_of_ble_eq_true rfl, Nat.le_of_ble_eq_true rfl⟩ rfl hl.1 rfl (Nat.le_of_ble_eq_true rfl) dX6_plan_75 (fun H locs hI => ?_)
          exact n_iret G hI hF rfl dX6_plan_78
        · replace hF := itn c29 hF
          by_cases c30 : a1 = (4 : Int32)
          · replace hF := itp c30 hF
            refine lv_tableIn (tgt := 79) hx hb dX6_plan_1 (by rw [c30]; decide) (by rw [c30]; decide) (by rw [c30]; rfl) (by decide) ?_
            refine lv_aload_n hx hb dX6_plan_79 rfl (lv_at hl 0 rfl) ?_
            obtain ⟨r24, w23, z25, hF⟩ := bd_some hF
            refine n_Vr (rest := []) G hI (c_X6_runsNow hA h0 z25) my_X6_runsNow kl_X6_121 (isX6.lt h0) (isX6.sh h0) rfl ⟨Nat.le_of_ble_eq_true rfl, Nat.le_of_ble_eq_true rfl⟩ rfl hl.1 rfl (Nat.le_of_ble_eq_true rfl) dX6_plan_80 (fun H locs hI => ?_)
            refine gf_X6_129 G hI (isX6.runs h0) dX6_plan_83 ?_
            refine gf_X6_132 G hI (isX2.rows (isX6.runs h0)) dX6_plan_86 ?_
            exact n_iret G hI hF rfl dX6_plan_89
          · replace hF := itn c30 hF
            refine lv_tableOut (tgt := 90) hx hb dX6_plan_1 (by have q0 := lv_neT (a := 0) c26 (by decide); have q1 := lv_neT (a := 1) c27 (by decide); have q2 := lv_neT (a := 2) c28 (by decide); have q3 := lv_neT (a := 3) c29 (by decide); have q4 := lv_neT (a := 4) c30 (by decide); omega) (by decide) ?_
            refine lv_aload_n hx hb dX6_plan_90 rfl (lv_at hl 0 rfl) ?_
            obtain ⟨r2, w1, z3, hF⟩ := bd_some hF
            refine n_Vi (rest := []) G hI (c_X6_refuseBad hA h0 z3) my_X6_refuseBad kl_X6_66 (isX6.lt h0) (isX6.sh h0) rfl ⟨Nat.le_of_ble_eq_true rfl, Nat.le_of_ble_eq_true rfl⟩ rfl hl.1 rfl (Nat.le_of_ble_eq_true rfl) dX6_plan_91 (fun H locs hI => ?_)
            exact n_iret G hI hF rfl dX6_plan_94
set_option maxHeartbeats 4000000 in
theorem c_X6_of (hA : AdOk n ad A) (h0 : isX6 n sh 0) {a1 : Int32} {a2 : Int32} {w w' : Mem} {r : Int32} (hF : F_X6_of a1 a2 w = some (r, w')) : Ctr l n sh D cA ad A sa yX6_of cX6_of 4 (some .int) 6 134 [.ref (ad 0), .int a1, .int a2] w (some (.int r)) w' := by
  refine m_enter hA (by decide) (Nat.le_of_ble_eq_true rfl) ?_
  intro p e s m args below meth c ls G hI hl
  replace hl : lv_has ls 4 [(0, .ref (ad 0)), (1, .int a1), (2, .int a2)] := hl
  replace G : Mx n D cA ad A sa p s m args meth c RX6 cX6_of 4 (some .int) := G
  obtain ⟨hx, hb, -, -, hown, hg, -⟩ := id G
  unfold F_X6_of at hF
  refine lv_iload_n hx hb dX6_of_0 rfl (lv_at hl 1 rfl) ?_
  obtain ⟨r2, w1, z3, hF⟩ := bd_some hF
  refine n_Si (rest := []) G hI (c_X6_isLeg hA  z3) my_X6_isLeg kl_X6_73 ⟨Nat.le_of_ble_eq_true rfl, Nat.le_of_ble_eq_true rfl⟩ rfl hl.1 rfl (Nat.le_of_ble_eq_true rfl) dX6_of_1 (fun H locs hI => ?_)
  refine lv_if_ne (tgt := 12) hx hb dX6_of_4 (by decide) (fun c37 => ?_) (fun c37 => ?_)
  · replace hF := itn c37 hF
    refine lv_aload_n hx hb dX6_of_12 rfl (lv_at hl 0 rfl) ?_
    obtain ⟨r5, w4, z6, hF⟩ := bd_some hF
    refine n_Vr (rest := []) G hI (c_X6_planNow hA h0 z6) my_X6_planNow kl_X6_108 (isX6.lt h0) (isX6.sh h0) rfl ⟨Nat.le_of_ble_eq_true rfl, Nat.le_of_ble_eq_true rfl⟩ rfl hl.1 rfl (Nat.le_of_ble_eq_true rfl) dX6_of_13 (fun H locs hI => ?_)
    refine lv_astore_n (lv' := [(3, .ref (ad 9)), (0, .ref (ad 0)), (1, .int a1), (2, .int a2)]) hx hb dX6_of_16 rfl hl (by decide) rfl (fun ls hl => ?_)
    refine lv_iload_n hx hb dX6_of_17 rfl (lv_at hl 3 rfl) ?_
    by_cases c27 : a2 = (0 : Int32)
    · replace hF := itp c27 hF
      refine lv_tableIn (tgt := 60) hx hb dX6_of_18 (by rw [c27]; decide) (by rw [c27]; decide) (by rw [c27]; rfl) (by decide) ?_
      refine lv_aload_n hx hb dX6_of_60 rfl (lv_at hl 0 rfl) ?_
      refine gf_X6_135 G hI (isX0.plan (isX6.drive h0)) dX6_of_61 ?_
      refine lv_iload_n hx hb dX6_of_64 rfl (lv_at hl 2 rfl) ?_
      obtain ⟨g10, hF⟩ := gd_some hF
      refine n_ald G hI (isX1.high (isX0.plan (isX6.drive h0))) g10 dX6_of_65 ?_
      exact n_iret G hI hF rfl dX6_of_66
    · replace hF := itn c27 hF
      by_cases c28 : a2 = (1 : Int32)
      · replace hF := itp c28 hF
        refine lv_tableIn (tgt := 67) hx hb dX6_of_18 (by rw [c28]; decide) (by rw [c28]; decide) (by rw [c28]; rfl) (by decide) ?_
        refine lv_aload_n hx hb dX6_of_67 rfl (lv_at hl 0 rfl) ?_
        refine gf_X6_138 G hI (isX0.plan (isX6.drive h0)) dX6_of_68 ?_
        refine lv_iload_n hx hb dX6_of_71 rfl (lv_at hl 2 rfl) ?_
        obtain ⟨g11, hF⟩ := gd_some hF
        refine n_ald G hI (isX1.start (isX0.plan (isX6.drive h0))) g11 dX6_of_72 ?_
        exact n_iret G hI hF rfl dX6_of_73
      · replace hF := itn c28 hF
        by_cases c29 : a2 = (2 : Int32)
        · replace hF := itp c29 hF
          refine lv_tableIn (tgt := 74) hx hb dX6_of_18 (by rw [c29]; decide) (by rw [c29]; decide) (by rw [c29]; rfl) (by decide) ?_
          refine lv_aload_n hx hb dX6_of_74 rfl (lv_at hl 0 rfl) ?_
          refine lv_iload_n hx hb dX6_of_75 rfl (lv_at hl 2 rfl) ?_
          obtain ⟨r13, w12, z14, hF⟩ := bd_some hF
          refine n_Vi (rest := []) G hI (c_X1_mean hA (isX0.plan (isX6.drive h0)) z14) my_X1_mean kl_X6_141 (isX1.lt (isX0.plan (isX6.drive h0))) (isX1.sh (isX0.plan (isX6.drive h0))) rfl ⟨Nat.le_of_ble_eq_true rfl, Nat.le_of_ble_eq_true rfl⟩ rfl hl.1 rfl (Nat.le_of_ble_eq_true rfl) dX6_of_76 (fun H locs hI => ?_)
          exact n_iret G hI hF rfl dX6_of_79
        · replace hF := itn c29 hF
          by_cases c30 : a2 = (3 : Int32)
          · replace hF := itp c30 hF
            refine lv_tableIn (tgt := 80) hx hb dX6_of_18 (by rw [c30]; decide) (by rw [c30]; decide) (by rw [c30]; rfl) (by decide) ?_
            refine lv_aload_n hx hb dX6_of_80 rfl (lv_at hl 0 rfl) ?_
            refine lv_iload_n hx hb dX6_of_81 rfl (lv_at hl 2 rfl) ?_
            obtain ⟨r16, w15, z17, hF⟩ := bd_some hF
            refine n_Vi (rest := []) G hI (c_X1_upperTicks hA (isX0.plan (isX6.drive h0)) z17) my_X1_upperTicks kl_X6_144 (isX1.lt (isX0.plan (isX6.drive h0))) (isX1.sh (isX0.plan (isX6.drive h0))) rfl ⟨Nat.le_of_ble_eq_true rfl, Nat.le_of_ble_eq_true rfl⟩ rfl hl.1 rfl (Nat.le_of_ble_eq_true rfl) dX6_of_82 (fun H locs hI => ?_)
            exact n_iret G hI hF rfl dX6_of_85
          · replace hF := itn c30 hF
            by_cases c31 : a2 = (4 : Int32)
            · replace hF := itp c31 hF
              refine lv_tableIn (tgt := 86) hx hb dX6_of_18 (by rw [c31]; decide) (by rw [c31]; decide) (by rw [c31]; rfl) (by decide) ?_
              refine lv_aload_n hx hb dX6_of_86 rfl (lv_at hl 0 rfl) ?_
              refine lv_iload_n hx hb dX6_of_87 rfl (lv_at hl 2 rfl) ?_
              obtain ⟨r19, w18, z20, hF⟩ := bd_some hF
              refine n_Vi (rest := []) G hI (c_X1_lowerTicks hA (isX0.plan (isX6.drive h0)) z20) my_X1_lowerTicks kl_X6_147 (isX1.lt (isX0.plan (isX6.drive h0))) (isX1.sh (isX0.plan (isX6.drive h0))) rfl ⟨Nat.le_of_ble_eq_true rfl, Nat.le_of_ble_eq_true rfl⟩ rfl hl.1 rfl (Nat.le_of_ble_eq_true rfl) dX6_of_88 (fun H locs hI => ?_)
              exact n_iret G hI hF rfl dX6_of_91
            · replace hF := itn c31 hF
              by_cases c32 : a2 = (5 : Int32)
              · replace hF := itp c32 hF
                refine lv_tableIn (tgt := 92) hx hb dX6_of_18 (by rw [c32]; decide) (by rw [c32]; decide) (by rw [c32]; rfl) (by decide) ?_
                refine lv_aload_n hx hb dX6_of_92 rfl (lv_at hl 0 rfl) ?_
                refine lv_iload_n hx hb dX6_of_93 rfl (lv_at hl 2 rfl) ?_
                obtain ⟨r22, w21, z23, hF⟩ := bd_some hF
                refine n_Vi (rest := []) G hI (c_X1_neitherTicks hA (isX0.plan (isX6.drive h0)) z23) my_X1_neitherTicks kl_X6_150 (isX1.lt (isX0.plan (isX6.drive h0))) (isX1.sh (isX0.plan (isX6.drive h0))) rfl ⟨Nat.le_of_ble_eq_true rfl, Nat.le_of_ble_eq_true rfl⟩ rfl hl.1 rfl (Nat.le_of_ble_eq_true rfl) dX6_of_94 (fun H locs hI => ?_)
                exact n_iret G hI hF rfl dX6_of_97
              · replace hF := itn c32 hF
                by_cases c33 : a2 = (6 : Int32)
                · replace hF := itp c33 hF
                  refine lv_tableIn (tgt := 98) hx hb dX6_of_18 (by rw [c33]; decide) (by rw [c33]; decide) (by rw [c33]; rfl) (by decide) ?_
                  refine lv_aload_n hx hb dX6_of_98 rfl (lv_at hl 0 rfl) ?_
                  refine lv_iload_n hx hb dX6_of_99 rfl (lv_at hl 2 rfl) ?_
                  obtain ⟨r25, w24, z26, hF⟩ := bd_some hF
                  refine n_Vi (rest := []) G hI (c_X1_timesUpperComesOn hA (isX0.plan (isX6.drive h0)) z26) my_X1_timesUpperComesOn kl_X6_153 (isX1.lt (isX0.plan (isX6.drive h0))) (isX1.sh (isX0.plan (isX6.drive h0))) rfl ⟨Nat.le_of_ble_eq_true rfl, Nat.le_of_ble_eq_true rfl⟩ rfl hl.1 rfl (Nat.le_of_ble_eq_true rfl) dX6_of_100 (fun H locs hI => ?_)
                  exact n_iret G hI hF rfl dX6_of_103
                · replace hF := itn c33 hF
                  refine lv_tableOut (tgt := 104) hx hb dX6_of_18 (by have q0 := lv_neT (a := 0) c27 (by decide); have q1 := lv_neT (a := 1) c28 (by decide); have q2 := lv_neT (a := 2) c29 (by decide); have q3 := lv_neT (a := 3) c30 (by decide); have q4 := lv_neT (a := 4) c31 (by decide); have q5 := lv_neT (a := 5) c32 (by decide); have q6 := lv_neT (a := 6) c33 (by decide); omega) (by decide) ?_
                  refine lv_aload_n hx hb dX6_of_104 rfl (lv_at hl 1 rfl) ?_
                  obtain ⟨r8, w7, z9, hF⟩ := bd_some hF
                  refine n_Vi (rest := []) G hI (c_X6_refuseBad hA h0 z9) my_X6_refuseBad kl_X6_66 (isX6.lt h0) (isX6.sh h0) rfl ⟨Nat.le_of_ble_eq_true rfl, Nat.le_of_ble_eq_true rfl⟩ rfl hl.1 rfl (Nat.le_of_ble_eq_true rfl) dX6_of_105 (fun H locs hI => ?_)
                  exact n_iret G hI hF rfl dX6_of_108
  · replace hF := itp c37 hF
    refine lv_aload_n hx hb dX6_of_7 rfl (lv_at hl 0 rfl) ?_
    obtain ⟨r35, w34, z36, hF⟩ := bd_some hF
    refine n_Vi (rest := []) G hI (c_X6_refuseBad hA h0 z36) my_X6_refuseBad kl_X6_66 (isX6.lt h0) (isX6.sh h0) rfl ⟨Nat.le_of_ble_eq_true rfl, Nat.le_of_ble_eq_true rfl⟩ rfl hl.1 rfl (Nat.le_of_ble_eq_true rfl) dX6_of_8 (fun H locs hI => ?_)
    exact n_iret G hI hF rfl dX6_of_11
set_option maxHeartbeats 4000000 in
theorem c_X6_at (hA : AdOk n ad A) (h0 : isX6 n sh 0) {a1 : Int32} {a2 : Int32} {a3 : Int32} {w w' : Mem} {r : Int32} (hF : F_X6_at a1 a2 a3 w = some (r, w')) : Ctr l n sh D cA ad A sa yX6_at cX6_at 5 (some .int) 6 134 [.ref (ad 0), .int a1, .int a2, .int a3] w (some (.int r)) w' := by
  refine m_enter hA (by decide) (Nat.le_of_ble_eq_true rfl) ?_
  intro p e s m args below meth c ls G hI hl
  replace hl : lv_has ls 5 [(0, .ref (ad 0)), (1, .int a1), (2, .int a2), (3, .int a3)] := hl
  replace G : Mx n D cA ad A sa p s m args meth c RX6 cX6_at 5 (some .int) := G
  obtain ⟨hx, hb, -, -, hown, hg, -⟩ := id G
  unfold F_X6_at at hF
  refine lv_iload_n hx hb dX6_at_0 rfl (lv_at hl 1 rfl) ?_
  obtain ⟨r2, w1, z3, hF⟩ := bd_some hF
  refine n_Si (rest := []) G hI (c_X6_isLeg hA  z3) my_X6_isLeg kl_X6_73 ⟨Nat.le_of_ble_eq_true rfl, Nat.le_of_ble_eq_true rfl⟩ rfl hl.1 rfl (Nat.le_of_ble_eq_true rfl) dX6_at_1 (fun H locs hI => ?_)
  refine lv_if_eq (tgt := 26) hx hb dX6_at_4 (by decide) (fun c40 => ?_) (fun c40 => ?_)
  · replace hF := itp c40 hF
    refine lv_aload_n hx hb dX6_at_26 rfl (lv_at hl 0 rfl) ?_
    obtain ⟨r5, w4, z6, hF⟩ := bd_some hF
    refine n_Vi (rest := []) G hI (c_X6_refuseBad hA h0 z6) my_X6_refuseBad kl_X6_66 (isX6.lt h0) (isX6.sh h0) rfl ⟨Nat.le_of_ble_eq_true rfl, Nat.le_of_ble_eq_true rfl⟩ rfl hl.1 rfl (Nat.le_of_ble_eq_true rfl) dX6_at_27 (fun H locs hI => ?_)
    exact n_iret G hI hF rfl dX6_at_30
  · replace hF := itn c40 hF
    refine lv_iload_n hx hb dX6_at_7 rfl (lv_at hl 2 rfl) ?_
    refine lv_iconst (v := (0 : Int32)) hx hb dX6_at_8 (by decide) ?_
    refine lv_aload_n hx hb dX6_at_9 rfl (lv_at hl 0 rfl) ?_
    refine gf_X6_10 G hI h0 dX6_at_10 ?_
    refine gf_X6_70 G hI (isX6.drive h0) dX6_at_13 ?_
    refine lv_iconst (v := (0 : Int32)) hx hb dX6_at_16 (by decide) ?_
    refine n_ald G hI (isX0.setting (isX6.drive h0)) (by decide) dX6_at_17 ?_
    refine W.eq (g2 := F0 m 18 ls [.int (w1 2 0), .int (0 : Int32), .int a2]) rfl ?_
    refine lv_iconst (v := (1 : Int32)) hx hb dX6_at_18 (by decide) ?_
    refine lv_isub hx hb dX6_at_19 ?_
    obtain ⟨r8, w7, z9, hF⟩ := bd_some hF
    refine n_Si (rest := []) G hI (c_X6_within hA  z9) my_X6_within kl_X6_56 ⟨Nat.le_of_ble_eq_true rfl, Nat.le_of_ble_eq_true rfl⟩ rfl hl.1 rfl (Nat.le_of_ble_eq_true rfl) dX6_at_20 (fun H locs hI => ?_)
    refine lv_if_ne (tgt := 31) hx hb dX6_at_23 (by decide) (fun c39 => ?_) (fun c39 => ?_)
    · replace hF := itn c39 hF
      refine lv_aload_n hx hb dX6_at_31 rfl (lv_at hl 0 rfl) ?_
      obtain ⟨r11, w10, z12, hF⟩ := bd_some hF
      refine n_Vr (rest := []) G hI (c_X6_planNow hA h0 z12) my_X6_planNow kl_X6_108 (isX6.lt h0) (isX6.sh h0) rfl ⟨Nat.le_of_ble_eq_true rfl, Nat.le_of_ble_eq_true rfl⟩ rfl hl.1 rfl (Nat.le_of_ble_eq_true rfl) dX6_at_32 (fun H locs hI => ?_)
      refine lv_astore (lv' := [(4, .ref (ad 9)), (0, .ref (ad 0)), (1, .int a1), (2, .int a2), (3, .int a3)]) hx hb dX6_at_35 hl (by decide) rfl (fun ls hl => ?_)
      refine lv_iload_n hx hb dX6_at_37 rfl (lv_at hl 4 rfl) ?_
      by_cases c32 : a3 = (0 : Int32)
      · replace hF := itp c32 hF
        refine lv_tableIn (tgt := 68) hx hb dX6_at_38 (by rw [c32]; decide) (by rw [c32]; decide) (by rw [c32]; rfl) (by decide) ?_
        refine lv_aload hx hb dX6_at_68 (lv_at hl 0 rfl) ?_
        refine lv_iload_n hx hb dX6_at_70 rfl (lv_at hl 2 rfl) ?_
        refine lv_iload_n hx hb dX6_at_71 rfl (lv_at hl 3 rfl) ?_
        obtain ⟨r17, w16, z18, hF⟩ := bd_some hF
        refine n_Vi (rest := []) G hI (c_X1_isWanted hA (isX0.plan (isX6.drive h0)) z18) my_X1_isWanted kl_X6_156 (isX1.lt (isX0.plan (isX6.drive h0))) (isX1.sh (isX0.plan (isX6.drive h0))) rfl ⟨Nat.le_of_ble_eq_true rfl, Nat.le_of_ble_eq_true rfl⟩ rfl hl.1 rfl (Nat.le_of_ble_eq_true rfl) dX6_at_72 (fun H locs hI => ?_)
        refine lv_if_eq (tgt := 82) hx hb dX6_at_75 (by decide) (fun c19 => ?_) (fun c19 => ?_)
        · replace hF := itp c19 hF
          refine lv_iconst (v := (0 : Int32)) hx hb dX6_at_82 (by decide) ?_
          exact n_iret G hI hF rfl dX6_at_83
        · replace hF := itn c19 hF
          refine lv_iconst (v := (1 : Int32)) hx hb dX6_at_78 (by decide) ?_
          refine lv_goto (tgt := 83) hx hb dX6_at_79 (by decide) ?_
          exact n_iret G hI hF rfl dX6_at_83
      · replace hF := itn c32 hF
        by_cases c33 : a3 = (1 : Int32)
        · replace hF := itp c33 hF
          refine lv_tableIn (tgt := 84) hx hb dX6_at_38 (by rw [c33]; decide) (by rw [c33]; decide) (by rw [c33]; rfl) (by decide) ?_
          refine lv_aload hx hb dX6_at_84 (lv_at hl 0 rfl) ?_
          refine lv_iload_n hx hb dX6_at_86 rfl (lv_at hl 2 rfl) ?_
          refine lv_iconst (v := (0 : Int32)) hx hb dX6_at_87 (by decide) ?_
          refine lv_iload_n hx hb dX6_at_88 rfl (lv_at hl 3 rfl) ?_
          obtain ⟨r21, w20, z22, hF⟩ := bd_some hF
          refine n_Vi (rest := []) G hI (c_X1_isOn hA (isX0.plan (isX6.drive h0)) z22) my_X1_isOn kl_X6_160 (isX1.lt (isX0.plan (isX6.drive h0))) (isX1.sh (isX0.plan (isX6.drive h0))) rfl ⟨Nat.le_of_ble_eq_true rfl, Nat.le_of_ble_eq_true rfl⟩ rfl hl.1 rfl (Nat.le_of_ble_eq_true rfl) dX6_at_89 (fun H locs hI => ?_)
          refine lv_if_eq (tgt := 99) hx hb dX6_at_92 (by decide) (fun c23 => ?_) (fun c23 => ?_)
          · replace hF := itp c23 hF
            refine lv_iconst (v := (0 : Int32)) hx hb dX6_at_99 (by decide) ?_
            exact n_iret G hI hF rfl dX6_at_100
          · replace hF := itn c23 hF
            refine lv_iconst (v := (1 : Int32)) hx hb dX6_at_95 (by decide) ?_
            refine lv_goto (tgt := 100) hx hb dX6_at_96 (by decide) ?_
            exact n_iret G hI hF rfl dX6_at_100
        · replace hF := itn c33 hF
          by_cases c34 : a3 = (2 : Int32)
          · replace hF := itp c34 hF
            refine lv_tableIn (tgt := 101) hx hb dX6_at_38 (by rw [c34]; decide) (by rw [c34]; decide) (by rw [c34]; rfl) (by decide) ?_
            refine lv_aload hx hb dX6_at_101 (lv_at hl 0 rfl) ?_
            refine lv_iload_n hx hb dX6_at_103 rfl (lv_at hl 2 rfl) ?_
            refine lv_iconst (v := (1 : Int32)) hx hb dX6_at_104 (by decide) ?_
            refine lv_iload_n hx hb dX6_at_105 rfl (lv_at hl 3 rfl) ?_
            obtain ⟨r25, w24, z26, hF⟩ := bd_some hF
            refine n_Vi (rest := []) G hI (c_X1_isOn hA (isX0.plan (isX6.drive h0)) z26) my_X1_isOn kl_X6_160 (isX1.lt (isX0.plan (isX6.drive h0))) (isX1.sh (isX0.plan (isX6.drive h0))) rfl ⟨Nat.le_of_ble_eq_true rfl, Nat.le_of_ble_eq_true rfl⟩ rfl hl.1 rfl (Nat.le_of_ble_eq_true rfl) dX6_at_106 (fun H locs hI => ?_)
            refine lv_if_eq (tgt := 116) hx hb dX6_at_109 (by decide) (fun c27 => ?_) (fun c27 => ?_)
            · replace hF := itp c27 hF
              refine lv_iconst (v := (0 : Int32)) hx hb dX6_at_116 (by decide) ?_
              exact n_iret G hI hF rfl dX6_at_117
            · replace hF := itn c27 hF
              refine lv_iconst (v := (1 : Int32)) hx hb dX6_at_112 (by decide) ?_
              refine lv_goto (tgt := 117) hx hb dX6_at_113 (by decide) ?_
              exact n_iret G hI hF rfl dX6_at_117
          · replace hF := itn c34 hF
            by_cases c35 : a3 = (3 : Int32)
            · replace hF := itp c35 hF
              refine lv_tableIn (tgt := 118) hx hb dX6_at_38 (by rw [c35]; decide) (by rw [c35]; decide) (by rw [c35]; rfl) (by decide) ?_
              refine lv_aload hx hb dX6_at_118 (lv_at hl 0 rfl) ?_
              refine lv_iload_n hx hb dX6_at_120 rfl (lv_at hl 2 rfl) ?_
              refine lv_iload_n hx hb dX6_at_121 rfl (lv_at hl 3 rfl) ?_
              obtain ⟨r29, w28, z30, hF⟩ := bd_some hF
              refine n_Vi (rest := []) G hI (c_X1_givesOne hA (isX0.plan (isX6.drive h0)) z30) my_X1_givesOne kl_X6_163 (isX1.lt (isX0.plan (isX6.drive h0))) (isX1.sh (isX0.plan (isX6.drive h0))) rfl ⟨Nat.le_of_ble_eq_true rfl, Nat.le_of_ble_eq_true rfl⟩ rfl hl.1 rfl (Nat.le_of_ble_eq_true rfl) dX6_at_122 (fun H locs hI => ?_)
              refine lv_if_eq (tgt := 132) hx hb dX6_at_125 (by decide) (fun c31 => ?_) (fun c31 => ?_)
              · replace hF := itp c31 hF
                refine lv_iconst (v := (0 : Int32)) hx hb dX6_at_132 (by decide) ?_
                exact n_iret G hI hF rfl dX6_at_133
              · replace hF := itn c31 hF
                refine lv_iconst (v := (1 : Int32)) hx hb dX6_at_128 (by decide) ?_
                refine lv_goto (tgt := 133) hx hb dX6_at_129 (by decide) ?_
                exact n_iret G hI hF rfl dX6_at_133
            · replace hF := itn c35 hF
              refine lv_tableOut (tgt := 134) hx hb dX6_at_38 (by have q0 := lv_neT (a := 0) c32 (by decide); have q1 := lv_neT (a := 1) c33 (by decide); have q2 := lv_neT (a := 2) c34 (by decide); have q3 := lv_neT (a := 3) c35 (by decide); omega) (by decide) ?_
              refine lv_aload_n hx hb dX6_at_134 rfl (lv_at hl 1 rfl) ?_
              obtain ⟨r14, w13, z15, hF⟩ := bd_some hF
              refine n_Vi (rest := []) G hI (c_X6_refuseBad hA h0 z15) my_X6_refuseBad kl_X6_66 (isX6.lt h0) (isX6.sh h0) rfl ⟨Nat.le_of_ble_eq_true rfl, Nat.le_of_ble_eq_true rfl⟩ rfl hl.1 rfl (Nat.le_of_ble_eq_true rfl) dX6_at_135 (fun H locs hI => ?_)
              exact n_iret G hI hF rfl dX6_at_138
    · replace hF := itp c39 hF
      refine lv_aload_n hx hb dX6_at_26 rfl (lv_at hl 0 rfl) ?_
      obtain ⟨r37, w36, z38, hF⟩ := bd_some hF
      refine n_Vi (rest := []) G hI (c_X6_refuseBad hA h0 z38) my_X6_refuseBad kl_X6_66 (isX6.lt h0) (isX6.sh h0) rfl ⟨Nat.le_of_ble_eq_true rfl, Nat.le_of_ble_eq_true rfl⟩ rfl hl.1 rfl (Nat.le_of_ble_eq_true rfl) dX6_at_27 (fun H locs hI => ?_)
      exact n_iret G hI hF rfl dX6_at_30
end WK5
