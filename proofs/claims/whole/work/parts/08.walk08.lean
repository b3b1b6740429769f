/-! walks, by program (wip/gen/walk.py): X7_bad, X7_full, X7_in, X7_within, X7_far, X7_begins, X7_may, X7_isLeg, X7_sets, X7_leg, X7_anew, X7_greatest, X7_least, X7_bound, X7_setPlan -/
section WK8
variable {n : Nat} {sh : Nat → Shp} {D : va_G} {cA : ClassId} {ad : Nat → Nat} {A : Nat → Prop} {sa : Nat → Nat} {l : Launch}
set_option maxHeartbeats 4000000 in
theorem c_X7_bad (hA : AdOk n ad A) (h0 : isX7 n sh 0) {w w' : Mem} {r : Int32} (hF : F_X7_bad  w = some (r, w')) : Ctr l n sh D cA ad A sa yX7_bad cX7_bad 1 (some .int) 0 0 [.ref (ad 0)] w (some (.int r)) w' := by
  refine m_enter hA (by decide) (Nat.le_of_ble_eq_true rfl) ?_
  intro p e s m args below meth c ls G hI hl
  replace hl : lv_has ls 1 [(0, .ref (ad 0))] := hl
  replace G : Mx n D cA ad A sa p s m args meth c RX7 cX7_bad 1 (some .int) := G
  obtain ⟨hx, hb, -, -, hown, hg, -⟩ := id G
  unfold F_X7_bad at hF
  refine lv_aload_n hx hb dX7_bad_0 rfl (lv_at hl 0 rfl) ?_
  refine gf_X7_1 G hI h0 dX7_bad_1 ?_
  refine lv_iconst (v := (0 : Int32)) hx hb dX7_bad_4 (by decide) ?_
  refine lv_dup2_11 hx hb dX7_bad_5 rfl rfl ?_
  refine n_ald G hI (isX7.refused h0) (by decide) dX7_bad_6 ?_
  refine W.eq (g2 := F0 m 7 ls [.int (w 1 0), .int (0 : Int32), .ref (ad 1)]) rfl ?_
  refine lv_iconst (v := (1 : Int32)) hx hb dX7_bad_7 (by decide) ?_
  refine lv_iadd hx hb dX7_bad_8 ?_
  obtain ⟨w1, ew1, hF⟩ := lt_some hF
  refine n_ast G hI (isX7.refused h0) (by decide) dX7_bad_9 (fun H locs hI => ?_)
  replace hI : Iv n sh D cA ad A s.heap w1 H locs := by rw [ew1]; exact hI
  refine lv_bipush (v := (-2 : Int32)) hx hb dX7_bad_10 (by decide) ?_
  exact n_iret G hI hF rfl dX7_bad_12
set_option maxHeartbeats 4000000 in
theorem c_X7_full (hA : AdOk n ad A) (h0 : isX7 n sh 0) {w w' : Mem} {r : Int32} (hF : F_X7_full  w = some (r, w')) : Ctr l n sh D cA ad A sa yX7_full cX7_full 1 (some .int) 0 0 [.ref (ad 0)] w (some (.int r)) w' := by
  refine m_enter hA (by decide) (Nat.le_of_ble_eq_true rfl) ?_
  intro p e s m args below meth c ls G hI hl
  replace hl : lv_has ls 1 [(0, .ref (ad 0))] := hl
  replace G : Mx n D cA ad A sa p s m args meth c RX7 cX7_full 1 (some .int) := G
  obtain ⟨hx, hb, -, -, hown, hg, -⟩ := id G
  unfold F_X7_full at hF
  refine lv_aload_n hx hb dX7_full_0 rfl (lv_at hl 0 rfl) ?_
  refine gf_X7_1 G hI h0 dX7_full_1 ?_
  refine lv_iconst (v := (2 : Int32)) hx hb dX7_full_4 (by decide) ?_
  refine lv_dup2_11 hx hb dX7_full_5 rfl rfl ?_
  refine n_ald G hI (isX7.refused h0) (by decide) dX7_full_6 ?_
  refine W.eq (g2 := F0 m 7 ls [.int (w 1 2), .int (2 : Int32), .ref (ad 1)]) rfl ?_
  refine lv_iconst (v := (1 : Int32)) hx hb dX7_full_7 (by decide) ?_
  refine lv_iadd hx hb dX7_full_8 ?_
  obtain ⟨w1, ew1, hF⟩ := lt_some hF
  refine n_ast G hI (isX7.refused h0) (by decide) dX7_full_9 (fun H locs hI => ?_)
  replace hI : Iv n sh D cA ad A s.heap w1 H locs := by rw [ew1]; exact hI
  refine lv_bipush (v := (-4 : Int32)) hx hb dX7_full_10 (by decide) ?_
  exact n_iret G hI hF rfl dX7_full_12
set_option maxHeartbeats 4000000 in
theorem c_X7_in (hA : AdOk n ad A) {a0 : Int32} {a1 : Int32} {a2 : Int32} {w w' : Mem} {r : Int32} (hF : F_X7_in a0 a1 a2 w = some (r, w')) : Ctr l n sh D cA ad A sa yX7_in cX7_in 3 (some .boolean) 0 0 [.int a0, .int a1, .int a2] w (some (.int r)) w' := by
  refine m_enter hA (by decide) (Nat.le_of_ble_eq_true rfl) ?_
  intro p e s m args below meth c ls G hI hl
  replace hl : lv_has ls 3 [(0, .int a0), (1, .int a1), (2, .int a2)] := hl
  replace G : Mx n D cA ad A sa p s m args meth c RX7 cX7_in 3 (some .boolean) := G
  obtain ⟨hx, hb, -, -, hown, hg, -⟩ := id G
  unfold F_X7_in at hF
  refine lv_iload_n hx hb dX7_in_0 rfl (lv_at hl 0 rfl) ?_
  refine lv_iload_n hx hb dX7_in_1 rfl (lv_at hl 1 rfl) ?_
  refine lv_icmp_lt (tgt := 14) hx hb dX7_in_2 (by decide) (fun c2 => ?_) (fun c2 => ?_)
  · replace hF := itp c2 hF
    refine lv_iconst (v := (0 : Int32)) hx hb dX7_in_14 (by decide) ?_
    exact n_zret G hI (by decide) hF rfl dX7_in_15
  · replace hF := itn c2 hF
    refine lv_iload_n hx hb dX7_in_5 rfl (lv_at hl 0 rfl) ?_
    refine lv_iload_n hx hb dX7_in_6 rfl (lv_at hl 2 rfl) ?_
    refine lv_icmp_gt (tgt := 14) hx hb dX7_in_7 (by decide) (fun c1 => ?_) (fun c1 => ?_)
    · replace hF := itp c1 hF
      refine lv_iconst (v := (0 : Int32)) hx hb dX7_in_14 (by decide) ?_
      exact n_zret G hI (by decide) hF rfl dX7_in_15
    · replace hF := itn c1 hF
      refine lv_iconst (v := (1 : Int32)) hx hb dX7_in_10 (by decide) ?_
      refine lv_goto (tgt := 15) hx hb dX7_in_11 (by decide) ?_
      exact n_zret G hI (by decide) hF rfl dX7_in_15
set_option maxHeartbeats 4000000 in
theorem c_X7_within (hA : AdOk n ad A) {a0 : Int32} {a1 : Int32} {w w' : Mem} {r : Int32} (hF : F_X7_within a0 a1 w = some (r, w')) : Ctr l n sh D cA ad A sa yX7_within cX7_within 2 (some .int) 0 0 [.int a0, .int a1] w (some (.int r)) w' := by
  refine m_enter hA (by decide) (Nat.le_of_ble_eq_true rfl) ?_
  intro p e s m args below meth c ls G hI hl
  replace hl : lv_has ls 2 [(0, .int a0), (1, .int a1)] := hl
  replace G : Mx n D cA ad A sa p s m args meth c RX7 cX7_within 2 (some .int) := G
  obtain ⟨hx, hb, -, -, hown, hg, -⟩ := id G
  unfold F_X7_within at hF
  refine lv_iload_n hx hb dX7_within_0 rfl (lv_at hl 0 rfl) ?_
  refine lv_iload_n hx hb dX7_within_1 rfl (lv_at hl 1 rfl) ?_
  refine lv_icmp_le (tgt := 9) hx hb dX7_within_2 (by decide) (fun c2 => ?_) (fun c2 => ?_)
  · replace hF := itp c2 hF
    refine lv_iload_n hx hb dX7_within_9 rfl (lv_at hl 0 rfl) ?_
    refine lv_iload_n hx hb dX7_within_10 rfl (lv_at hl 1 rfl) ?_
    refine lv_ineg hx hb dX7_within_11 ?_
    refine lv_icmp_ge (tgt := 20) hx hb dX7_within_12 (by decide) (fun c1 => ?_) (fun c1 => ?_)
    · replace hF := itp c1 hF
      refine lv_iload_n hx hb dX7_within_20 rfl (lv_at hl 0 rfl) ?_
      exact n_iret G hI hF rfl dX7_within_21
    · replace hF := itn c1 hF
      refine lv_iload_n hx hb dX7_within_15 rfl (lv_at hl 1 rfl) ?_
      refine lv_ineg hx hb dX7_within_16 ?_
      refine lv_goto (tgt := 21) hx hb dX7_within_17 (by decide) ?_
      exact n_iret G hI hF rfl dX7_within_21
  · replace hF := itn c2 hF
    refine lv_iload_n hx hb dX7_within_5 rfl (lv_at hl 1 rfl) ?_
    refine lv_goto (tgt := 21) hx hb dX7_within_6 (by decide) ?_
    exact n_iret G hI hF rfl dX7_within_21
set_option maxHeartbeats 4000000 in
theorem c_X7_far (hA : AdOk n ad A) {a0 : Int32} {w w' : Mem} {r : Int32} (hF : F_X7_far a0 w = some (r, w')) : Ctr l n sh D cA ad A sa yX7_far cX7_far 1 (some .int) 0 0 [.int a0] w (some (.int r)) w' := by
  refine m_enter hA (by decide) (Nat.le_of_ble_eq_true rfl) ?_
  intro p e s m args below meth c ls G hI hl
  replace hl : lv_has ls 1 [(0, .int a0)] := hl
  replace G : Mx n D cA ad A sa p s m args meth c RX7 cX7_far 1 (some .int) := G
  obtain ⟨hx, hb, -, -, hown, hg, -⟩ := id G
  unfold F_X7_far at hF
  refine lv_iload_n hx hb dX7_far_0 rfl (lv_at hl 0 rfl) ?_
  refine lv_if_ge (tgt := 9) hx hb dX7_far_1 (by decide) (fun c1 => ?_) (fun c1 => ?_)
  · replace hF := itp c1 hF
    refine lv_iload_n hx hb dX7_far_9 rfl (lv_at hl 0 rfl) ?_
    exact n_iret G hI hF rfl dX7_far_10
  · replace hF := itn c1 hF
    refine lv_iload_n hx hb dX7_far_4 rfl (lv_at hl 0 rfl) ?_
    refine lv_ineg hx hb dX7_far_5 ?_
    refine lv_goto (tgt := 10) hx hb dX7_far_6 (by decide) ?_
    exact n_iret G hI hF rfl dX7_far_10
set_option maxHeartbeats 4000000 in
theorem l_X7_begins_54 {p : Program} {e : Env} {s : State} {m : MethodId} {args : Array Value} {below : List Frame} {meth : Method} {c : Code} (G : Mx n D cA ad A sa p s m args meth c RX7 cX7_begins 2 none)  (h0 : isX7 n sh 0) {k : Mem → Option (Unit × Mem)} {r : Unit} {w' : Mem}
    (hk : ∀  (w : Mem) (H : Heap) (locs : List Loc) (ls : Array Slot), k  w = some (r, w') → Iv n sh D cA ad A s.heap w H locs → lv_has ls 2 [(0, .ref (ad 0))] → W p l e ({ frames := 0, cells := 0, slots := 0, locals := 0 } : Room) s m args below meth c H locs 0 0 (QM n sh D cA ad A below args s none w') (F0 m 93 ls [])) :
    ∀ (N : Nat) (v1 : Int32) (w : Mem) (H : Heap) (locs : List Loc) (ls : Array Slot), L_X7_begins_54  k N v1 w = some (r, w') → Iv n sh D cA ad A s.heap w H locs → lv_has ls 2 [(0, .ref (ad 0)), (1, .int v1)] → W p l e ({ frames := 0, cells := 0, slots := 0, locals := 0 } : Room) s m args below meth c H locs 0 0 (QM n sh D cA ad A below args s none w') (F0 m 54 ls []) := by
  obtain ⟨hx, hb, -, -, hown, hg, -, -, -, -, hA⟩ := id G
  intro N
  induction N with
  | zero =>
    intro v1 w H locs ls hF hI hl
    cases hF
  | succ N ih =>
    intro v1 w H locs ls hF hI hl
    rw [L_X7_begins_54] at hF
    refine lv_iload_n hx hb dX7_begins_54 rfl (lv_at hl 1 rfl) ?_
    refine lv_iconst (v := (3 : Int32)) hx hb dX7_begins_55 (by decide) ?_
    refine lv_icmp_ge (tgt := 93) hx hb dX7_begins_56 (by decide) (fun c16 => ?_) (fun c16 => ?_)
    · replace hF := itp c16 hF
      exact hk _ _ _ _ hF hI (lv_sub hl [0] rfl)
    · replace hF := itn c16 hF
      refine lv_aload_n hx hb dX7_begins_59 rfl (lv_at hl 0 rfl) ?_
      refine gf_X7_16 G hI h0 dX7_begins_60 ?_
      refine lv_iload_n hx hb dX7_begins_63 rfl (lv_at hl 1 rfl) ?_
      refine lv_iconst (v := (0 : Int32)) hx hb dX7_begins_64 (by decide) ?_
      obtain ⟨g8, hF⟩ := gd_some hF
      obtain ⟨w9, ew9, hF⟩ := lt_some hF
      refine n_ast G hI (isX7.current h0) g8 dX7_begins_65 (fun H locs hI => ?_)
      replace hI : Iv n sh D cA ad A s.heap w9 H locs := by rw [ew9]; exact hI
      refine lv_aload_n hx hb dX7_begins_66 rfl (lv_at hl 0 rfl) ?_
      refine gf_X7_19 G hI h0 dX7_begins_67 ?_
      refine lv_iload_n hx hb dX7_begins_70 rfl (lv_at hl 1 rfl) ?_
      refine lv_iconst (v := (0 : Int32)) hx hb dX7_begins_71 (by decide) ?_
      obtain ⟨g10, hF⟩ := gd_some hF
      obtain ⟨w11, ew11, hF⟩ := lt_some hF
      refine n_ast G hI (isX7.demand h0) g10 dX7_begins_72 (fun H locs hI => ?_)
      replace hI : Iv n sh D cA ad A s.heap w11 H locs := by rw [ew11]; exact hI
      refine lv_aload_n hx hb dX7_begins_73 rfl (lv_at hl 0 rfl) ?_
      refine gf_X7_22 G hI h0 dX7_begins_74 ?_
      refine lv_iload_n hx hb dX7_begins_77 rfl (lv_at hl 1 rfl) ?_
      refine lv_iconst (v := (0 : Int32)) hx hb dX7_begins_78 (by decide) ?_
      obtain ⟨g12, hF⟩ := gd_some hF
      obtain ⟨w13, ew13, hF⟩ := lt_some hF
      refine n_ast G hI (isX7.want h0) g12 dX7_begins_79 (fun H locs hI => ?_)
      replace hI : Iv n sh D cA ad A s.heap w13 H locs := by rw [ew13]; exact hI
      refine lv_aload_n hx hb dX7_begins_80 rfl (lv_at hl 0 rfl) ?_
      refine gf_X7_25 G hI h0 dX7_begins_81 ?_
      refine lv_iload_n hx hb dX7_begins_84 rfl (lv_at hl 1 rfl) ?_
      refine lv_iconst (v := (0 : Int32)) hx hb dX7_begins_85 (by decide) ?_
      obtain ⟨g14, hF⟩ := gd_some hF
      obtain ⟨w15, ew15, hF⟩ := lt_some hF
      refine n_ast G hI (isX7.sum h0) g14 dX7_begins_86 (fun H locs hI => ?_)
      replace hI : Iv n sh D cA ad A s.heap w15 H locs := by rw [ew15]; exact hI
      refine lv_iinc (v := (v1 + (1 : Int32))) (lv' := [(1, .int (v1 + (1 : Int32))), (0, .ref (ad 0))]) hx hb dX7_begins_87 hl (k := 1) rfl rfl (by decide) rfl (fun ls hl => ?_)
      refine lv_goto (tgt := 54) hx hb dX7_begins_90 (by decide) ?_
      exact ih _ _ _ _ _ hF hI (lv_sub hl [1, 0] rfl)
set_option maxHeartbeats 4000000 in
theorem c_X7_begins (hA : AdOk n ad A) (h0 : isX7 n sh 0) {w w' : Mem} {r : Unit} (hF : F_X7_begins  w = some (r, w')) : Ctr l n sh D cA ad A sa yX7_begins cX7_begins 2 none 0 0 [.ref (ad 0)] w none w' := by
  refine m_enter hA (by decide) (Nat.le_of_ble_eq_true rfl) ?_
  intro p e s m args below meth c ls G hI hl
  replace hl : lv_has ls 2 [(0, .ref (ad 0))] := hl
  replace G : Mx n D cA ad A sa p s m args meth c RX7 cX7_begins 2 none := G
  obtain ⟨hx, hb, -, -, hown, hg, -⟩ := id G
  unfold F_X7_begins at hF
  refine lv_aload_n hx hb dX7_begins_0 rfl (lv_at hl 0 rfl) ?_
  refine gf_X7_13 G hI h0 dX7_begins_1 ?_
  refine lv_iconst (v := (0 : Int32)) hx hb dX7_begins_4 (by decide) ?_
  refine lv_bipush (v := (48 : Int32)) hx hb dX7_begins_5 (by decide) ?_
  obtain ⟨w1, ew1, hF⟩ := lt_some hF
  refine n_ast G hI (isX7.told h0) (by decide) dX7_begins_7 (fun H locs hI => ?_)
  replace hI : Iv n sh D cA ad A s.heap w1 H locs := by rw [ew1]; exact hI
  refine lv_aload_n hx hb dX7_begins_8 rfl (lv_at hl 0 rfl) ?_
  refine gf_X7_13 G hI h0 dX7_begins_9 ?_
  refine lv_iconst (v := (1 : Int32)) hx hb dX7_begins_12 (by decide) ?_
  refine lv_iconst (v := (2 : Int32)) hx hb dX7_begins_13 (by decide) ?_
  obtain ⟨w2, ew2, hF⟩ := lt_some hF
  refine n_ast G hI (isX7.told h0) (by decide) dX7_begins_14 (fun H locs hI => ?_)
  replace hI : Iv n sh D cA ad A s.heap w2 H locs := by rw [ew2]; exact hI
  refine lv_aload_n hx hb dX7_begins_15 rfl (lv_at hl 0 rfl) ?_
  refine gf_X7_13 G hI h0 dX7_begins_16 ?_
  refine lv_iconst (v := (2 : Int32)) hx hb dX7_begins_19 (by decide) ?_
  refine lv_iconst (v := (1 : Int32)) hx hb dX7_begins_20 (by decide) ?_
  obtain ⟨w3, ew3, hF⟩ := lt_some hF
  refine n_ast G hI (isX7.told h0) (by decide) dX7_begins_21 (fun H locs hI => ?_)
  replace hI : Iv n sh D cA ad A s.heap w3 H locs := by rw [ew3]; exact hI
  refine lv_aload_n hx hb dX7_begins_22 rfl (lv_at hl 0 rfl) ?_
  refine gf_X7_13 G hI h0 dX7_begins_23 ?_
  refine lv_iconst (v := (3 : Int32)) hx hb dX7_begins_26 (by decide) ?_
  refine lv_iconst (v := (4 : Int32)) hx hb dX7_begins_27 (by decide) ?_
  obtain ⟨w4, ew4, hF⟩ := lt_some hF
  refine n_ast G hI (isX7.told h0) (by decide) dX7_begins_28 (fun H locs hI => ?_)
  replace hI : Iv n sh D cA ad A s.heap w4 H locs := by rw [ew4]; exact hI
  refine lv_aload_n hx hb dX7_begins_29 rfl (lv_at hl 0 rfl) ?_
  refine gf_X7_13 G hI h0 dX7_begins_30 ?_
  refine lv_iconst (v := (4 : Int32)) hx hb dX7_begins_33 (by decide) ?_
  refine lv_bipush (v := (8 : Int32)) hx hb dX7_begins_34 (by decide) ?_
  obtain ⟨w5, ew5, hF⟩ := lt_some hF
  refine n_ast G hI (isX7.told h0) (by decide) dX7_begins_36 (fun H locs hI => ?_)
  replace hI : Iv n sh D cA ad A s.heap w5 H locs := by rw [ew5]; exact hI
  refine lv_aload_n hx hb dX7_begins_37 rfl (lv_at hl 0 rfl) ?_
  refine gf_X7_13 G hI h0 dX7_begins_38 ?_
  refine lv_iconst (v := (5 : Int32)) hx hb dX7_begins_41 (by decide) ?_
  refine lv_iconst (v := (4 : Int32)) hx hb dX7_begins_42 (by decide) ?_
  obtain ⟨w6, ew6, hF⟩ := lt_some hF
  refine n_ast G hI (isX7.told h0) (by decide) dX7_begins_43 (fun H locs hI => ?_)
  replace hI : Iv n sh D cA ad A s.heap w6 H locs := by rw [ew6]; exact hI
  refine lv_aload_n hx hb dX7_begins_44 rfl (lv_at hl 0 rfl) ?_
  refine gf_X7_13 G hI h0 dX7_begins_45 ?_
  refine lv_bipush (v := (6 : Int32)) hx hb dX7_begins_48 (by decide) ?_
  refine lv_iconst (v := (0 : Int32)) hx hb dX7_begins_50 (by decide) ?_
  obtain ⟨w7, ew7, hF⟩ := lt_some hF
  refine n_ast G hI (isX7.told h0) (by decide) dX7_begins_51 (fun H locs hI => ?_)
  replace hI : Iv n sh D cA ad A s.heap w7 H locs := by rw [ew7]; exact hI
  refine lv_iconst (v := (0 : Int32)) hx hb dX7_begins_52 (by decide) ?_
  refine lv_istore_n (lv' := [(1, .int (0 : Int32)), (0, .ref (ad 0))]) hx hb dX7_begins_53 rfl hl (by decide) rfl (fun ls hl => ?_)
  refine l_X7_begins_54 G h0 (fun w17 H locs ls hF hI hl => ?_) _ _ _ _ _ _ hF hI (lv_sub hl [1, 0] rfl)
  refine lv_aload_n hx hb dX7_begins_93 rfl (lv_at hl 0 rfl) ?_
  refine lv_iconst (v := (0 : Int32)) hx hb dX7_begins_94 (by decide) ?_
  obtain ⟨w18, ew18, hF⟩ := lt_some hF
  refine pf_X7_76 G hI h0 dX7_begins_95 (fun H locs hI => ?_)
  replace hI : Iv n sh D cA ad A s.heap w18 H locs := by rw [ew18]; exact hI
  refine lv_aload_n hx hb dX7_begins_98 rfl (lv_at hl 0 rfl) ?_
  refine lv_iconst (v := (0 : Int32)) hx hb dX7_begins_99 (by decide) ?_
  obtain ⟨w19, ew19, hF⟩ := lt_some hF
  refine pf_X7_80 G hI h0 dX7_begins_100 (fun H locs hI => ?_)
  replace hI : Iv n sh D cA ad A s.heap w19 H locs := by rw [ew19]; exact hI
  refine lv_aload_n hx hb dX7_begins_103 rfl (lv_at hl 0 rfl) ?_
  refine lv_iconst (v := (0 : Int32)) hx hb dX7_begins_104 (by decide) ?_
  obtain ⟨w20, ew20, hF⟩ := lt_some hF
  refine pf_X7_83 G hI h0 dX7_begins_105 (fun H locs hI => ?_)
  replace hI : Iv n sh D cA ad A s.heap w20 H locs := by rw [ew20]; exact hI
  exact n_vret G hI hF rfl dX7_begins_108
set_option maxHeartbeats 4000000 in
theorem c_X7_may (hA : AdOk n ad A) {a0 : Int32} {a1 : Int32} {w w' : Mem} {r : Int32} (hF : F_X7_may a0 a1 w = some (r, w')) : Ctr l n sh D cA ad A sa yX7_may cX7_may 2 (some .boolean) 1 22 [.int a0, .int a1] w (some (.int r)) w' := by
  refine m_enter hA (by decide) (Nat.le_of_ble_eq_true rfl) ?_
  intro p e s m args below meth c ls G hI hl
  replace hl : lv_has ls 2 [(0, .int a0), (1, .int a1)] := hl
  replace G : Mx n D cA ad A sa p s m args meth c RX7 cX7_may 2 (some .boolean) := G
  obtain ⟨hx, hb, -, -, hown, hg, -⟩ := id G
  unfold F_X7_may at hF
  refine lv_iload_n hx hb dX7_may_0 rfl (lv_at hl 0 rfl) ?_
  obtain ⟨k1, ek1, hF⟩ := jn_some hF
  have hJ1 : ∀  (H : Heap) (locs : List Loc) (ls : Array Slot), k1  = some (r, w') → Iv n sh D cA ad A s.heap w H locs → lv_has ls 2 [(1, .int a1)] → W p l e ({ frames := 1, cells := 0, slots := 0, locals := 22 } : Room) s m args below meth c H locs 0 0 (QM n sh D cA ad A below args s (some (.int r)) w') (F0 m 86 ls []) := by
    intro  H locs ls hF hI hl
    replace hF := ek1.symm.trans hF
    refine lv_iload_n hx hb dX7_may_86 rfl (lv_at hl 0 rfl) ?_
    refine lv_iconst (v := (0 : Int32)) hx hb dX7_may_87 (by decide) ?_
    refine lv_iconst (v := (1 : Int32)) hx hb dX7_may_88 (by decide) ?_
    obtain ⟨r3, w2, z4, hF⟩ := bd_some hF
    refine n_Si (rest := []) G hI (c_X7_in hA  z4) my_X7_in kl_X7_86 ⟨Nat.le_of_ble_eq_true rfl, Nat.le_of_ble_eq_true rfl⟩ rfl hl.1 rfl (Nat.le_of_ble_eq_true rfl) dX7_may_89 (fun H locs hI => ?_)
    obtain ⟨g5, hF⟩ := gd_some hF
    exact n_zret G hI g5 hF rfl dX7_may_92
  obtain ⟨k6, ek6, hF⟩ := jn_some hF
  have hJ6 : ∀  (H : Heap) (locs : List Loc) (ls : Array Slot), k6  = some (r, w') → Iv n sh D cA ad A s.heap w H locs → lv_has ls 2 [(1, .int a1)] → W p l e ({ frames := 1, cells := 0, slots := 0, locals := 22 } : Room) s m args below meth c H locs 0 0 (QM n sh D cA ad A below args s (some (.int r)) w') (F0 m 78 ls []) := by
    intro  H locs ls hF hI hl
    replace hF := ek6.symm.trans hF
    refine lv_iload_n hx hb dX7_may_78 rfl (lv_at hl 0 rfl) ?_
    refine lv_iconst (v := (0 : Int32)) hx hb dX7_may_79 (by decide) ?_
    refine lv_bipush (v := (20 : Int32)) hx hb dX7_may_80 (by decide) ?_
    obtain ⟨r8, w7, z9, hF⟩ := bd_some hF
    refine n_Si (rest := []) G hI (c_X7_in hA  z9) my_X7_in kl_X7_86 ⟨Nat.le_of_ble_eq_true rfl, Nat.le_of_ble_eq_true rfl⟩ rfl hl.1 rfl (Nat.le_of_ble_eq_true rfl) dX7_may_82 (fun H locs hI => ?_)
    obtain ⟨g10, hF⟩ := gd_some hF
    exact n_zret G hI g10 hF rfl dX7_may_85
  by_cases c24 : a0 = (0 : Int32)
  · replace hF := itp c24 hF
    refine lv_tableIn (tgt := 40) hx hb dX7_may_1 (by rw [c24]; decide) (by rw [c24]; decide) (by rw [c24]; rfl) (by decide) ?_
    refine lv_iload_n hx hb dX7_may_40 rfl (lv_at hl 1 rfl) ?_
    refine lv_bipush (v := (12 : Int32)) hx hb dX7_may_41 (by decide) ?_
    refine lv_bipush (v := (96 : Int32)) hx hb dX7_may_43 (by decide) ?_
    obtain ⟨r12, w11, z13, hF⟩ := bd_some hF
    refine n_Si (rest := []) G hI (c_X7_in hA  z13) my_X7_in kl_X7_86 ⟨Nat.le_of_ble_eq_true rfl, Nat.le_of_ble_eq_true rfl⟩ rfl hl.1 rfl (Nat.le_of_ble_eq_true rfl) dX7_may_45 (fun H locs hI => ?_)
    refine lv_if_eq (tgt := 61) hx hb dX7_may_48 (by decide) (fun c15 => ?_) (fun c15 => ?_)
    · replace hF := itp c15 hF
      refine lv_iconst (v := (0 : Int32)) hx hb dX7_may_61 (by decide) ?_
      exact n_zret G hI (by decide) hF rfl dX7_may_62
    · replace hF := itn c15 hF
      refine lv_iload_n hx hb dX7_may_51 rfl (lv_at hl 1 rfl) ?_
      refine lv_iconst (v := (2 : Int32)) hx hb dX7_may_52 (by decide) ?_
      refine n_irem G (by decide) dX7_may_53 ?_
      refine lv_if_ne (tgt := 61) hx hb dX7_may_54 (by decide) (fun c14 => ?_) (fun c14 => ?_)
      · replace hF := itn c14 hF
        refine lv_iconst (v := (0 : Int32)) hx hb dX7_may_61 (by decide) ?_
        exact n_zret G hI (by decide) hF rfl dX7_may_62
      · replace hF := itp c14 hF
        refine lv_iconst (v := (1 : Int32)) hx hb dX7_may_57 (by decide) ?_
        refine lv_goto (tgt := 62) hx hb dX7_may_58 (by decide) ?_
        exact n_zret G hI (by decide) hF rfl dX7_may_62
  · replace hF := itn c24 hF
    by_cases c25 : a0 = (1 : Int32)
    · replace hF := itp c25 hF
      refine lv_tableIn (tgt := 63) hx hb dX7_may_1 (by rw [c25]; decide) (by rw [c25]; decide) (by rw [c25]; rfl) (by decide) ?_
      refine lv_iload_n hx hb dX7_may_63 rfl (lv_at hl 1 rfl) ?_
      refine lv_iconst (v := (0 : Int32)) hx hb dX7_may_64 (by decide) ?_
      refine lv_iconst (v := (5 : Int32)) hx hb dX7_may_65 (by decide) ?_
      obtain ⟨r17, w16, z18, hF⟩ := bd_some hF
      refine n_Si (rest := []) G hI (c_X7_in hA  z18) my_X7_in kl_X7_86 ⟨Nat.le_of_ble_eq_true rfl, Nat.le_of_ble_eq_true rfl⟩ rfl hl.1 rfl (Nat.le_of_ble_eq_true rfl) dX7_may_66 (fun H locs hI => ?_)
      obtain ⟨g19, hF⟩ := gd_some hF
      exact n_zret G hI g19 hF rfl dX7_may_69
    · replace hF := itn c25 hF
      by_cases c26 : a0 = (2 : Int32)
      · replace hF := itp c26 hF
        refine lv_tableIn (tgt := 86) hx hb dX7_may_1 (by rw [c26]; decide) (by rw [c26]; decide) (by rw [c26]; rfl) (by decide) ?_
        exact hJ1  _ _ _ hF hI (lv_sub hl [1] rfl)
      · replace hF := itn c26 hF
        by_cases c27 : a0 = (3 : Int32)
        · replace hF := itp c27 hF
          refine lv_tableIn (tgt := 70) hx hb dX7_may_1 (by rw [c27]; decide) (by rw [c27]; decide) (by rw [c27]; rfl) (by decide) ?_
          refine lv_iload_n hx hb dX7_may_70 rfl (lv_at hl 1 rfl) ?_
          refine lv_iconst (v := (1 : Int32)) hx hb dX7_may_71 (by decide) ?_
          refine lv_bipush (v := (20 : Int32)) hx hb dX7_may_72 (by decide) ?_
          obtain ⟨r21, w20, z22, hF⟩ := bd_some hF
          refine n_Si (rest := []) G hI (c_X7_in hA  z22) my_X7_in kl_X7_86 ⟨Nat.le_of_ble_eq_true rfl, Nat.le_of_ble_eq_true rfl⟩ rfl hl.1 rfl (Nat.le_of_ble_eq_true rfl) dX7_may_74 (fun H locs hI => ?_)
          obtain ⟨g23, hF⟩ := gd_some hF
          exact n_zret G hI g23 hF rfl dX7_may_77
        · replace hF := itn c27 hF
          by_cases c28 : a0 = (4 : Int32)
          · replace hF := itp c28 hF
            refine lv_tableIn (tgt := 78) hx hb dX7_may_1 (by rw [c28]; decide) (by rw [c28]; decide) (by rw [c28]; rfl) (by decide) ?_
            exact hJ6  _ _ _ hF hI (lv_sub hl [1] rfl)
          · replace hF := itn c28 hF
            by_cases c29 : a0 = (5 : Int32)
            · replace hF := itp c29 hF
              refine lv_tableIn (tgt := 78) hx hb dX7_may_1 (by rw [c29]; decide) (by rw [c29]; decide) (by rw [c29]; rfl) (by decide) ?_
              exact hJ6  _ _ _ hF hI (lv_sub hl [1] rfl)
            · replace hF := itn c29 hF
              refine lv_tableOut (tgt := 86) hx hb dX7_may_1 (by have q0 := lv_neT (a := 0) c24 (by decide); have q1 := lv_neT (a := 1) c25 (by decide); have q2 := lv_neT (a := 2) c26 (by decide); have q3 := lv_neT (a := 3) c27 (by decide); have q4 := lv_neT (a := 4) c28 (by decide); have q5 := lv_neT (a := 5) c29 (by decide); omega) (by decide) ?_
              exact hJ1  _ _ _ hF hI (lv_sub hl [1] rfl)
set_option maxHeartbeats 4000000 in
theorem c_X7_isLeg (hA : AdOk n ad A) {a0 : Int32} {w w' : Mem} {r : Int32} (hF : F_X7_isLeg a0 w = some (r, w')) : Ctr l n sh D cA ad A sa yX7_isLeg cX7_isLeg 1 (some .boolean) 1 22 [.int a0] w (some (.int r)) w' := by
  refine m_enter hA (by decide) (Nat.le_of_ble_eq_true rfl) ?_
  intro p e s m args below meth c ls G hI hl
  replace hl : lv_has ls 1 [(0, .int a0)] := hl
  replace G : Mx n D cA ad A sa p s m args meth c RX7 cX7_isLeg 1 (some .boolean) := G
  obtain ⟨hx, hb, -, -, hown, hg, -⟩ := id G
  unfold F_X7_isLeg at hF
  refine lv_iload_n hx hb dX7_isLeg_0 rfl (lv_at hl 0 rfl) ?_
  refine lv_iconst (v := (0 : Int32)) hx hb dX7_isLeg_1 (by decide) ?_
  refine lv_iconst (v := (2 : Int32)) hx hb dX7_isLeg_2 (by decide) ?_
  obtain ⟨r2, w1, z3, hF⟩ := bd_some hF
  refine n_Si (rest := []) G hI (c_X7_in hA  z3) my_X7_in kl_X7_86 ⟨Nat.le_of_ble_eq_true rfl, Nat.le_of_ble_eq_true rfl⟩ rfl hl.1 rfl (Nat.le_of_ble_eq_true rfl) dX7_isLeg_3 (fun H locs hI => ?_)
  obtain ⟨g4, hF⟩ := gd_some hF
  exact n_zret G hI g4 hF rfl dX7_isLeg_6
set_option maxHeartbeats 4000000 in
theorem c_X7_sets (hA : AdOk n ad A) (h0 : isX7 n sh 0) {a1 : Int32} {a2 : Int32} {w w' : Mem} {r : Int32} (hF : F_X7_sets a1 a2 w = some (r, w')) : Ctr l n sh D cA ad A sa yX7_sets cX7_sets 4 (some .int) 2 43 [.ref (ad 0), .int a1, .int a2] w (some (.int r)) w' := by
  refine m_enter hA (by decide) (Nat.le_of_ble_eq_true rfl) ?_
  intro p e s m args below meth c ls G hI hl
  replace hl : lv_has ls 4 [(0, .ref (ad 0)), (1, .int a1), (2, .int a2)] := hl
  replace G : Mx n D cA ad A sa p s m args meth c RX7 cX7_sets 4 (some .int) := G
  obtain ⟨hx, hb, -, -, hown, hg, -⟩ := id G
  unfold F_X7_sets at hF
  refine lv_iload_n hx hb dX7_sets_0 rfl (lv_at hl 1 rfl) ?_
  refine lv_iconst (v := (0 : Int32)) hx hb dX7_sets_1 (by decide) ?_
  refine lv_bipush (v := (6 : Int32)) hx hb dX7_sets_2 (by decide) ?_
  obtain ⟨r2, w1, z3, hF⟩ := bd_some hF
  refine n_Si (rest := []) G hI (c_X7_in hA  z3) my_X7_in kl_X7_86 ⟨Nat.le_of_ble_eq_true rfl, Nat.le_of_ble_eq_true rfl⟩ rfl hl.1 rfl (Nat.le_of_ble_eq_true rfl) dX7_sets_4 (fun H locs hI => ?_)
  refine lv_if_eq (tgt := 18) hx hb dX7_sets_7 (by decide) (fun c17 => ?_) (fun c17 => ?_)
  · replace hF := itp c17 hF
    refine lv_aload_n hx hb dX7_sets_18 rfl (lv_at hl 0 rfl) ?_
    obtain ⟨r5, w4, z6, hF⟩ := bd_some hF
    refine n_Vi (rest := []) G hI (c_X7_bad hA h0 z6) my_X7_bad kl_X7_94 (isX7.lt h0) (isX7.sh h0) rfl ⟨Nat.le_of_ble_eq_true rfl, Nat.le_of_ble_eq_true rfl⟩ rfl hl.1 rfl (Nat.le_of_ble_eq_true rfl) dX7_sets_19 (fun H locs hI => ?_)
    exact n_iret G hI hF rfl dX7_sets_22
  · replace hF := itn c17 hF
    refine lv_iload_n hx hb dX7_sets_10 rfl (lv_at hl 1 rfl) ?_
    refine lv_iload_n hx hb dX7_sets_11 rfl (lv_at hl 2 rfl) ?_
    obtain ⟨r8, w7, z9, hF⟩ := bd_some hF
    refine n_Si (rest := []) G hI (c_X7_may hA  z9) my_X7_may kl_X7_90 ⟨Nat.le_of_ble_eq_true rfl, Nat.le_of_ble_eq_true rfl⟩ rfl hl.1 rfl (Nat.le_of_ble_eq_true rfl) dX7_sets_12 (fun H locs hI => ?_)
    refine lv_if_ne (tgt := 23) hx hb dX7_sets_15 (by decide) (fun c16 => ?_) (fun c16 => ?_)
    · replace hF := itn c16 hF
      refine lv_aload_n hx hb dX7_sets_23 rfl (lv_at hl 0 rfl) ?_
      refine gf_X7_13 G hI h0 dX7_sets_24 ?_
      refine lv_iload_n hx hb dX7_sets_27 rfl (lv_at hl 1 rfl) ?_
      obtain ⟨g10, hF⟩ := gd_some hF
      refine n_ald G hI (isX7.told h0) g10 dX7_sets_28 ?_
      refine lv_istore_n (lv' := [(3, .int (w7 2 (ix a1))), (0, .ref (ad 0)), (1, .int a1), (2, .int a2)]) hx hb dX7_sets_29 rfl hl (by decide) rfl (fun ls hl => ?_)
      refine lv_aload_n hx hb dX7_sets_30 rfl (lv_at hl 1 rfl) ?_
      refine gf_X7_13 G hI h0 dX7_sets_31 ?_
      refine lv_iload_n hx hb dX7_sets_34 rfl (lv_at hl 2 rfl) ?_
      refine lv_iload_n hx hb dX7_sets_35 rfl (lv_at hl 3 rfl) ?_
      obtain ⟨g11, hF⟩ := gd_some hF
      obtain ⟨w12, ew12, hF⟩ := lt_some hF
      refine n_ast G hI (isX7.told h0) g11 dX7_sets_36 (fun H locs hI => ?_)
      replace hI : Iv n sh D cA ad A s.heap w12 H locs := by rw [ew12]; exact hI
      refine lv_iload_n hx hb dX7_sets_37 rfl (lv_at hl 0 rfl) ?_
      exact n_iret G hI hF rfl dX7_sets_38
    · replace hF := itp c16 hF
      refine lv_aload_n hx hb dX7_sets_18 rfl (lv_at hl 0 rfl) ?_
      obtain ⟨r14, w13, z15, hF⟩ := bd_some hF
      refine n_Vi (rest := []) G hI (c_X7_bad hA h0 z15) my_X7_bad kl_X7_94 (isX7.lt h0) (isX7.sh h0) rfl ⟨Nat.le_of_ble_eq_true rfl, Nat.le_of_ble_eq_true rfl⟩ rfl hl.1 rfl (Nat.le_of_ble_eq_true rfl) dX7_sets_19 (fun H locs hI => ?_)
      exact n_iret G hI hF rfl dX7_sets_22
set_option maxHeartbeats 4000000 in
theorem c_X7_leg (hA : AdOk n ad A) (h0 : isX7 n sh 0) {a1 : Int32} {a2 : Int32} {a3 : Int32} {w w' : Mem} {r : Int32} (hF : F_X7_leg a1 a2 a3 w = some (r, w')) : Ctr l n sh D cA ad A sa yX7_leg cX7_leg 5 (some .int) 2 42 [.ref (ad 0), .int a1, .int a2, .int a3] w (some (.int r)) w' := by
  refine m_enter hA (by decide) (Nat.le_of_ble_eq_true rfl) ?_
  intro p e s m args below meth c ls G hI hl
  replace hl : lv_has ls 5 [(0, .ref (ad 0)), (1, .int a1), (2, .int a2), (3, .int a3)] := hl
  replace G : Mx n D cA ad A sa p s m args meth c RX7 cX7_leg 5 (some .int) := G
  obtain ⟨hx, hb, -, -, hown, hg, -⟩ := id G
  unfold F_X7_leg at hF
  refine lv_iload_n hx hb dX7_leg_0 rfl (lv_at hl 1 rfl) ?_
  obtain ⟨r2, w1, z3, hF⟩ := bd_some hF
  refine n_Si (rest := []) G hI (c_X7_isLeg hA  z3) my_X7_isLeg kl_X7_98 ⟨Nat.le_of_ble_eq_true rfl, Nat.le_of_ble_eq_true rfl⟩ rfl hl.1 rfl (Nat.le_of_ble_eq_true rfl) dX7_leg_1 (fun H locs hI => ?_)
  refine lv_if_eq (tgt := 49) hx hb dX7_leg_4 (by decide) (fun c44 => ?_) (fun c44 => ?_)
  · replace hF := itp c44 hF
    refine lv_aload_n hx hb dX7_leg_49 rfl (lv_at hl 0 rfl) ?_
    obtain ⟨r5, w4, z6, hF⟩ := bd_some hF
    refine n_Vi (rest := []) G hI (c_X7_bad hA h0 z6) my_X7_bad kl_X7_94 (isX7.lt h0) (isX7.sh h0) rfl ⟨Nat.le_of_ble_eq_true rfl, Nat.le_of_ble_eq_true rfl⟩ rfl hl.1 rfl (Nat.le_of_ble_eq_true rfl) dX7_leg_50 (fun H locs hI => ?_)
    exact n_iret G hI hF rfl dX7_leg_53
  · replace hF := itn c44 hF
    refine lv_iload_n hx hb dX7_leg_7 rfl (lv_at hl 2 rfl) ?_
    refine lv_iconst (v := (0 : Int32)) hx hb dX7_leg_8 (by decide) ?_
    refine lv_iconst (v := (1 : Int32)) hx hb dX7_leg_9 (by decide) ?_
    obtain ⟨r8, w7, z9, hF⟩ := bd_some hF
    refine n_Si (rest := []) G hI (c_X7_in hA  z9) my_X7_in kl_X7_86 ⟨Nat.le_of_ble_eq_true rfl, Nat.le_of_ble_eq_true rfl⟩ rfl hl.1 rfl (Nat.le_of_ble_eq_true rfl) dX7_leg_10 (fun H locs hI => ?_)
    refine lv_if_eq (tgt := 49) hx hb dX7_leg_13 (by decide) (fun c43 => ?_) (fun c43 => ?_)
    · replace hF := itp c43 hF
      refine lv_aload_n hx hb dX7_leg_49 rfl (lv_at hl 0 rfl) ?_
      obtain ⟨r11, w10, z12, hF⟩ := bd_some hF
      refine n_Vi (rest := []) G hI (c_X7_bad hA h0 z12) my_X7_bad kl_X7_94 (isX7.lt h0) (isX7.sh h0) rfl ⟨Nat.le_of_ble_eq_true rfl, Nat.le_of_ble_eq_true rfl⟩ rfl hl.1 rfl (Nat.le_of_ble_eq_true rfl) dX7_leg_50 (fun H locs hI => ?_)
      exact n_iret G hI hF rfl dX7_leg_53
    · replace hF := itn c43 hF
      refine lv_iload_n hx hb dX7_leg_16 rfl (lv_at hl 3 rfl) ?_
      refine lv_iload_n hx hb dX7_leg_17 rfl (lv_at hl 2 rfl) ?_
      obtain ⟨k13, ek13, hF⟩ := jn_some hF
      have hJ13 : ∀ (x14 : Int32) (H : Heap) (locs : List Loc) (ls : Array Slot), k13 x14 = some (r, w') → Iv n sh D cA ad A s.heap w7 H locs → lv_has ls 5 [(0, .ref (ad 0)), (1, .int a1), (2, .int a2), (3, .int a3)] → W p l e ({ frames := 2, cells := 0, slots := 0, locals := 42 } : Room) s m args below meth c H locs 0 0 (QM n sh D cA ad A below args s (some (.int r)) w') (F0 m 30 ls [.int x14, .int a3]) := by
        intro x14 H locs ls hF hI hl
        replace hF := (congrFun ek13 x14).symm.trans hF
        refine lv_iload_n hx hb dX7_leg_30 rfl (lv_at hl 2 rfl) ?_
        obtain ⟨k15, ek15, hF⟩ := jn_some hF
        have hJ15 : ∀ (x16 : Int32) (H : Heap) (locs : List Loc) (ls : Array Slot), k15 x16 = some (r, w') → Iv n sh D cA ad A s.heap w7 H locs → lv_has ls 5 [(0, .ref (ad 0)), (1, .int a1), (2, .int a2), (3, .int a3)] → W p l e ({ frames := 2, cells := 0, slots := 0, locals := 42 } : Room) s m args below meth c H locs 0 0 (QM n sh D cA ad A below args s (some (.int r)) w') (F0 m 43 ls [.int x16, .int x14, .int a3]) := by
          intro x16 H locs ls hF hI hl
          replace hF := (congrFun ek15 x16).symm.trans hF
          obtain ⟨r18, w17, z19, hF⟩ := bd_some hF
          refine n_Si (rest := []) G hI (c_X7_in hA  z19) my_X7_in kl_X7_86 ⟨Nat.le_of_ble_eq_true rfl, Nat.le_of_ble_eq_true rfl⟩ rfl hl.1 rfl (Nat.le_of_ble_eq_true rfl) dX7_leg_43 (fun H locs hI => ?_)
          refine lv_if_ne (tgt := 54) hx hb dX7_leg_46 (by decide) (fun c40 => ?_) (fun c40 => ?_)
          · replace hF := itn c40 hF
            refine lv_iload_n hx hb dX7_leg_54 rfl (lv_at hl 2 rfl) ?_
            obtain ⟨k20, ek20, hF⟩ := jn_some hF
            have hJ20 : ∀ (x21 : Int32) (H : Heap) (locs : List Loc) (ls : Array Slot), k20 x21 = some (r, w') → Iv n sh D cA ad A s.heap w17 H locs → lv_has ls 5 [(0, .ref (ad 0)), (1, .int a1), (2, .int a2), (3, .int a3)] → W p l e ({ frames := 2, cells := 0, slots := 0, locals := 42 } : Room) s m args below meth c H locs 0 0 (QM n sh D cA ad A below args s (some (.int r)) w') (F0 m 73 ls [.int x21]) := by
              intro x21 H locs ls hF hI hl
              replace hF := (congrFun ek20 x21).symm.trans hF
              refine lv_istore (lv' := [(4, .int x21), (0, .ref (ad 0)), (1, .int a1), (2, .int a2), (3, .int a3)]) hx hb dX7_leg_73 hl (by decide) rfl (fun ls hl => ?_)
              refine lv_aload_n hx hb dX7_leg_75 rfl (lv_at hl 1 rfl) ?_
              refine gf_X7_19 G hI h0 dX7_leg_76 ?_
              refine lv_iload_n hx hb dX7_leg_79 rfl (lv_at hl 2 rfl) ?_
              refine lv_iload_n hx hb dX7_leg_80 rfl (lv_at hl 3 rfl) ?_
              obtain ⟨k22, ek22, hF⟩ := jn_some hF
              have hJ22 : ∀ (x23 : Int32) (H : Heap) (locs : List Loc) (ls : Array Slot), k22 x23 = some (r, w') → Iv n sh D cA ad A s.heap w17 H locs → lv_has ls 5 [(0, .ref (ad 0)), (1, .int a1), (2, .int a2), (3, .int a3), (4, .int x21)] → W p l e ({ frames := 2, cells := 0, slots := 0, locals := 42 } : Room) s m args below meth c H locs 0 0 (QM n sh D cA ad A below args s (some (.int r)) w') (F0 m 94 ls [.int x23, .int a1, .ref (ad 4)]) := by
                intro x23 H locs ls hF hI hl
                replace hF := (congrFun ek22 x23).symm.trans hF
                obtain ⟨g24, hF⟩ := gd_some hF
                obtain ⟨w25, ew25, hF⟩ := lt_some hF
                refine n_ast G hI (isX7.demand h0) g24 dX7_leg_94 (fun H locs hI => ?_)
                replace hI : Iv n sh D cA ad A s.heap w25 H locs := by rw [ew25]; exact hI
                refine lv_aload_n hx hb dX7_leg_95 rfl (lv_at hl 0 rfl) ?_
                refine gf_X7_16 G hI h0 dX7_leg_96 ?_
                refine lv_iload_n hx hb dX7_leg_99 rfl (lv_at hl 1 rfl) ?_
                refine lv_iload_n hx hb dX7_leg_100 rfl (lv_at hl 2 rfl) ?_
                refine lv_iconst (v := (1 : Int32)) hx hb dX7_leg_101 (by decide) ?_
                refine lv_icmp_ne (tgt := 109) hx hb dX7_leg_102 (by decide) (fun c31 => ?_) (fun c31 => ?_)
                · replace hF := itn c31 hF
                  refine lv_aload_n hx hb dX7_leg_109 rfl (lv_at hl 0 rfl) ?_
                  refine gf_X7_16 G hI h0 dX7_leg_110 ?_
                  refine lv_iload_n hx hb dX7_leg_113 rfl (lv_at hl 1 rfl) ?_
                  obtain ⟨g26, hF⟩ := gd_some hF
                  refine n_ald G hI (isX7.current h0) g26 dX7_leg_114 ?_
                  obtain ⟨g27, hF⟩ := gd_some hF
                  obtain ⟨w28, ew28, hF⟩ := lt_some hF
                  refine n_ast G hI (isX7.current h0) g27 dX7_leg_115 (fun H locs hI => ?_)
                  replace hI : Iv n sh D cA ad A s.heap w28 H locs := by rw [ew28]; exact hI
                  refine lv_iload hx hb dX7_leg_116 (lv_at hl 4 rfl) ?_
                  exact n_iret G hI hF rfl dX7_leg_118
                · replace hF := itp c31 hF
                  refine lv_iload_n hx hb dX7_leg_105 rfl (lv_at hl 3 rfl) ?_
                  refine lv_goto (tgt := 115) hx hb dX7_leg_106 (by decide) ?_
                  obtain ⟨g29, hF⟩ := gd_some hF
                  obtain ⟨w30, ew30, hF⟩ := lt_some hF
                  refine n_ast G hI (isX7.current h0) g29 dX7_leg_115 (fun H locs hI => ?_)
                  replace hI : Iv n sh D cA ad A s.heap w30 H locs := by rw [ew30]; exact hI
                  refine lv_iload hx hb dX7_leg_116 (lv_at hl 4 rfl) ?_
                  exact n_iret G hI hF rfl dX7_leg_118
              refine lv_if_ne (tgt := 88) hx hb dX7_leg_81 (by decide) (fun c33 => ?_) (fun c33 => ?_)
              · replace hF := itn c33 hF
                refine lv_aload_n hx hb dX7_leg_88 rfl (lv_at hl 1 rfl) ?_
                refine gf_X7_19 G hI h0 dX7_leg_89 ?_
                refine lv_iload_n hx hb dX7_leg_92 rfl (lv_at hl 2 rfl) ?_
                obtain ⟨g32, hF⟩ := gd_some hF
                refine n_ald G hI (isX7.demand h0) g32 dX7_leg_93 ?_
                exact hJ22 _ _ _ _ hF hI (lv_sub hl [1, 2, 3, 4, 0] rfl)
              · replace hF := itp c33 hF
                refine lv_iload_n hx hb dX7_leg_84 rfl (lv_at hl 4 rfl) ?_
                refine lv_goto (tgt := 94) hx hb dX7_leg_85 (by decide) ?_
                exact hJ22 _ _ _ _ hF hI (lv_sub hl [1, 2, 3, 4, 0] rfl)
            refine lv_if_ne (tgt := 67) hx hb dX7_leg_55 (by decide) (fun c36 => ?_) (fun c36 => ?_)
            · replace hF := itn c36 hF
              refine lv_aload_n hx hb dX7_leg_67 rfl (lv_at hl 0 rfl) ?_
              refine gf_X7_16 G hI h0 dX7_leg_68 ?_
              refine lv_iload_n hx hb dX7_leg_71 rfl (lv_at hl 1 rfl) ?_
              obtain ⟨g34, hF⟩ := gd_some hF
              refine n_ald G hI (isX7.current h0) g34 dX7_leg_72 ?_
              exact hJ20 _ _ _ _ hF hI (lv_sub hl [0, 1, 2, 3] rfl)
            · replace hF := itp c36 hF
              refine lv_aload_n hx hb dX7_leg_58 rfl (lv_at hl 0 rfl) ?_
              refine gf_X7_19 G hI h0 dX7_leg_59 ?_
              refine lv_iload_n hx hb dX7_leg_62 rfl (lv_at hl 1 rfl) ?_
              obtain ⟨g35, hF⟩ := gd_some hF
              refine n_ald G hI (isX7.demand h0) g35 dX7_leg_63 ?_
              refine lv_goto (tgt := 73) hx hb dX7_leg_64 (by decide) ?_
              exact hJ20 _ _ _ _ hF hI (lv_sub hl [0, 1, 2, 3] rfl)
          · replace hF := itp c40 hF
            refine lv_aload_n hx hb dX7_leg_49 rfl (lv_at hl 0 rfl) ?_
            obtain ⟨r38, w37, z39, hF⟩ := bd_some hF
            refine n_Vi (rest := []) G hI (c_X7_bad hA h0 z39) my_X7_bad kl_X7_94 (isX7.lt h0) (isX7.sh h0) rfl ⟨Nat.le_of_ble_eq_true rfl, Nat.le_of_ble_eq_true rfl⟩ rfl hl.1 rfl (Nat.le_of_ble_eq_true rfl) dX7_leg_50 (fun H locs hI => ?_)
            exact n_iret G hI hF rfl dX7_leg_53
        refine lv_if_ne (tgt := 40) hx hb dX7_leg_31 (by decide) (fun c41 => ?_) (fun c41 => ?_)
        · replace hF := itn c41 hF
          refine lv_sipush (v := (999 : Int32)) hx hb dX7_leg_40 (by decide) ?_
          exact hJ15 _ _ _ _ hF hI (lv_sub hl [0, 1, 2, 3] rfl)
        · replace hF := itp c41 hF
          refine lv_sipush (v := (200 : Int32)) hx hb dX7_leg_34 (by decide) ?_
          refine lv_goto (tgt := 43) hx hb dX7_leg_37 (by decide) ?_
          exact hJ15 _ _ _ _ hF hI (lv_sub hl [0, 1, 2, 3] rfl)
      refine lv_if_ne (tgt := 27) hx hb dX7_leg_18 (by decide) (fun c42 => ?_) (fun c42 => ?_)
      · replace hF := itn c42 hF
        refine lv_sipush (v := (-999 : Int32)) hx hb dX7_leg_27 (by decide) ?_
        exact hJ13 _ _ _ _ hF hI (lv_sub hl [0, 1, 2, 3] rfl)
      · replace hF := itp c42 hF
        refine lv_sipush (v := (-200 : Int32)) hx hb dX7_leg_21 (by decide) ?_
        refine lv_goto (tgt := 30) hx hb dX7_leg_24 (by decide) ?_
        exact hJ13 _ _ _ _ hF hI (lv_sub hl [0, 1, 2, 3] rfl)
set_option maxHeartbeats 4000000 in
theorem c_X7_anew (hA : AdOk n ad A) (h0 : isX7 n sh 0) {w w' : Mem} {r : Int32} (hF : F_X7_anew  w = some (r, w')) : Ctr l n sh D cA ad A sa yX7_anew cX7_anew 2 (some .int) 1 21 [.ref (ad 0)] w (some (.int r)) w' := by
  refine m_enter hA (by decide) (Nat.le_of_ble_eq_true rfl) ?_
  intro p e s m args below meth c ls G hI hl
  replace hl : lv_has ls 2 [(0, .ref (ad 0))] := hl
  replace G : Mx n D cA ad A sa p s m args meth c RX7 cX7_anew 2 (some .int) := G
  obtain ⟨hx, hb, -, -, hown, hg, -⟩ := id G
  unfold F_X7_anew at hF
  refine lv_aload_n hx hb dX7_anew_0 rfl (lv_at hl 0 rfl) ?_
  refine gf_X7_76 G hI h0 dX7_anew_1 ?_
  refine lv_istore_n (lv' := [(1, .int (w 0 6)), (0, .ref (ad 0))]) hx hb dX7_anew_4 rfl hl (by decide) rfl (fun ls hl => ?_)
  refine lv_aload_n hx hb dX7_anew_5 rfl (lv_at hl 1 rfl) ?_
  obtain ⟨r2, w1, z3, hF⟩ := bd_some hF
  refine n_Vv (rest := []) G hI (c_X7_begins hA h0 z3) my_X7_begins kl_X7_73 (isX7.lt h0) (isX7.sh h0) rfl ⟨Nat.le_of_ble_eq_true rfl, Nat.le_of_ble_eq_true rfl⟩ rfl hl.1 rfl (Nat.le_of_ble_eq_true rfl) dX7_anew_6 (fun H locs hI => ?_)
  refine lv_iload_n hx hb dX7_anew_9 rfl (lv_at hl 0 rfl) ?_
  exact n_iret G hI hF rfl dX7_anew_10
set_option maxHeartbeats 4000000 in
theorem c_X7_greatest (hA : AdOk n ad A) {q0 : Nat} (h0 : isAr n sh q0 3) {w w' : Mem} {r : Int32} (hF : F_X7_greatest q0 w = some (r, w')) : Ctr l n sh D cA ad A sa yX7_greatest cX7_greatest 2 (some .int) 0 0 [.ref (ad q0)] w (some (.int r)) w' := by
  refine m_enter hA (by decide) (Nat.le_of_ble_eq_true rfl) ?_
  intro p e s m args below meth c ls G hI hl
  replace hl : lv_has ls 2 [(0, .ref (ad q0))] := hl
  replace G : Mx n D cA ad A sa p s m args meth c RX7 cX7_greatest 2 (some .int) := G
  obtain ⟨hx, hb, -, -, hown, hg, -⟩ := id G
  unfold F_X7_greatest at hF
  refine lv_aload_n hx hb dX7_greatest_0 rfl (lv_at hl 0 rfl) ?_
  refine lv_iconst (v := (0 : Int32)) hx hb dX7_greatest_1 (by decide) ?_
  refine n_ald G hI h0 (by decide) dX7_greatest_2 ?_
  refine W.eq (g2 := F0 m 3 ls [.int (w q0 0)]) rfl ?_
  refine lv_aload_n hx hb dX7_greatest_3 rfl (lv_at hl 0 rfl) ?_
  refine lv_iconst (v := (1 : Int32)) hx hb dX7_greatest_4 (by decide) ?_
  refine n_ald G hI h0 (by decide) dX7_greatest_5 ?_
  refine W.eq (g2 := F0 m 6 ls [.int (w q0 1), .int (w q0 0)]) rfl ?_
  obtain ⟨k1, ek1, hF⟩ := jn_some hF
  have hJ1 : ∀ (x2 : Int32) (H : Heap) (locs : List Loc) (ls : Array Slot), k1 x2 = some (r, w') → Iv n sh D cA ad A s.heap w H locs → lv_has ls 2 [(0, .ref (ad q0))] → W p l e ({ frames := 0, cells := 0, slots := 0, locals := 0 } : Room) s m args below meth c H locs 0 0 (QM n sh D cA ad A below args s (some (.int r)) w') (F0 m 18 ls [.int x2]) := by
    intro x2 H locs ls hF hI hl
    replace hF := (congrFun ek1 x2).symm.trans hF
    refine lv_istore_n (lv' := [(1, .int x2), (0, .ref (ad q0))]) hx hb dX7_greatest_18 rfl hl (by decide) rfl (fun ls hl => ?_)
    refine lv_iload_n hx hb dX7_greatest_19 rfl (lv_at hl 0 rfl) ?_
    refine lv_aload_n hx hb dX7_greatest_20 rfl (lv_at hl 1 rfl) ?_
    refine lv_iconst (v := (2 : Int32)) hx hb dX7_greatest_21 (by decide) ?_
    refine n_ald G hI h0 (by decide) dX7_greatest_22 ?_
    refine W.eq (g2 := F0 m 23 ls [.int (w q0 2), .int x2]) rfl ?_
    refine lv_icmp_le (tgt := 30) hx hb dX7_greatest_23 (by decide) (fun c3 => ?_) (fun c3 => ?_)
    · replace hF := itp c3 hF
      refine lv_aload_n hx hb dX7_greatest_30 rfl (lv_at hl 1 rfl) ?_
      refine lv_iconst (v := (2 : Int32)) hx hb dX7_greatest_31 (by decide) ?_
      refine n_ald G hI h0 (by decide) dX7_greatest_32 ?_
      refine W.eq (g2 := F0 m 33 ls [.int (w q0 2)]) rfl ?_
      exact n_iret G hI hF rfl dX7_greatest_33
    · replace hF := itn c3 hF
      refine lv_iload_n hx hb dX7_greatest_26 rfl (lv_at hl 0 rfl) ?_
      refine lv_goto (tgt := 33) hx hb dX7_greatest_27 (by decide) ?_
      exact n_iret G hI hF rfl dX7_greatest_33
  refine lv_icmp_le (tgt := 15) hx hb dX7_greatest_6 (by decide) (fun c4 => ?_) (fun c4 => ?_)
  · replace hF := itp c4 hF
    refine lv_aload_n hx hb dX7_greatest_15 rfl (lv_at hl 0 rfl) ?_
    refine lv_iconst (v := (1 : Int32)) hx hb dX7_greatest_16 (by decide) ?_
    refine n_ald G hI h0 (by decide) dX7_greatest_17 ?_
    refine W.eq (g2 := F0 m 18 ls [.int (w q0 1)]) rfl ?_
    exact hJ1 _ _ _ _ hF hI (lv_sub hl [0] rfl)
  · replace hF := itn c4 hF
    refine lv_aload_n hx hb dX7_greatest_9 rfl (lv_at hl 0 rfl) ?_
    refine lv_iconst (v := (0 : Int32)) hx hb dX7_greatest_10 (by decide) ?_
    refine n_ald G hI h0 (by decide) dX7_greatest_11 ?_
    refine W.eq (g2 := F0 m 12 ls [.int (w q0 0)]) rfl ?_
    refine lv_goto (tgt := 18) hx hb dX7_greatest_12 (by decide) ?_
    exact hJ1 _ _ _ _ hF hI (lv_sub hl [0] rfl)
set_option maxHeartbeats 4000000 in
theorem c_X7_least (hA : AdOk n ad A) {q0 : Nat} (h0 : isAr n sh q0 3) {w w' : Mem} {r : Int32} (hF : F_X7_least q0 w = some (r, w')) : Ctr l n sh D cA ad A sa yX7_least cX7_least 2 (some .int) 0 0 [.ref (ad q0)] w (some (.int r)) w' := by
  refine m_enter hA (by decide) (Nat.le_of_ble_eq_true rfl) ?_
  intro p e s m args below meth c ls G hI hl
  replace hl : lv_has ls 2 [(0, .ref (ad q0))] := hl
  replace G : Mx n D cA ad A sa p s m args meth c RX7 cX7_least 2 (some .int) := G
  obtain ⟨hx, hb, -, -, hown, hg, -⟩ := id G
  unfold F_X7_least at hF
  refine lv_aload_n hx hb dX7_least_0 rfl (lv_at hl 0 rfl) ?_
  refine lv_iconst (v := (0 : Int32)) hx hb dX7_least_1 (by decide) ?_
  refine n_ald G hI h0 (by decide) dX7_least_2 ?_
  refine W.eq (g2 := F0 m 3 ls [.int (w q0 0)]) rfl ?_
  refine lv_aload_n hx hb dX7_least_3 rfl (lv_at hl 0 rfl) ?_
  refine lv_iconst (v := (1 : Int32)) hx hb dX7_least_4 (by decide) ?_
  refine n_ald G hI h0 (by decide) dX7_least_5 ?_
  refine W.eq (g2 := F0 m 6 ls [.int (w q0 1), .int (w q0 0)]) rfl ?_
  obtain ⟨k1, ek1, hF⟩ := jn_some hF
  have hJ1 : ∀ (x2 : Int32) (H : Heap) (locs : List Loc) (ls : Array Slot), k1 x2 = some (r, w') → Iv n sh D cA ad A s.heap w H locs → lv_has ls 2 [(0, .ref (ad q0))] → W p l e ({ frames := 0, cells := 0, slots := 0, locals := 0 } : Room) s m args below meth c H locs 0 0 (QM n sh D cA ad A below args s (some (.int r)) w') (F0 m 18 ls [.int x2]) := by
    intro x2 H locs ls hF hI hl
    replace hF := (congrFun ek1 x2).symm.trans hF
    refine lv_istore_n (lv' := [(1, .int x2), (0, .ref (ad q0))]) hx hb dX7_least_18 rfl hl (by decide) rfl (fun ls hl => ?_)
    refine lv_iload_n hx hb dX7_least_19 rfl (lv_at hl 0 rfl) ?_
    refine lv_aload_n hx hb dX7_least_20 rfl (lv_at hl 1 rfl) ?_
    refine lv_iconst (v := (2 : Int32)) hx hb dX7_least_21 (by decide) ?_
    refine n_ald G hI h0 (by decide) dX7_least_22 ?_
    refine W.eq (g2 := F0 m 23 ls [.int (w q0 2), .int x2]) rfl ?_
    refine lv_icmp_ge (tgt := 30) hx hb dX7_least_23 (by decide) (fun c3 => ?_) (fun c3 => ?_)
    · replace hF := itp c3 hF
      refine lv_aload_n hx hb dX7_least_30 rfl (lv_at hl 1 rfl) ?_
      refine lv_iconst (v := (2 : Int32)) hx hb dX7_least_31 (by decide) ?_
      refine n_ald G hI h0 (by decide) dX7_least_32 ?_
      refine W.eq (g2 := F0 m 33 ls [.int (w q0 2)]) rfl ?_
      exact n_iret G hI hF rfl dX7_least_33
    · replace hF := itn c3 hF
      refine lv_iload_n hx hb dX7_least_26 rfl (lv_at hl 0 rfl) ?_
      refine lv_goto (tgt := 33) hx hb dX7_least_27 (by decide) ?_
      exact n_iret G hI hF rfl dX7_least_33
  refine lv_icmp_ge (tgt := 15) hx hb dX7_least_6 (by decide) (fun c4 => ?_) (fun c4 => ?_)
  · replace hF := itp c4 hF
    refine lv_aload_n hx hb dX7_least_15 rfl (lv_at hl 0 rfl) ?_
    refine lv_iconst (v := (1 : Int32)) hx hb dX7_least_16 (by decide) ?_
    refine n_ald G hI h0 (by decide) dX7_least_17 ?_
    refine W.eq (g2 := F0 m 18 ls [.int (w q0 1)]) rfl ?_
    exact hJ1 _ _ _ _ hF hI (lv_sub hl [0] rfl)
  · replace hF := itn c4 hF
    refine lv_aload_n hx hb dX7_least_9 rfl (lv_at hl 0 rfl) ?_
    refine lv_iconst (v := (0 : Int32)) hx hb dX7_least_10 (by decide) ?_
    refine n_ald G hI h0 (by decide) dX7_least_11 ?_
    refine W.eq (g2 := F0 m 12 ls [.int (w q0 0)]) rfl ?_
    refine lv_goto (tgt := 18) hx hb dX7_least_12 (by decide) ?_
    exact hJ1 _ _ _ _ hF hI (lv_sub hl [0] rfl)
set_option maxHeartbeats 4000000 in
theorem c_X7_bound (hA : AdOk n ad A) {a0 : Int32} {a1 : Int32} {w w' : Mem} {r : Int32} (hF : F_X7_bound a0 a1 w = some (r, w')) : Ctr l n sh D cA ad A sa yX7_bound cX7_bound 2 (some .int) 0 0 [.int a0, .int a1] w (some (.int r)) w' := by
  refine m_enter hA (by decide) (Nat.le_of_ble_eq_true rfl) ?_
  intro p e s m args below meth c ls G hI hl
  replace hl : lv_has ls 2 [(0, .int a0), (1, .int a1)] := hl
  replace G : Mx n D cA ad A sa p s m args meth c RX7 cX7_bound 2 (some .int) := G
  obtain ⟨hx, hb, -, -, hown, hg, -⟩ := id G
  unfold F_X7_bound at hF
  refine lv_iload_n hx hb dX7_bound_0 rfl (lv_at hl 0 rfl) ?_
  refine lv_if_ge (tgt := 8) hx hb dX7_bound_1 (by decide) (fun c2 => ?_) (fun c2 => ?_)
  · replace hF := itp c2 hF
    refine lv_iload_n hx hb dX7_bound_8 rfl (lv_at hl 0 rfl) ?_
    refine lv_iload_n hx hb dX7_bound_9 rfl (lv_at hl 1 rfl) ?_
    refine lv_icmp_le (tgt := 17) hx hb dX7_bound_10 (by decide) (fun c1 => ?_) (fun c1 => ?_)
    · replace hF := itp c1 hF
      refine lv_iload_n hx hb dX7_bound_17 rfl (lv_at hl 0 rfl) ?_
      exact n_iret G hI hF rfl dX7_bound_18
    · replace hF := itn c1 hF
      refine lv_iload_n hx hb dX7_bound_13 rfl (lv_at hl 1 rfl) ?_
      refine lv_goto (tgt := 18) hx hb dX7_bound_14 (by decide) ?_
      exact n_iret G hI hF rfl dX7_bound_18
  · replace hF := itn c2 hF
    refine lv_iconst (v := (0 : Int32)) hx hb dX7_bound_4 (by decide) ?_
    refine lv_goto (tgt := 18) hx hb dX7_bound_5 (by decide) ?_
    exact n_iret G hI hF rfl dX7_bound_18
set_option maxHeartbeats 4000000 in
theorem l_X7_setPlan_45 {p : Program} {e : Env} {s : State} {m : MethodId} {args : Array Value} {below : List Frame} {meth : Method} {c : Code} (G : Mx n D cA ad A sa p s m args meth c RX7 cX7_setPlan 5 none) {a1 : Int32} (h0 : isX7 n sh 0) {k : Mem → Option (Unit × Mem)} {r : Unit} {w' : Mem}
    (hk : ∀  (w : Mem) (H : Heap) (locs : List Loc) (ls : Array Slot), k  w = some (r, w') → Iv n sh D cA ad A s.heap w H locs → lv_has ls 5 [(0, .ref (ad 0)), (1, .int a1)] → W p l e ({ frames := 1, cells := 0, slots := 0, locals := 21 } : Room) s m args below meth c H locs 0 0 (QM n sh D cA ad A below args s none w') (F0 m 91 ls [])) :
    ∀ (N : Nat) (v2 : Int32) (w : Mem) (H : Heap) (locs : List Loc) (ls : Array Slot), L_X7_setPlan_45 a1 k N v2 w = some (r, w') → Iv n sh D cA ad A s.heap w H locs → lv_has ls 5 [(0, .ref (ad 0)), (1, .int a1), (2, .int v2)] → W p l e ({ frames := 1, cells := 0, slots := 0, locals := 21 } : Room) s m args below meth c H locs 0 0 (QM n sh D cA ad A below args s none w') (F0 m 45 ls []) := by
  obtain ⟨hx, hb, -, -, hown, hg, -, -, -, -, hA⟩ := id G
  intro N
  induction N with
  | zero =>
    intro v2 w H locs ls hF hI hl
    cases hF
  | succ N ih =>
    intro v2 w H locs ls hF hI hl
    rw [L_X7_setPlan_45] at hF
    refine lv_iload_n hx hb dX7_setPlan_45 rfl (lv_at hl 2 rfl) ?_
    refine lv_iconst (v := (3 : Int32)) hx hb dX7_setPlan_46 (by decide) ?_
    refine lv_icmp_ge (tgt := 91) hx hb dX7_setPlan_47 (by decide) (fun c20 => ?_) (fun c20 => ?_)
    · replace hF := itp c20 hF
      exact hk _ _ _ _ hF hI (lv_sub hl [0, 1] rfl)
    · replace hF := itn c20 hF
      refine lv_aload_n hx hb dX7_setPlan_50 rfl (lv_at hl 0 rfl) ?_
      refine gf_X7_49 G hI h0 dX7_setPlan_51 ?_
      refine lv_iload_n hx hb dX7_setPlan_54 rfl (lv_at hl 2 rfl) ?_
      refine lv_aload_n hx hb dX7_setPlan_55 rfl (lv_at hl 0 rfl) ?_
      refine gf_X7_130 G hI h0 dX7_setPlan_56 ?_
      refine lv_if_eq (tgt := 78) hx hb dX7_setPlan_59 (by decide) (fun c19 => ?_) (fun c19 => ?_)
      · replace hF := itp c19 hF
        refine lv_aload_n hx hb dX7_setPlan_78 rfl (lv_at hl 0 rfl) ?_
        refine gf_X7_19 G hI h0 dX7_setPlan_79 ?_
        refine lv_iload_n hx hb dX7_setPlan_82 rfl (lv_at hl 2 rfl) ?_
        obtain ⟨g12, hF⟩ := gd_some hF
        refine n_ald G hI (isX7.demand h0) g12 dX7_setPlan_83 ?_
        obtain ⟨g13, hF⟩ := gd_some hF
        obtain ⟨w14, ew14, hF⟩ := lt_some hF
        refine n_ast G hI (isX7.counts h0) g13 dX7_setPlan_84 (fun H locs hI => ?_)
        replace hI : Iv n sh D cA ad A s.heap w14 H locs := by rw [ew14]; exact hI
        refine lv_iinc (v := (v2 + (1 : Int32))) (lv' := [(2, .int (v2 + (1 : Int32))), (0, .ref (ad 0)), (1, .int a1)]) hx hb dX7_setPlan_85 hl (k := 2) rfl rfl (by decide) rfl (fun ls hl => ?_)
        refine lv_goto (tgt := 45) hx hb dX7_setPlan_88 (by decide) ?_
        exact ih _ _ _ _ _ hF hI (lv_sub hl [1, 2, 0] rfl)
      · replace hF := itn c19 hF
        refine lv_aload_n hx hb dX7_setPlan_62 rfl (lv_at hl 0 rfl) ?_
        refine gf_X7_19 G hI h0 dX7_setPlan_63 ?_
        refine lv_iload_n hx hb dX7_setPlan_66 rfl (lv_at hl 2 rfl) ?_
        obtain ⟨g15, hF⟩ := gd_some hF
        refine n_ald G hI (isX7.demand h0) g15 dX7_setPlan_67 ?_
        refine lv_iload_n hx hb dX7_setPlan_68 rfl (lv_at hl 1 rfl) ?_
        refine lv_imul hx hb dX7_setPlan_69 ?_
        refine lv_aload_n hx hb dX7_setPlan_70 rfl (lv_at hl 0 rfl) ?_
        refine gf_X7_120 G hI h0 dX7_setPlan_71 ?_
        obtain ⟨g16, hF⟩ := gd_some hF
        refine n_idiv G g16 dX7_setPlan_74 ?_
        refine lv_goto (tgt := 84) hx hb dX7_setPlan_75 (by decide) ?_
        obtain ⟨g17, hF⟩ := gd_some hF
        obtain ⟨w18, ew18, hF⟩ := lt_some hF
        refine n_ast G hI (isX7.counts h0) g17 dX7_setPlan_84 (fun H locs hI => ?_)
        replace hI : Iv n sh D cA ad A s.heap w18 H locs := by rw [ew18]; exact hI
        refine lv_iinc (v := (v2 + (1 : Int32))) (lv' := [(2, .int (v2 + (1 : Int32))), (0, .ref (ad 0)), (1, .int a1)]) hx hb dX7_setPlan_85 hl (k := 2) rfl rfl (by decide) rfl (fun ls hl => ?_)
        refine lv_goto (tgt := 45) hx hb dX7_setPlan_88 (by decide) ?_
        exact ih _ _ _ _ _ hF hI (lv_sub hl [1, 2, 0] rfl)
set_option maxHeartbeats 4000000 in
theorem l_X7_setPlan_109 {p : Program} {e : Env} {s : State} {m : MethodId} {args : Array Value} {below : List Frame} {meth : Method} {c : Code} (G : Mx n D cA ad A sa p s m args meth c RX7 cX7_setPlan 5 none) {a1 : Int32} {a2 : Int32} (h0 : isX7 n sh 0) {k : Mem → Option (Unit × Mem)} {r : Unit} {w' : Mem}
    (hk : ∀  (w : Mem) (H : Heap) (locs : List Loc) (ls : Array Slot), k  w = some (r, w') → Iv n sh D cA ad A s.heap w H locs → lv_has ls 5 [] → W p l e ({ frames := 1, cells := 0, slots := 0, locals := 21 } : Room) s m args below meth c H locs 0 0 (QM n sh D cA ad A below args s none w') (F0 m 236 ls [])) :
    ∀ (N : Nat) (v3 : Int32) (w : Mem) (H : Heap) (locs : List Loc) (ls : Array Slot), L_X7_setPlan_109 a1 a2 k N v3 w = some (r, w') → Iv n sh D cA ad A s.heap w H locs → lv_has ls 5 [(0, .ref (ad 0)), (1, .int a1), (2, .int a2), (3, .int v3)] → W p l e ({ frames := 1, cells := 0, slots := 0, locals := 21 } : Room) s m args below meth c H locs 0 0 (QM n sh D cA ad A below args s none w') (F0 m 109 ls []) := by
  obtain ⟨hx, hb, -, -, hown, hg, -, -, -, -, hA⟩ := id G
  intro N
  induction N with
  | zero =>
    intro v3 w H locs ls hF hI hl
    cases hF
  | succ N ih =>
    intro v3 w H locs ls hF hI hl
    rw [L_X7_setPlan_109] at hF
    refine lv_iload_n hx hb dX7_setPlan_109 rfl (lv_at hl 3 rfl) ?_
    refine lv_iconst (v := (3 : Int32)) hx hb dX7_setPlan_110 (by decide) ?_
    refine lv_icmp_ge (tgt := 236) hx hb dX7_setPlan_111 (by decide) (fun c51 => ?_) (fun c51 => ?_)
    · replace hF := itp c51 hF
      exact hk _ _ _ _ hF hI (lv_sub hl [] rfl)
    · replace hF := itn c51 hF
      refine lv_aload_n hx hb dX7_setPlan_114 rfl (lv_at hl 0 rfl) ?_
      refine gf_X7_40 G hI h0 dX7_setPlan_115 ?_
      refine lv_iload_n hx hb dX7_setPlan_118 rfl (lv_at hl 3 rfl) ?_
      refine lv_iload_n hx hb dX7_setPlan_119 rfl (lv_at hl 1 rfl) ?_
      refine lv_iconst (v := (2 : Int32)) hx hb dX7_setPlan_120 (by decide) ?_
      refine lv_aload_n hx hb dX7_setPlan_121 rfl (lv_at hl 0 rfl) ?_
      refine gf_X7_49 G hI h0 dX7_setPlan_122 ?_
      refine lv_iload_n hx hb dX7_setPlan_125 rfl (lv_at hl 3 rfl) ?_
      obtain ⟨g28, hF⟩ := gd_some hF
      refine n_ald G hI (isX7.counts h0) g28 dX7_setPlan_126 ?_
      refine lv_imul hx hb dX7_setPlan_127 ?_
      refine lv_iadd hx hb dX7_setPlan_128 ?_
      refine lv_iload_n hx hb dX7_setPlan_129 rfl (lv_at hl 2 rfl) ?_
      refine lv_isub hx hb dX7_setPlan_130 ?_
      refine lv_iconst (v := (2 : Int32)) hx hb dX7_setPlan_131 (by decide) ?_
      refine n_idiv G (by decide) dX7_setPlan_132 ?_
      refine lv_iload_n hx hb dX7_setPlan_133 rfl (lv_at hl 1 rfl) ?_
      obtain ⟨r30, w29, z31, hF⟩ := bd_some hF
      refine n_Si (rest := [.int v3, .ref (ad 11)]) G hI (c_X7_bound hA  z31) my_X7_bound kl_X7_134 ⟨Nat.le_of_ble_eq_true rfl, Nat.le_of_ble_eq_true rfl⟩ rfl hl.1 rfl (Nat.le_of_ble_eq_true rfl) dX7_setPlan_134 (fun H locs hI => ?_)
      obtain ⟨g32, hF⟩ := gd_some hF
      obtain ⟨w33, ew33, hF⟩ := lt_some hF
      refine n_ast G hI (isX7.plain h0) g32 dX7_setPlan_137 (fun H locs hI => ?_)
      replace hI : Iv n sh D cA ad A s.heap w33 H locs := by rw [ew33]; exact hI
      refine lv_aload_n hx hb dX7_setPlan_138 rfl (lv_at hl 0 rfl) ?_
      refine gf_X7_13 G hI h0 dX7_setPlan_139 ?_
      refine lv_iconst (v := (2 : Int32)) hx hb dX7_setPlan_142 (by decide) ?_
      refine n_ald G hI (isX7.told h0) (by decide) dX7_setPlan_143 ?_
      refine W.eq (g2 := F0 m 144 ls [.int (w33 2 2)]) rfl ?_
      obtain ⟨k34, ek34, hF⟩ := jn_some hF
      have hJ34 : ∀ (x35 : Int32) (H : Heap) (locs : List Loc) (ls : Array Slot), k34 x35 = some (r, w') → Iv n sh D cA ad A s.heap w33 H locs → lv_has ls 5 [(0, .ref (ad 0)), (1, .int a1), (2, .int a2), (3, .int v3)] → W p l e ({ frames := 1, cells := 0, slots := 0, locals := 21 } : Room) s m args below meth c H locs 0 0 (QM n sh D cA ad A below args s none w') (F0 m 185 ls [.int x35]) := by
        intro x35 H locs ls hF hI hl
        replace hF := (congrFun ek34 x35).symm.trans hF
        refine lv_istore (lv' := [(4, .int x35), (0, .ref (ad 0)), (1, .int a1), (2, .int a2), (3, .int v3)]) hx hb dX7_setPlan_185 hl (by decide) rfl (fun ls hl => ?_)
        refine lv_aload_n hx hb dX7_setPlan_187 rfl (lv_at hl 1 rfl) ?_
        refine gf_X7_43 G hI h0 dX7_setPlan_188 ?_
        refine lv_iload_n hx hb dX7_setPlan_191 rfl (lv_at hl 4 rfl) ?_
        refine lv_iload_n hx hb dX7_setPlan_192 rfl (lv_at hl 2 rfl) ?_
        refine lv_iconst (v := (2 : Int32)) hx hb dX7_setPlan_193 (by decide) ?_
        refine lv_aload_n hx hb dX7_setPlan_194 rfl (lv_at hl 1 rfl) ?_
        refine gf_X7_49 G hI h0 dX7_setPlan_195 ?_
        refine lv_iload_n hx hb dX7_setPlan_198 rfl (lv_at hl 4 rfl) ?_
        obtain ⟨g36, hF⟩ := gd_some hF
        refine n_ald G hI (isX7.counts h0) g36 dX7_setPlan_199 ?_
        refine lv_imul hx hb dX7_setPlan_200 ?_
        refine lv_iadd hx hb dX7_setPlan_201 ?_
        refine lv_iload_n hx hb dX7_setPlan_202 rfl (lv_at hl 3 rfl) ?_
        refine lv_isub hx hb dX7_setPlan_203 ?_
        refine lv_iconst (v := (2 : Int32)) hx hb dX7_setPlan_204 (by decide) ?_
        refine n_idiv G (by decide) dX7_setPlan_205 ?_
        refine lv_iload hx hb dX7_setPlan_206 (lv_at hl 0 rfl) ?_
        refine lv_iadd hx hb dX7_setPlan_208 ?_
        refine lv_iload_n hx hb dX7_setPlan_209 rfl (lv_at hl 2 rfl) ?_
        obtain ⟨r38, w37, z39, hF⟩ := bd_some hF
        refine n_Si (rest := [.int v3, .ref (ad 12)]) G hI (c_X7_bound hA  z39) my_X7_bound kl_X7_134 ⟨Nat.le_of_ble_eq_true rfl, Nat.le_of_ble_eq_true rfl⟩ rfl hl.1 rfl (Nat.le_of_ble_eq_true rfl) dX7_setPlan_210 (fun H locs hI => ?_)
        obtain ⟨g40, hF⟩ := gd_some hF
        obtain ⟨w41, ew41, hF⟩ := lt_some hF
        refine n_ast G hI (isX7.high h0) g40 dX7_setPlan_213 (fun H locs hI => ?_)
        replace hI : Iv n sh D cA ad A s.heap w41 H locs := by rw [ew41]; exact hI
        refine lv_aload_n hx hb dX7_setPlan_214 rfl (lv_at hl 1 rfl) ?_
        refine gf_X7_46 G hI h0 dX7_setPlan_215 ?_
        refine lv_iload_n hx hb dX7_setPlan_218 rfl (lv_at hl 4 rfl) ?_
        refine lv_iload_n hx hb dX7_setPlan_219 rfl (lv_at hl 2 rfl) ?_
        refine lv_aload_n hx hb dX7_setPlan_220 rfl (lv_at hl 1 rfl) ?_
        refine gf_X7_43 G hI h0 dX7_setPlan_221 ?_
        refine lv_iload_n hx hb dX7_setPlan_224 rfl (lv_at hl 4 rfl) ?_
        obtain ⟨g42, hF⟩ := gd_some hF
        refine n_ald G hI (isX7.high h0) g42 dX7_setPlan_225 ?_
        refine lv_isub hx hb dX7_setPlan_226 ?_
        refine lv_iconst (v := (2 : Int32)) hx hb dX7_setPlan_227 (by decide) ?_
        refine n_idiv G (by decide) dX7_setPlan_228 ?_
        obtain ⟨g43, hF⟩ := gd_some hF
        obtain ⟨w44, ew44, hF⟩ := lt_some hF
        refine n_ast G hI (isX7.start h0) g43 dX7_setPlan_229 (fun H locs hI => ?_)
        replace hI : Iv n sh D cA ad A s.heap w44 H locs := by rw [ew44]; exact hI
        refine lv_iinc (v := (v3 + (1 : Int32))) (lv' := [(3, .int (v3 + (1 : Int32))), (4, .int x35), (0, .ref (ad 0)), (1, .int a1), (2, .int a2)]) hx hb dX7_setPlan_230 hl (k := 4) rfl rfl (by decide) rfl (fun ls hl => ?_)
        refine lv_goto (tgt := 109) hx hb dX7_setPlan_233 (by decide) ?_
        exact ih _ _ _ _ _ hF hI (lv_sub hl [2, 3, 4, 0] rfl)
      obtain ⟨k45, ek45, hF⟩ := jn_some hF
      have hJ45 : ∀  (H : Heap) (locs : List Loc) (ls : Array Slot), k45  = some (r, w') → Iv n sh D cA ad A s.heap w33 H locs → lv_has ls 5 [(0, .ref (ad 0)), (1, .int a1), (2, .int a2), (3, .int v3)] → W p l e ({ frames := 1, cells := 0, slots := 0, locals := 21 } : Room) s m args below meth c H locs 0 0 (QM n sh D cA ad A below args s none w') (F0 m 156 ls []) := by
        intro  H locs ls hF hI hl
        replace hF := ek45.symm.trans hF
        refine lv_iconst (v := (0 : Int32)) hx hb dX7_setPlan_156 (by decide) ?_
        refine lv_goto (tgt := 185) hx hb dX7_setPlan_157 (by decide) ?_
        exact hJ34 _ _ _ _ hF hI (lv_sub hl [0, 1, 2, 3] rfl)
      refine lv_if_eq (tgt := 156) hx hb dX7_setPlan_144 (by decide) (fun c50 => ?_) (fun c50 => ?_)
      · replace hF := itp c50 hF
        exact hJ45  _ _ _ hF hI (lv_sub hl [0, 1, 2, 3] rfl)
      · replace hF := itn c50 hF
        refine lv_aload_n hx hb dX7_setPlan_147 rfl (lv_at hl 0 rfl) ?_
        refine gf_X7_16 G hI h0 dX7_setPlan_148 ?_
        refine lv_iload_n hx hb dX7_setPlan_151 rfl (lv_at hl 3 rfl) ?_
        obtain ⟨g46, hF⟩ := gd_some hF
        refine n_ald G hI (isX7.current h0) g46 dX7_setPlan_152 ?_
        refine lv_if_ne (tgt := 160) hx hb dX7_setPlan_153 (by decide) (fun c49 => ?_) (fun c49 => ?_)
        · replace hF := itn c49 hF
          refine lv_aload_n hx hb dX7_setPlan_160 rfl (lv_at hl 0 rfl) ?_
          refine gf_X7_16 G hI h0 dX7_setPlan_161 ?_
          refine lv_iload_n hx hb dX7_setPlan_164 rfl (lv_at hl 3 rfl) ?_
          obtain ⟨g47, hF⟩ := gd_some hF
          refine n_ald G hI (isX7.current h0) g47 dX7_setPlan_165 ?_
          refine lv_if_le (tgt := 178) hx hb dX7_setPlan_166 (by decide) (fun c48 => ?_) (fun c48 => ?_)
          · replace hF := itp c48 hF
            refine lv_aload_n hx hb dX7_setPlan_178 rfl (lv_at hl 0 rfl) ?_
            refine gf_X7_13 G hI h0 dX7_setPlan_179 ?_
            refine lv_iconst (v := (1 : Int32)) hx hb dX7_setPlan_182 (by decide) ?_
            refine n_ald G hI (isX7.told h0) (by decide) dX7_setPlan_183 ?_
            refine W.eq (g2 := F0 m 184 ls [.int (w33 2 1)]) rfl ?_
            refine lv_ineg hx hb dX7_setPlan_184 ?_
            exact hJ34 _ _ _ _ hF hI (lv_sub hl [0, 1, 2, 3] rfl)
          · replace hF := itn c48 hF
            refine lv_aload_n hx hb dX7_setPlan_169 rfl (lv_at hl 0 rfl) ?_
            refine gf_X7_13 G hI h0 dX7_setPlan_170 ?_
            refine lv_iconst (v := (1 : Int32)) hx hb dX7_setPlan_173 (by decide) ?_
            refine n_ald G hI (isX7.told h0) (by decide) dX7_setPlan_174 ?_
            refine W.eq (g2 := F0 m 175 ls [.int (w33 2 1)]) rfl ?_
            refine lv_goto (tgt := 185) hx hb dX7_setPlan_175 (by decide) ?_
            exact hJ34 _ _ _ _ hF hI (lv_sub hl [0, 1, 2, 3] rfl)
        · replace hF := itp c49 hF
          exact hJ45  _ _ _ hF hI (lv_sub hl [0, 1, 2, 3] rfl)
set_option maxHeartbeats 4000000 in
theorem c_X7_setPlan (hA : AdOk n ad A) (h0 : isX7 n sh 0) {w w' : Mem} {r : Unit} (hF : F_X7_setPlan  w = some (r, w')) : Ctr l n sh D cA ad A sa yX7_setPlan cX7_setPlan 5 none 1 21 [.ref (ad 0)] w none w' := by
  refine m_enter hA (by decide) (Nat.le_of_ble_eq_true rfl) ?_
  intro p e s m args below meth c ls G hI hl
  replace hl : lv_has ls 5 [(0, .ref (ad 0))] := hl
  replace G : Mx n D cA ad A sa p s m args meth c RX7 cX7_setPlan 5 none := G
  obtain ⟨hx, hb, -, -, hown, hg, -⟩ := id G
  unfold F_X7_setPlan at hF
  refine lv_aload_n hx hb dX7_setPlan_0 rfl (lv_at hl 0 rfl) ?_
  refine gf_X7_13 G hI h0 dX7_setPlan_1 ?_
  refine lv_iconst (v := (0 : Int32)) hx hb dX7_setPlan_4 (by decide) ?_
  refine n_ald G hI (isX7.told h0) (by decide) dX7_setPlan_5 ?_
  refine W.eq (g2 := F0 m 6 ls [.int (w 2 0)]) rfl ?_
  refine lv_istore_n (lv' := [(1, .int (w 2 0)), (0, .ref (ad 0))]) hx hb dX7_setPlan_6 rfl hl (by decide) rfl (fun ls hl => ?_)
  refine lv_aload_n hx hb dX7_setPlan_7 rfl (lv_at hl 1 rfl) ?_
  refine lv_aload_n hx hb dX7_setPlan_8 rfl (lv_at hl 1 rfl) ?_
  refine gf_X7_19 G hI h0 dX7_setPlan_9 ?_
  obtain ⟨r2, w1, z3, hF⟩ := bd_some hF
  refine n_Si (rest := [.ref (ad 0)]) G hI (c_X7_greatest hA (isX7.demand h0) z3) my_X7_greatest kl_X7_123 ⟨Nat.le_of_ble_eq_true rfl, Nat.le_of_ble_eq_true rfl⟩ rfl hl.1 rfl (Nat.le_of_ble_eq_true rfl) dX7_setPlan_12 (fun H locs hI => ?_)
  refine lv_aload_n hx hb dX7_setPlan_15 rfl (lv_at hl 1 rfl) ?_
  refine gf_X7_19 G hI h0 dX7_setPlan_16 ?_
  obtain ⟨r5, w4, z6, hF⟩ := bd_some hF
  refine n_Si (rest := [.int r2, .ref (ad 0)]) G hI (c_X7_least hA (isX7.demand h0) z6) my_X7_least kl_X7_127 ⟨Nat.le_of_ble_eq_true rfl, Nat.le_of_ble_eq_true rfl⟩ rfl hl.1 rfl (Nat.le_of_ble_eq_true rfl) dX7_setPlan_19 (fun H locs hI => ?_)
  refine lv_isub hx hb dX7_setPlan_22 ?_
  obtain ⟨w7, ew7, hF⟩ := lt_some hF
  refine pf_X7_120 G hI h0 dX7_setPlan_23 (fun H locs hI => ?_)
  replace hI : Iv n sh D cA ad A s.heap w7 H locs := by rw [ew7]; exact hI
  refine lv_aload_n hx hb dX7_setPlan_26 rfl (lv_at hl 1 rfl) ?_
  refine lv_aload_n hx hb dX7_setPlan_27 rfl (lv_at hl 1 rfl) ?_
  refine gf_X7_120 G hI h0 dX7_setPlan_28 ?_
  refine lv_iload_n hx hb dX7_setPlan_31 rfl (lv_at hl 0 rfl) ?_
  obtain ⟨k8, ek8, hF⟩ := jn_some hF
  have hJ8 : ∀ (x9 : Int32) (H : Heap) (locs : List Loc) (ls : Array Slot), k8 x9 = some (r, w') → Iv n sh D cA ad A s.heap w7 H locs → lv_has ls 5 [(0, .ref (ad 0)), (1, .int (w 2 0))] → W p l e ({ frames := 1, cells := 0, slots := 0, locals := 21 } : Room) s m args below meth c H locs 0 0 (QM n sh D cA ad A below args s none w') (F0 m 40 ls [.int x9, .ref (ad 0)]) := by
    intro x9 H locs ls hF hI hl
    replace hF := (congrFun ek8 x9).symm.trans hF
    obtain ⟨g11, hF⟩ := gd_some hF
    obtain ⟨w10, ew10, hF⟩ := lt_some hF
    refine pf_X7_130 G hI h0 g11 dX7_setPlan_40 (fun H locs hI => ?_)
    replace hI : Iv n sh D cA ad A s.heap w10 H locs := by rw [ew10]; exact hI
    refine lv_iconst (v := (0 : Int32)) hx hb dX7_setPlan_43 (by decide) ?_
    refine lv_istore_n (lv' := [(2, .int (0 : Int32)), (0, .ref (ad 0)), (1, .int (w 2 0))]) hx hb dX7_setPlan_44 rfl hl (by decide) rfl (fun ls hl => ?_)
    refine l_X7_setPlan_45 G h0 (fun w21 H locs ls hF hI hl => ?_) _ _ _ _ _ _ hF hI (lv_sub hl [1, 2, 0] rfl)
    refine lv_aload_n hx hb dX7_setPlan_91 rfl (lv_at hl 0 rfl) ?_
    refine gf_X7_49 G hI h0 dX7_setPlan_92 ?_
    obtain ⟨r23, w22, z24, hF⟩ := bd_some hF
    refine n_Si (rest := []) G hI (c_X7_greatest hA (isX7.counts h0) z24) my_X7_greatest kl_X7_123 ⟨Nat.le_of_ble_eq_true rfl, Nat.le_of_ble_eq_true rfl⟩ rfl hl.1 rfl (Nat.le_of_ble_eq_true rfl) dX7_setPlan_95 (fun H locs hI => ?_)
    refine lv_aload_n hx hb dX7_setPlan_98 rfl (lv_at hl 0 rfl) ?_
    refine gf_X7_49 G hI h0 dX7_setPlan_99 ?_
    obtain ⟨r26, w25, z27, hF⟩ := bd_some hF
    refine n_Si (rest := [.int r23]) G hI (c_X7_least hA (isX7.counts h0) z27) my_X7_least kl_X7_127 ⟨Nat.le_of_ble_eq_true rfl, Nat.le_of_ble_eq_true rfl⟩ rfl hl.1 rfl (Nat.le_of_ble_eq_true rfl) dX7_setPlan_102 (fun H locs hI => ?_)
    refine lv_iadd hx hb dX7_setPlan_105 ?_
    refine lv_istore_n (lv' := [(2, .int (r23 + r26)), (0, .ref (ad 0)), (1, .int (w 2 0))]) hx hb dX7_setPlan_106 rfl hl (by decide) rfl (fun ls hl => ?_)
    refine lv_iconst (v := (0 : Int32)) hx hb dX7_setPlan_107 (by decide) ?_
    refine lv_istore_n (lv' := [(3, .int (0 : Int32)), (2, .int (r23 + r26)), (0, .ref (ad 0)), (1, .int (w 2 0))]) hx hb dX7_setPlan_108 rfl hl (by decide) rfl (fun ls hl => ?_)
    refine l_X7_setPlan_109 G h0 (fun w52 H locs ls hF hI hl => ?_) _ _ _ _ _ _ hF hI (lv_sub hl [2, 3, 1, 0] rfl)
    exact n_vret G hI hF rfl dX7_setPlan_236
  refine lv_icmp_le (tgt := 39) hx hb dX7_setPlan_32 (by decide) (fun c53 => ?_) (fun c53 => ?_)
  · replace hF := itp c53 hF
    refine lv_iconst (v := (0 : Int32)) hx hb dX7_setPlan_39 (by decide) ?_
    exact hJ8 _ _ _ _ hF hI (lv_sub hl [1, 0] rfl)
  · replace hF := itn c53 hF
    refine lv_iconst (v := (1 : Int32)) hx hb dX7_setPlan_35 (by decide) ?_
    refine lv_goto (tgt := 40) hx hb dX7_setPlan_36 (by decide) ?_
    exact hJ8 _ _ _ _ hF hI (lv_sub hl [1, 0] rfl)
end WK8
