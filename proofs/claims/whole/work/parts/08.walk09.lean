/-! walks, by program (wip/gen/walk.py): X7_draw, X7_wanted, X7_wantedAhead, X7_upper, X7_lower, X7_gives, X7_meanOf, X7_patternAt, X7_setRuns, X7_tells, X7_seenSet -/
section WK9
variable {n : Nat} {sh : Nat → Shp} {D : va_G} {cA : ClassId} {ad : Nat → Nat} {A : Nat → Prop} {sa : Nat → Nat} {l : Launch}
set_option maxHeartbeats 4000000 in
theorem l_X7_draw_21 {p : Program} {e : Env} {s : State} {m : MethodId} {args : Array Value} {below : List Frame} {meth : Method} {c : Code} (G : Mx n D cA ad A sa p s m args meth c RX7 cX7_draw 5 (some .int))  (h0 : isX7 n sh 0) {k : Mem → Option (Int32 × Mem)} {r : Int32} {w' : Mem}
    (hk : ∀  (w : Mem) (H : Heap) (locs : List Loc) (ls : Array Slot), k  w = some (r, w') → Iv n sh D cA ad A s.heap w H locs → lv_has ls 5 [(0, .ref (ad 0))] → W p l e ({ frames := 2, cells := 0, slots := 0, locals := 45 } : Room) s m args below meth c H locs 0 0 (QM n sh D cA ad A below args s (some (.int r)) w') (F0 m 88 ls [])) :
    ∀ (N : Nat) (v2 : Int64) (v4 : Int32) (w : Mem) (H : Heap) (locs : List Loc) (ls : Array Slot), L_X7_draw_21  k N v2 v4 w = some (r, w') → Iv n sh D cA ad A s.heap w H locs → lv_has ls 5 [(0, .ref (ad 0)), (2, .long v2), (4, .int v4)] → W p l e ({ frames := 2, cells := 0, slots := 0, locals := 45 } : Room) s m args below meth c H locs 0 0 (QM n sh D cA ad A below args s (some (.int r)) w') (F0 m 21 ls []) := by
  obtain ⟨hx, hb, -, -, hown, hg, -, -, -, -, hA⟩ := id G
  intro N
  induction N with
  | zero =>
    intro v2 v4 w H locs ls hF hI hl
    cases hF
  | succ N ih =>
    intro v2 v4 w H locs ls hF hI hl
    rw [L_X7_draw_21] at hF
    refine lv_iload hx hb dX7_draw_21 (lv_at hl 2 rfl) ?_
    refine lv_iconst (v := (3 : Int32)) hx hb dX7_draw_23 (by decide) ?_
    refine lv_icmp_ge (tgt := 88) hx hb dX7_draw_24 (by decide) (fun c9 => ?_) (fun c9 => ?_)
    · replace hF := itp c9 hF
      exact hk _ _ _ _ hF hI (lv_sub hl [0] rfl)
    · replace hF := itn c9 hF
      refine lv_lload_n hx hb dX7_draw_27 rfl (lv_at hl 1 rfl) ?_
      refine lv_ldc2 hx hb hown (hg _ kc_X7_103) dX7_draw_28 ?_
      refine lv_lmul hx hb dX7_draw_31 ?_
      refine lv_ldc2 hx hb hown (hg _ kc_X7_105) dX7_draw_32 ?_
      refine lv_ladd hx hb dX7_draw_35 ?_
      refine lv_ldc2 hx hb hown (hg _ kc_X7_107) dX7_draw_36 ?_
      refine n_lrem G (by decide) dX7_draw_39 ?_
      obtain ⟨x4, ex4, hF⟩ := lt_some hF
      refine W.eq (g2 := F0 m 40 ls [.long x4]) (by rw [ex4]) ?_
      refine lv_lstore_n (lv' := [(2, .long x4), (0, .ref (ad 0)), (4, .int v4)]) hx hb dX7_draw_40 rfl hl (by decide) rfl (fun ls hl => ?_)
      refine lv_aload_n hx hb dX7_draw_41 rfl (lv_at hl 1 rfl) ?_
      refine gf_X7_19 G hI h0 dX7_draw_42 ?_
      refine lv_iload hx hb dX7_draw_45 (lv_at hl 2 rfl) ?_
      refine lv_lload_n hx hb dX7_draw_47 rfl (lv_at hl 0 rfl) ?_
      refine lv_ldc2 hx hb hown (hg _ kc_X7_109) dX7_draw_48 ?_
      refine n_ldiv G (by decide) dX7_draw_51 ?_
      refine lv_ldc2 hx hb hown (hg _ kc_X7_111) dX7_draw_52 ?_
      refine n_lrem G (by decide) dX7_draw_55 ?_
      refine lv_l2i hx hb dX7_draw_56 rfl ?_
      refine lv_bipush (v := (100 : Int32)) hx hb dX7_draw_57 (by decide) ?_
      refine lv_isub hx hb dX7_draw_59 ?_
      obtain ⟨g5, hF⟩ := gd_some hF
      obtain ⟨w6, ew6, hF⟩ := lt_some hF
      refine n_ast G hI (isX7.demand h0) g5 dX7_draw_60 (fun H locs hI => ?_)
      replace hI : Iv n sh D cA ad A s.heap w6 H locs := by rw [ew6]; exact hI
      refine lv_aload_n hx hb dX7_draw_61 rfl (lv_at hl 1 rfl) ?_
      refine gf_X7_16 G hI h0 dX7_draw_62 ?_
      refine lv_iload hx hb dX7_draw_65 (lv_at hl 2 rfl) ?_
      refine lv_lload_n hx hb dX7_draw_67 rfl (lv_at hl 0 rfl) ?_
      refine lv_ldc2 hx hb hown (hg _ kc_X7_113) dX7_draw_68 ?_
      refine n_ldiv G (by decide) dX7_draw_71 ?_
      refine lv_ldc2 hx hb hown (hg _ kc_X7_115) dX7_draw_72 ?_
      refine n_lrem G (by decide) dX7_draw_75 ?_
      refine lv_l2i hx hb dX7_draw_76 rfl ?_
      refine lv_sipush (v := (200 : Int32)) hx hb dX7_draw_77 (by decide) ?_
      refine lv_isub hx hb dX7_draw_80 ?_
      obtain ⟨g7, hF⟩ := gd_some hF
      obtain ⟨w8, ew8, hF⟩ := lt_some hF
      refine n_ast G hI (isX7.current h0) g7 dX7_draw_81 (fun H locs hI => ?_)
      replace hI : Iv n sh D cA ad A s.heap w8 H locs := by rw [ew8]; exact hI
      refine lv_iinc (v := (v4 + (1 : Int32))) (lv' := [(4, .int (v4 + (1 : Int32))), (2, .long x4), (0, .ref (ad 0))]) hx hb dX7_draw_82 hl (k := 2) rfl rfl (by decide) rfl (fun ls hl => ?_)
      refine lv_goto (tgt := 21) hx hb dX7_draw_85 (by decide) ?_
      exact ih _ _ _ _ _ _ hF hI (lv_sub hl [2, 1, 0] rfl)
set_option maxHeartbeats 4000000 in
theorem c_X7_draw (hA : AdOk n ad A) (h0 : isX7 n sh 0) {a1 : Int32} {w w' : Mem} {r : Int32} (hF : F_X7_draw a1 w = some (r, w')) : Ctr l n sh D cA ad A sa yX7_draw cX7_draw 5 (some .int) 2 45 [.ref (ad 0), .int a1] w (some (.int r)) w' := by
  refine m_enter hA (by decide) (Nat.le_of_ble_eq_true rfl) ?_
  intro p e s m args below meth c ls G hI hl
  replace hl : lv_has ls 5 [(0, .ref (ad 0)), (1, .int a1)] := hl
  replace G : Mx n D cA ad A sa p s m args meth c RX7 cX7_draw 5 (some .int) := G
  obtain ⟨hx, hb, -, -, hown, hg, -⟩ := id G
  unfold F_X7_draw at hF
  refine lv_iload_n hx hb dX7_draw_0 rfl (lv_at hl 1 rfl) ?_
  refine lv_iconst (v := (0 : Int32)) hx hb dX7_draw_1 (by decide) ?_
  refine lv_ldc hx hb hown (hg _ kc_X7_102) dX7_draw_2 ?_
  obtain ⟨r2, w1, z3, hF⟩ := bd_some hF
  refine n_Si (rest := []) G hI (c_X7_in hA  z3) my_X7_in kl_X7_86 ⟨Nat.le_of_ble_eq_true rfl, Nat.le_of_ble_eq_true rfl⟩ rfl hl.1 rfl (Nat.le_of_ble_eq_true rfl) dX7_draw_4 (fun H locs hI => ?_)
  refine lv_if_ne (tgt := 15) hx hb dX7_draw_7 (by decide) (fun c17 => ?_) (fun c17 => ?_)
  · replace hF := itn c17 hF
    refine lv_iload_n hx hb dX7_draw_15 rfl (lv_at hl 1 rfl) ?_
    refine lv_i2l hx hb dX7_draw_16 rfl ?_
    refine lv_lstore_n (lv' := [(2, .long (Int32.toInt64 a1)), (0, .ref (ad 0)), (1, .int a1)]) hx hb dX7_draw_17 rfl hl (by decide) rfl (fun ls hl => ?_)
    refine lv_iconst (v := (0 : Int32)) hx hb dX7_draw_18 (by decide) ?_
    refine lv_istore (lv' := [(4, .int (0 : Int32)), (2, .long (Int32.toInt64 a1)), (0, .ref (ad 0)), (1, .int a1)]) hx hb dX7_draw_19 hl (by decide) rfl (fun ls hl => ?_)
    refine l_X7_draw_21 G h0 (fun w10 H locs ls hF hI hl => ?_) _ _ _ _ _ _ _ hF hI (lv_sub hl [2, 1, 0] rfl)
    refine lv_aload_n hx hb dX7_draw_88 rfl (lv_at hl 0 rfl) ?_
    obtain ⟨r12, w11, z13, hF⟩ := bd_some hF
    refine n_Vv (rest := []) G hI (c_X7_setPlan hA h0 z13) my_X7_setPlan kl_X7_117 (isX7.lt h0) (isX7.sh h0) rfl ⟨Nat.le_of_ble_eq_true rfl, Nat.le_of_ble_eq_true rfl⟩ rfl hl.1 rfl (Nat.le_of_ble_eq_true rfl) dX7_draw_89 (fun H locs hI => ?_)
    refine lv_aload_n hx hb dX7_draw_92 rfl (lv_at hl 0 rfl) ?_
    refine gf_X7_120 G hI h0 dX7_draw_93 ?_
    exact n_iret G hI hF rfl dX7_draw_96
  · replace hF := itp c17 hF
    refine lv_aload_n hx hb dX7_draw_10 rfl (lv_at hl 0 rfl) ?_
    obtain ⟨r15, w14, z16, hF⟩ := bd_some hF
    refine n_Vi (rest := []) G hI (c_X7_bad hA h0 z16) my_X7_bad kl_X7_94 (isX7.lt h0) (isX7.sh h0) rfl ⟨Nat.le_of_ble_eq_true rfl, Nat.le_of_ble_eq_true rfl⟩ rfl hl.1 rfl (Nat.le_of_ble_eq_true rfl) dX7_draw_11 (fun H locs hI => ?_)
    exact n_iret G hI hF rfl dX7_draw_14
set_option maxHeartbeats 4000000 in
theorem c_X7_wanted (hA : AdOk n ad A) (h0 : isX7 n sh 0) {a1 : Int32} {a2 : Int32} {w w' : Mem} {r : Int32} (hF : F_X7_wanted a1 a2 w = some (r, w')) : Ctr l n sh D cA ad A sa yX7_wanted cX7_wanted 3 (some .boolean) 0 0 [.ref (ad 0), .int a1, .int a2] w (some (.int r)) w' := by
  refine m_enter hA (by decide) (Nat.le_of_ble_eq_true rfl) ?_
  intro p e s m args below meth c ls G hI hl
  replace hl : lv_has ls 3 [(0, .ref (ad 0)), (1, .int a1), (2, .int a2)] := hl
  replace G : Mx n D cA ad A sa p s m args meth c RX7 cX7_wanted 3 (some .boolean) := G
  obtain ⟨hx, hb, -, -, hown, hg, -⟩ := id G
  unfold F_X7_wanted at hF
  refine lv_iload_n hx hb dX7_wanted_0 rfl (lv_at hl 2 rfl) ?_
  refine lv_aload_n hx hb dX7_wanted_1 rfl (lv_at hl 0 rfl) ?_
  refine gf_X7_46 G hI h0 dX7_wanted_2 ?_
  refine lv_iload_n hx hb dX7_wanted_5 rfl (lv_at hl 1 rfl) ?_
  obtain ⟨g1, hF⟩ := gd_some hF
  refine n_ald G hI (isX7.start h0) g1 dX7_wanted_6 ?_
  refine lv_icmp_lt (tgt := 31) hx hb dX7_wanted_7 (by decide) (fun c5 => ?_) (fun c5 => ?_)
  · replace hF := itp c5 hF
    refine lv_iconst (v := (0 : Int32)) hx hb dX7_wanted_31 (by decide) ?_
    exact n_zret G hI (by decide) hF rfl dX7_wanted_32
  · replace hF := itn c5 hF
    refine lv_iload_n hx hb dX7_wanted_10 rfl (lv_at hl 2 rfl) ?_
    refine lv_aload_n hx hb dX7_wanted_11 rfl (lv_at hl 0 rfl) ?_
    refine gf_X7_46 G hI h0 dX7_wanted_12 ?_
    refine lv_iload_n hx hb dX7_wanted_15 rfl (lv_at hl 1 rfl) ?_
    obtain ⟨g2, hF⟩ := gd_some hF
    refine n_ald G hI (isX7.start h0) g2 dX7_wanted_16 ?_
    refine lv_aload_n hx hb dX7_wanted_17 rfl (lv_at hl 0 rfl) ?_
    refine gf_X7_43 G hI h0 dX7_wanted_18 ?_
    refine lv_iload_n hx hb dX7_wanted_21 rfl (lv_at hl 1 rfl) ?_
    obtain ⟨g3, hF⟩ := gd_some hF
    refine n_ald G hI (isX7.high h0) g3 dX7_wanted_22 ?_
    refine lv_iadd hx hb dX7_wanted_23 ?_
    refine lv_icmp_ge (tgt := 31) hx hb dX7_wanted_24 (by decide) (fun c4 => ?_) (fun c4 => ?_)
    · replace hF := itp c4 hF
      refine lv_iconst (v := (0 : Int32)) hx hb dX7_wanted_31 (by decide) ?_
      exact n_zret G hI (by decide) hF rfl dX7_wanted_32
    · replace hF := itn c4 hF
      refine lv_iconst (v := (1 : Int32)) hx hb dX7_wanted_27 (by decide) ?_
      refine lv_goto (tgt := 32) hx hb dX7_wanted_28 (by decide) ?_
      exact n_zret G hI (by decide) hF rfl dX7_wanted_32
set_option maxHeartbeats 4000000 in
theorem l_X7_wantedAhead_5 {p : Program} {e : Env} {s : State} {m : MethodId} {args : Array Value} {below : List Frame} {meth : Method} {c : Code} (G : Mx n D cA ad A sa p s m args meth c RX7 cX7_wantedAhead 5 (some .int)) {a1 : Int32} {a2 : Int32} (h0 : isX7 n sh 0) {k : Int32 → Mem → Option (Int32 × Mem)} {r : Int32} {w' : Mem}
    (hk : ∀ (v3 : Int32) (w : Mem) (H : Heap) (locs : List Loc) (ls : Array Slot), k v3 w = some (r, w') → Iv n sh D cA ad A s.heap w H locs → lv_has ls 5 [(3, .int v3)] → W p l e ({ frames := 1, cells := 0, slots := 0, locals := 22 } : Room) s m args below meth c H locs 0 0 (QM n sh D cA ad A below args s (some (.int r)) w') (F0 m 56 ls [])) :
    ∀ (N : Nat) (v3 : Int32) (v4 : Int32) (w : Mem) (H : Heap) (locs : List Loc) (ls : Array Slot), L_X7_wantedAhead_5 a1 a2 k N v3 v4 w = some (r, w') → Iv n sh D cA ad A s.heap w H locs → lv_has ls 5 [(0, .ref (ad 0)), (1, .int a1), (2, .int a2), (3, .int v3), (4, .int v4)] → W p l e ({ frames := 1, cells := 0, slots := 0, locals := 22 } : Room) s m args below meth c H locs 0 0 (QM n sh D cA ad A below args s (some (.int r)) w') (F0 m 5 ls []) := by
  obtain ⟨hx, hb, -, -, hown, hg, -, -, -, -, hA⟩ := id G
  intro N
  induction N with
  | zero =>
    intro v3 v4 w H locs ls hF hI hl
    cases hF
  | succ N ih =>
    intro v3 v4 w H locs ls hF hI hl
    rw [L_X7_wantedAhead_5] at hF
    refine lv_iload hx hb dX7_wantedAhead_5 (lv_at hl 4 rfl) ?_
    refine lv_aload_n hx hb dX7_wantedAhead_7 rfl (lv_at hl 0 rfl) ?_
    refine gf_X7_13 G hI h0 dX7_wantedAhead_8 ?_
    refine lv_iconst (v := (1 : Int32)) hx hb dX7_wantedAhead_11 (by decide) ?_
    refine n_ald G hI (isX7.told h0) (by decide) dX7_wantedAhead_12 ?_
    refine W.eq (g2 := F0 m 13 ls [.int (w 2 1), .int v4]) rfl ?_
    refine lv_icmp_gt (tgt := 56) hx hb dX7_wantedAhead_13 (by decide) (fun c6 => ?_) (fun c6 => ?_)
    · replace hF := itp c6 hF
      exact hk _ _ _ _ _ hF hI (lv_sub hl [3] rfl)
    · replace hF := itn c6 hF
      refine lv_iload_n hx hb dX7_wantedAhead_16 rfl (lv_at hl 3 rfl) ?_
      refine lv_aload_n hx hb dX7_wantedAhead_17 rfl (lv_at hl 0 rfl) ?_
      refine lv_iload_n hx hb dX7_wantedAhead_18 rfl (lv_at hl 1 rfl) ?_
      refine lv_iload_n hx hb dX7_wantedAhead_19 rfl (lv_at hl 2 rfl) ?_
      refine lv_iload hx hb dX7_wantedAhead_20 (lv_at hl 4 rfl) ?_
      refine lv_isub hx hb dX7_wantedAhead_22 ?_
      refine lv_aload_n hx hb dX7_wantedAhead_23 rfl (lv_at hl 0 rfl) ?_
      refine gf_X7_13 G hI h0 dX7_wantedAhead_24 ?_
      refine lv_iconst (v := (0 : Int32)) hx hb dX7_wantedAhead_27 (by decide) ?_
      refine n_ald G hI (isX7.told h0) (by decide) dX7_wantedAhead_28 ?_
      refine W.eq (g2 := F0 m 29 ls [.int (w 2 0), .int (a2 - v4), .int a1, .ref (ad 0), .int v3]) rfl ?_
      refine lv_iadd hx hb dX7_wantedAhead_29 ?_
      refine lv_aload_n hx hb dX7_wantedAhead_30 rfl (lv_at hl 0 rfl) ?_
      refine gf_X7_13 G hI h0 dX7_wantedAhead_31 ?_
      refine lv_iconst (v := (0 : Int32)) hx hb dX7_wantedAhead_34 (by decide) ?_
      refine n_ald G hI (isX7.told h0) (by decide) dX7_wantedAhead_35 ?_
      refine W.eq (g2 := F0 m 36 ls [.int (w 2 0), .int ((a2 - v4) + (w 2 0)), .int a1, .ref (ad 0), .int v3]) rfl ?_
      obtain ⟨g1, hF⟩ := gd_some hF
      refine n_irem G g1 dX7_wantedAhead_36 ?_
      obtain ⟨r3, w2, z4, hF⟩ := bd_some hF
      refine n_Vi (rest := [.int v3]) G hI (c_X7_wanted hA h0 z4) my_X7_wanted kl_X7_138 (isX7.lt h0) (isX7.sh h0) rfl ⟨Nat.le_of_ble_eq_true rfl, Nat.le_of_ble_eq_true rfl⟩ rfl hl.1 rfl (Nat.le_of_ble_eq_true rfl) dX7_wantedAhead_37 (fun H locs hI => ?_)
      refine lv_if_eq (tgt := 47) hx hb dX7_wantedAhead_40 (by decide) (fun c5 => ?_) (fun c5 => ?_)
      · replace hF := itp c5 hF
        refine lv_iconst (v := (0 : Int32)) hx hb dX7_wantedAhead_47 (by decide) ?_
        refine lv_iadd hx hb dX7_wantedAhead_48 ?_
        refine lv_istore_n (lv' := [(3, .int (v3 + (0 : Int32))), (0, .ref (ad 0)), (1, .int a1), (2, .int a2), (4, .int v4)]) hx hb dX7_wantedAhead_49 rfl hl (by decide) rfl (fun ls hl => ?_)
        refine lv_iinc (v := (v4 + (1 : Int32))) (lv' := [(4, .int (v4 + (1 : Int32))), (3, .int (v3 + (0 : Int32))), (0, .ref (ad 0)), (1, .int a1), (2, .int a2)]) hx hb dX7_wantedAhead_50 hl (k := 4) rfl rfl (by decide) rfl (fun ls hl => ?_)
        refine lv_goto (tgt := 5) hx hb dX7_wantedAhead_53 (by decide) ?_
        exact ih _ _ _ _ _ _ hF hI (lv_sub hl [2, 3, 4, 1, 0] rfl)
      · replace hF := itn c5 hF
        refine lv_iconst (v := (1 : Int32)) hx hb dX7_wantedAhead_43 (by decide) ?_
        refine lv_goto (tgt := 48) hx hb dX7_wantedAhead_44 (by decide) ?_
        refine lv_iadd hx hb dX7_wantedAhead_48 ?_
        refine lv_istore_n (lv' := [(3, .int (v3 + (1 : Int32))), (0, .ref (ad 0)), (1, .int a1), (2, .int a2), (4, .int v4)]) hx hb dX7_wantedAhead_49 rfl hl (by decide) rfl (fun ls hl => ?_)
        refine lv_iinc (v := (v4 + (1 : Int32))) (lv' := [(4, .int (v4 + (1 : Int32))), (3, .int (v3 + (1 : Int32))), (0, .ref (ad 0)), (1, .int a1), (2, .int a2)]) hx hb dX7_wantedAhead_50 hl (k := 4) rfl rfl (by decide) rfl (fun ls hl => ?_)
        refine lv_goto (tgt := 5) hx hb dX7_wantedAhead_53 (by decide) ?_
        exact ih _ _ _ _ _ _ hF hI (lv_sub hl [2, 3, 4, 1, 0] rfl)
set_option maxHeartbeats 4000000 in
theorem c_X7_wantedAhead (hA : AdOk n ad A) (h0 : isX7 n sh 0) {a1 : Int32} {a2 : Int32} {w w' : Mem} {r : Int32} (hF : F_X7_wantedAhead a1 a2 w = some (r, w')) : Ctr l n sh D cA ad A sa yX7_wantedAhead cX7_wantedAhead 5 (some .int) 1 22 [.ref (ad 0), .int a1, .int a2] w (some (.int r)) w' := by
  refine m_enter hA (by decide) (Nat.le_of_ble_eq_true rfl) ?_
  intro p e s m args below meth c ls G hI hl
  replace hl : lv_has ls 5 [(0, .ref (ad 0)), (1, .int a1), (2, .int a2)] := hl
  replace G : Mx n D cA ad A sa p s m args meth c RX7 cX7_wantedAhead 5 (some .int) := G
  obtain ⟨hx, hb, -, -, hown, hg, -⟩ := id G
  unfold F_X7_wantedAhead at hF
  refine lv_iconst (v := (0 : Int32)) hx hb dX7_wantedAhead_0 (by decide) ?_
  refine lv_istore_n (lv' := [(3, .int (0 : Int32)), (0, .ref (ad 0)), (1, .int a1), (2, .int a2)]) hx hb dX7_wantedAhead_1 rfl hl (by decide) rfl (fun ls hl => ?_)
  refine lv_iconst (v := (0 : Int32)) hx hb dX7_wantedAhead_2 (by decide) ?_
  refine lv_istore (lv' := [(4, .int (0 : Int32)), (3, .int (0 : Int32)), (0, .ref (ad 0)), (1, .int a1), (2, .int a2)]) hx hb dX7_wantedAhead_3 hl (by decide) rfl (fun ls hl => ?_)
  refine l_X7_wantedAhead_5 G h0 (fun x8 w7 H locs ls hF hI hl => ?_) _ _ _ _ _ _ _ hF hI (lv_sub hl [2, 3, 4, 1, 0] rfl)
  refine lv_iload_n hx hb dX7_wantedAhead_56 rfl (lv_at hl 0 rfl) ?_
  exact n_iret G hI hF rfl dX7_wantedAhead_57
set_option maxHeartbeats 4000000 in
theorem c_X7_upper (hA : AdOk n ad A) (h0 : isX7 n sh 0) {a1 : Int32} {a2 : Int32} {w w' : Mem} {r : Int32} (hF : F_X7_upper a1 a2 w = some (r, w')) : Ctr l n sh D cA ad A sa yX7_upper cX7_upper 3 (some .boolean) 2 46 [.ref (ad 0), .int a1, .int a2] w (some (.int r)) w' := by
  refine m_enter hA (by decide) (Nat.le_of_ble_eq_true rfl) ?_
  intro p e s m args below meth c ls G hI hl
  replace hl : lv_has ls 3 [(0, .ref (ad 0)), (1, .int a1), (2, .int a2)] := hl
  replace G : Mx n D cA ad A sa p s m args meth c RX7 cX7_upper 3 (some .boolean) := G
  obtain ⟨hx, hb, -, -, hown, hg, -⟩ := id G
  unfold F_X7_upper at hF
  refine lv_aload_n hx hb dX7_upper_0 rfl (lv_at hl 0 rfl) ?_
  refine lv_iload_n hx hb dX7_upper_1 rfl (lv_at hl 1 rfl) ?_
  refine lv_iload_n hx hb dX7_upper_2 rfl (lv_at hl 2 rfl) ?_
  obtain ⟨r2, w1, z3, hF⟩ := bd_some hF
  refine n_Vi (rest := []) G hI (c_X7_wantedAhead hA h0 z3) my_X7_wantedAhead kl_X7_141 (isX7.lt h0) (isX7.sh h0) rfl ⟨Nat.le_of_ble_eq_true rfl, Nat.le_of_ble_eq_true rfl⟩ rfl hl.1 rfl (Nat.le_of_ble_eq_true rfl) dX7_upper_3 (fun H locs hI => ?_)
  refine lv_aload_n hx hb dX7_upper_6 rfl (lv_at hl 0 rfl) ?_
  refine gf_X7_13 G hI h0 dX7_upper_7 ?_
  refine lv_iconst (v := (1 : Int32)) hx hb dX7_upper_10 (by decide) ?_
  refine n_ald G hI (isX7.told h0) (by decide) dX7_upper_11 ?_
  refine W.eq (g2 := F0 m 12 ls [.int (w1 2 1), .int r2]) rfl ?_
  refine lv_iconst (v := (1 : Int32)) hx hb dX7_upper_12 (by decide) ?_
  refine lv_iadd hx hb dX7_upper_13 ?_
  refine lv_icmp_ne (tgt := 21) hx hb dX7_upper_14 (by decide) (fun c4 => ?_) (fun c4 => ?_)
  · replace hF := itn c4 hF
    refine lv_iconst (v := (0 : Int32)) hx hb dX7_upper_21 (by decide) ?_
    exact n_zret G hI (by decide) hF rfl dX7_upper_22
  · replace hF := itp c4 hF
    refine lv_iconst (v := (1 : Int32)) hx hb dX7_upper_17 (by decide) ?_
    refine lv_goto (tgt := 22) hx hb dX7_upper_18 (by decide) ?_
    exact n_zret G hI (by decide) hF rfl dX7_upper_22
set_option maxHeartbeats 4000000 in
theorem c_X7_lower (hA : AdOk n ad A) (h0 : isX7 n sh 0) {a1 : Int32} {a2 : Int32} {w w' : Mem} {r : Int32} (hF : F_X7_lower a1 a2 w = some (r, w')) : Ctr l n sh D cA ad A sa yX7_lower cX7_lower 3 (some .boolean) 2 46 [.ref (ad 0), .int a1, .int a2] w (some (.int r)) w' := by
  refine m_enter hA (by decide) (Nat.le_of_ble_eq_true rfl) ?_
  intro p e s m args below meth c ls G hI hl
  replace hl : lv_has ls 3 [(0, .ref (ad 0)), (1, .int a1), (2, .int a2)] := hl
  replace G : Mx n D cA ad A sa p s m args meth c RX7 cX7_lower 3 (some .boolean) := G
  obtain ⟨hx, hb, -, -, hown, hg, -⟩ := id G
  unfold F_X7_lower at hF
  refine lv_aload_n hx hb dX7_lower_0 rfl (lv_at hl 0 rfl) ?_
  refine lv_iload_n hx hb dX7_lower_1 rfl (lv_at hl 1 rfl) ?_
  refine lv_iload_n hx hb dX7_lower_2 rfl (lv_at hl 2 rfl) ?_
  obtain ⟨r2, w1, z3, hF⟩ := bd_some hF
  refine n_Vi (rest := []) G hI (c_X7_wantedAhead hA h0 z3) my_X7_wantedAhead kl_X7_141 (isX7.lt h0) (isX7.sh h0) rfl ⟨Nat.le_of_ble_eq_true rfl, Nat.le_of_ble_eq_true rfl⟩ rfl hl.1 rfl (Nat.le_of_ble_eq_true rfl) dX7_lower_3 (fun H locs hI => ?_)
  refine lv_if_ne (tgt := 13) hx hb dX7_lower_6 (by decide) (fun c4 => ?_) (fun c4 => ?_)
  · replace hF := itn c4 hF
    refine lv_iconst (v := (0 : Int32)) hx hb dX7_lower_13 (by decide) ?_
    exact n_zret G hI (by decide) hF rfl dX7_lower_14
  · replace hF := itp c4 hF
    refine lv_iconst (v := (1 : Int32)) hx hb dX7_lower_9 (by decide) ?_
    refine lv_goto (tgt := 14) hx hb dX7_lower_10 (by decide) ?_
    exact n_zret G hI (by decide) hF rfl dX7_lower_14
set_option maxHeartbeats 4000000 in
theorem c_X7_gives (hA : AdOk n ad A) (h0 : isX7 n sh 0) {a1 : Int32} {a2 : Int32} {w w' : Mem} {r : Int32} (hF : F_X7_gives a1 a2 w = some (r, w')) : Ctr l n sh D cA ad A sa yX7_gives cX7_gives 4 (some .int) 2 46 [.ref (ad 0), .int a1, .int a2] w (some (.int r)) w' := by
  refine m_enter hA (by decide) (Nat.le_of_ble_eq_true rfl) ?_
  intro p e s m args below meth c ls G hI hl
  replace hl : lv_has ls 4 [(0, .ref (ad 0)), (1, .int a1), (2, .int a2)] := hl
  replace G : Mx n D cA ad A sa p s m args meth c RX7 cX7_gives 4 (some .int) := G
  obtain ⟨hx, hb, -, -, hown, hg, -⟩ := id G
  unfold F_X7_gives at hF
  refine lv_aload_n hx hb dX7_gives_0 rfl (lv_at hl 0 rfl) ?_
  refine lv_iload_n hx hb dX7_gives_1 rfl (lv_at hl 1 rfl) ?_
  refine lv_iload_n hx hb dX7_gives_2 rfl (lv_at hl 2 rfl) ?_
  obtain ⟨r2, w1, z3, hF⟩ := bd_some hF
  refine n_Vi (rest := []) G hI (c_X7_wantedAhead hA h0 z3) my_X7_wantedAhead kl_X7_141 (isX7.lt h0) (isX7.sh h0) rfl ⟨Nat.le_of_ble_eq_true rfl, Nat.le_of_ble_eq_true rfl⟩ rfl hl.1 rfl (Nat.le_of_ble_eq_true rfl) dX7_gives_3 (fun H locs hI => ?_)
  refine lv_istore_n (lv' := [(3, .int r2), (0, .ref (ad 0)), (1, .int a1), (2, .int a2)]) hx hb dX7_gives_6 rfl hl (by decide) rfl (fun ls hl => ?_)
  refine lv_iload_n hx hb dX7_gives_7 rfl (lv_at hl 0 rfl) ?_
  refine lv_aload_n hx hb dX7_gives_8 rfl (lv_at hl 1 rfl) ?_
  refine gf_X7_13 G hI h0 dX7_gives_9 ?_
  refine lv_iconst (v := (1 : Int32)) hx hb dX7_gives_12 (by decide) ?_
  refine n_ald G hI (isX7.told h0) (by decide) dX7_gives_13 ?_
  refine W.eq (g2 := F0 m 14 ls [.int (w1 2 1), .int r2]) rfl ?_
  refine lv_iconst (v := (1 : Int32)) hx hb dX7_gives_14 (by decide) ?_
  refine lv_iadd hx hb dX7_gives_15 ?_
  refine lv_icmp_ne (tgt := 23) hx hb dX7_gives_16 (by decide) (fun c7 => ?_) (fun c7 => ?_)
  · replace hF := itn c7 hF
    refine lv_iload_n hx hb dX7_gives_23 rfl (lv_at hl 0 rfl) ?_
    refine lv_if_ne (tgt := 31) hx hb dX7_gives_24 (by decide) (fun c6 => ?_) (fun c6 => ?_)
    · replace hF := itn c6 hF
      refine lv_aload_n hx hb dX7_gives_31 rfl (lv_at hl 1 rfl) ?_
      refine gf_X7_16 G hI h0 dX7_gives_32 ?_
      refine lv_iload_n hx hb dX7_gives_35 rfl (lv_at hl 2 rfl) ?_
      obtain ⟨g4, hF⟩ := gd_some hF
      refine n_ald G hI (isX7.current h0) g4 dX7_gives_36 ?_
      refine lv_if_ge (tgt := 44) hx hb dX7_gives_37 (by decide) (fun c5 => ?_) (fun c5 => ?_)
      · replace hF := itp c5 hF
        refine lv_iconst (v := (0 : Int32)) hx hb dX7_gives_44 (by decide) ?_
        exact n_iret G hI hF rfl dX7_gives_45
      · replace hF := itn c5 hF
        refine lv_iconst (v := (1 : Int32)) hx hb dX7_gives_40 (by decide) ?_
        refine lv_goto (tgt := 45) hx hb dX7_gives_41 (by decide) ?_
        exact n_iret G hI hF rfl dX7_gives_45
    · replace hF := itp c6 hF
      refine lv_iconst (v := (0 : Int32)) hx hb dX7_gives_27 (by decide) ?_
      refine lv_goto (tgt := 45) hx hb dX7_gives_28 (by decide) ?_
      exact n_iret G hI hF rfl dX7_gives_45
  · replace hF := itp c7 hF
    refine lv_iconst (v := (1 : Int32)) hx hb dX7_gives_19 (by decide) ?_
    refine lv_goto (tgt := 45) hx hb dX7_gives_20 (by decide) ?_
    exact n_iret G hI hF rfl dX7_gives_45
set_option maxHeartbeats 4000000 in
theorem l_X7_meanOf_4 {p : Program} {e : Env} {s : State} {m : MethodId} {args : Array Value} {below : List Frame} {meth : Method} {c : Code} (G : Mx n D cA ad A sa p s m args meth c RX7 cX7_meanOf 4 (some .int)) {a1 : Int32} (h0 : isX7 n sh 0) {k : Int32 → Mem → Option (Int32 × Mem)} {r : Int32} {w' : Mem}
    (hk : ∀ (v2 : Int32) (w : Mem) (H : Heap) (locs : List Loc) (ls : Array Slot), k v2 w = some (r, w') → Iv n sh D cA ad A s.heap w H locs → lv_has ls 4 [(2, .int v2)] → W p l e ({ frames := 3, cells := 0, slots := 0, locals := 69 } : Room) s m args below meth c H locs 0 0 (QM n sh D cA ad A below args s (some (.int r)) w') (F0 m 29 ls [])) :
    ∀ (N : Nat) (v2 : Int32) (v3 : Int32) (w : Mem) (H : Heap) (locs : List Loc) (ls : Array Slot), L_X7_meanOf_4 a1 k N v2 v3 w = some (r, w') → Iv n sh D cA ad A s.heap w H locs → lv_has ls 4 [(0, .ref (ad 0)), (1, .int a1), (2, .int v2), (3, .int v3)] → W p l e ({ frames := 3, cells := 0, slots := 0, locals := 69 } : Room) s m args below meth c H locs 0 0 (QM n sh D cA ad A below args s (some (.int r)) w') (F0 m 4 ls []) := by
  obtain ⟨hx, hb, -, -, hown, hg, -, -, -, -, hA⟩ := id G
  intro N
  induction N with
  | zero =>
    intro v2 v3 w H locs ls hF hI hl
    cases hF
  | succ N ih =>
    intro v2 v3 w H locs ls hF hI hl
    rw [L_X7_meanOf_4] at hF
    refine lv_iload_n hx hb dX7_meanOf_4 rfl (lv_at hl 3 rfl) ?_
    refine lv_aload_n hx hb dX7_meanOf_5 rfl (lv_at hl 0 rfl) ?_
    refine gf_X7_13 G hI h0 dX7_meanOf_6 ?_
    refine lv_iconst (v := (0 : Int32)) hx hb dX7_meanOf_9 (by decide) ?_
    refine n_ald G hI (isX7.told h0) (by decide) dX7_meanOf_10 ?_
    refine W.eq (g2 := F0 m 11 ls [.int (w 2 0), .int v3]) rfl ?_
    refine lv_icmp_ge (tgt := 29) hx hb dX7_meanOf_11 (by decide) (fun c4 => ?_) (fun c4 => ?_)
    · replace hF := itp c4 hF
      exact hk _ _ _ _ _ hF hI (lv_sub hl [2] rfl)
    · replace hF := itn c4 hF
      refine lv_iload_n hx hb dX7_meanOf_14 rfl (lv_at hl 2 rfl) ?_
      refine lv_aload_n hx hb dX7_meanOf_15 rfl (lv_at hl 0 rfl) ?_
      refine lv_iload_n hx hb dX7_meanOf_16 rfl (lv_at hl 1 rfl) ?_
      refine lv_iload_n hx hb dX7_meanOf_17 rfl (lv_at hl 3 rfl) ?_
      obtain ⟨r2, w1, z3, hF⟩ := bd_some hF
      refine n_Vi (rest := [.int v2]) G hI (c_X7_gives hA h0 z3) my_X7_gives kl_X7_144 (isX7.lt h0) (isX7.sh h0) rfl ⟨Nat.le_of_ble_eq_true rfl, Nat.le_of_ble_eq_true rfl⟩ rfl hl.1 rfl (Nat.le_of_ble_eq_true rfl) dX7_meanOf_18 (fun H locs hI => ?_)
      refine lv_iadd hx hb dX7_meanOf_21 ?_
      refine lv_istore_n (lv' := [(2, .int (v2 + r2)), (0, .ref (ad 0)), (1, .int a1), (3, .int v3)]) hx hb dX7_meanOf_22 rfl hl (by decide) rfl (fun ls hl => ?_)
      refine lv_iinc (v := (v3 + (1 : Int32))) (lv' := [(3, .int (v3 + (1 : Int32))), (2, .int (v2 + r2)), (0, .ref (ad 0)), (1, .int a1)]) hx hb dX7_meanOf_23 hl (k := 3) rfl rfl (by decide) rfl (fun ls hl => ?_)
      refine lv_goto (tgt := 4) hx hb dX7_meanOf_26 (by decide) ?_
      exact ih _ _ _ _ _ _ hF hI (lv_sub hl [2, 3, 1, 0] rfl)
set_option maxHeartbeats 4000000 in
theorem c_X7_meanOf (hA : AdOk n ad A) (h0 : isX7 n sh 0) {a1 : Int32} {w w' : Mem} {r : Int32} (hF : F_X7_meanOf a1 w = some (r, w')) : Ctr l n sh D cA ad A sa yX7_meanOf cX7_meanOf 4 (some .int) 3 69 [.ref (ad 0), .int a1] w (some (.int r)) w' := by
  refine m_enter hA (by decide) (Nat.le_of_ble_eq_true rfl) ?_
  intro p e s m args below meth c ls G hI hl
  replace hl : lv_has ls 4 [(0, .ref (ad 0)), (1, .int a1)] := hl
  replace G : Mx n D cA ad A sa p s m args meth c RX7 cX7_meanOf 4 (some .int) := G
  obtain ⟨hx, hb, -, -, hown, hg, -⟩ := id G
  unfold F_X7_meanOf at hF
  refine lv_iconst (v := (0 : Int32)) hx hb dX7_meanOf_0 (by decide) ?_
  refine lv_istore_n (lv' := [(2, .int (0 : Int32)), (0, .ref (ad 0)), (1, .int a1)]) hx hb dX7_meanOf_1 rfl hl (by decide) rfl (fun ls hl => ?_)
  refine lv_iconst (v := (0 : Int32)) hx hb dX7_meanOf_2 (by decide) ?_
  refine lv_istore_n (lv' := [(3, .int (0 : Int32)), (2, .int (0 : Int32)), (0, .ref (ad 0)), (1, .int a1)]) hx hb dX7_meanOf_3 rfl hl (by decide) rfl (fun ls hl => ?_)
  refine l_X7_meanOf_4 G h0 (fun x6 w5 H locs ls hF hI hl => ?_) _ _ _ _ _ _ _ hF hI (lv_sub hl [2, 3, 1, 0] rfl)
  refine lv_iload_n hx hb dX7_meanOf_29 rfl (lv_at hl 0 rfl) ?_
  exact n_iret G hI hF rfl dX7_meanOf_30
set_option maxHeartbeats 4000000 in
theorem c_X7_patternAt (hA : AdOk n ad A) (h0 : isX7 n sh 0) {a1 : Int32} {w w' : Mem} {r : Int32} (hF : F_X7_patternAt a1 w = some (r, w')) : Ctr l n sh D cA ad A sa yX7_patternAt cX7_patternAt 2 (some .int) 1 22 [.ref (ad 0), .int a1] w (some (.int r)) w' := by
  refine m_enter hA (by decide) (Nat.le_of_ble_eq_true rfl) ?_
  intro p e s m args below meth c ls G hI hl
  replace hl : lv_has ls 2 [(0, .ref (ad 0)), (1, .int a1)] := hl
  replace G : Mx n D cA ad A sa p s m args meth c RX7 cX7_patternAt 2 (some .int) := G
  obtain ⟨hx, hb, -, -, hown, hg, -⟩ := id G
  unfold F_X7_patternAt at hF
  refine lv_aload_n hx hb dX7_patternAt_0 rfl (lv_at hl 0 rfl) ?_
  refine lv_iconst (v := (0 : Int32)) hx hb dX7_patternAt_1 (by decide) ?_
  refine lv_iload_n hx hb dX7_patternAt_2 rfl (lv_at hl 1 rfl) ?_
  obtain ⟨r2, w1, z3, hF⟩ := bd_some hF
  refine n_Vi (rest := []) G hI (c_X7_wanted hA h0 z3) my_X7_wanted kl_X7_138 (isX7.lt h0) (isX7.sh h0) rfl ⟨Nat.le_of_ble_eq_true rfl, Nat.le_of_ble_eq_true rfl⟩ rfl hl.1 rfl (Nat.le_of_ble_eq_true rfl) dX7_patternAt_3 (fun H locs hI => ?_)
  obtain ⟨k4, ek4, hF⟩ := jn_some hF
  have hJ4 : ∀ (x5 : Int32) (H : Heap) (locs : List Loc) (ls : Array Slot), k4 x5 = some (r, w') → Iv n sh D cA ad A s.heap w1 H locs → lv_has ls 2 [(0, .ref (ad 0)), (1, .int a1)] → W p l e ({ frames := 1, cells := 0, slots := 0, locals := 22 } : Room) s m args below meth c H locs 0 0 (QM n sh D cA ad A below args s (some (.int r)) w') (F0 m 14 ls [.int x5]) := by
    intro x5 H locs ls hF hI hl
    replace hF := (congrFun ek4 x5).symm.trans hF
    refine lv_aload_n hx hb dX7_patternAt_14 rfl (lv_at hl 0 rfl) ?_
    refine lv_iconst (v := (1 : Int32)) hx hb dX7_patternAt_15 (by decide) ?_
    refine lv_iload_n hx hb dX7_patternAt_16 rfl (lv_at hl 1 rfl) ?_
    obtain ⟨r7, w6, z8, hF⟩ := bd_some hF
    refine n_Vi (rest := [.int x5]) G hI (c_X7_wanted hA h0 z8) my_X7_wanted kl_X7_138 (isX7.lt h0) (isX7.sh h0) rfl ⟨Nat.le_of_ble_eq_true rfl, Nat.le_of_ble_eq_true rfl⟩ rfl hl.1 rfl (Nat.le_of_ble_eq_true rfl) dX7_patternAt_17 (fun H locs hI => ?_)
    obtain ⟨k9, ek9, hF⟩ := jn_some hF
    have hJ9 : ∀ (x10 : Int32) (H : Heap) (locs : List Loc) (ls : Array Slot), k9 x10 = some (r, w') → Iv n sh D cA ad A s.heap w6 H locs → lv_has ls 2 [(0, .ref (ad 0)), (1, .int a1)] → W p l e ({ frames := 1, cells := 0, slots := 0, locals := 22 } : Room) s m args below meth c H locs 0 0 (QM n sh D cA ad A below args s (some (.int r)) w') (F0 m 28 ls [.int x10, .int x5]) := by
      intro x10 H locs ls hF hI hl
      replace hF := (congrFun ek9 x10).symm.trans hF
      refine lv_iadd hx hb dX7_patternAt_28 ?_
      refine lv_aload_n hx hb dX7_patternAt_29 rfl (lv_at hl 0 rfl) ?_
      refine lv_iconst (v := (2 : Int32)) hx hb dX7_patternAt_30 (by decide) ?_
      refine lv_iload_n hx hb dX7_patternAt_31 rfl (lv_at hl 1 rfl) ?_
      obtain ⟨r12, w11, z13, hF⟩ := bd_some hF
      refine n_Vi (rest := [.int (x5 + x10)]) G hI (c_X7_wanted hA h0 z13) my_X7_wanted kl_X7_138 (isX7.lt h0) (isX7.sh h0) rfl ⟨Nat.le_of_ble_eq_true rfl, Nat.le_of_ble_eq_true rfl⟩ rfl hl.1 rfl (Nat.le_of_ble_eq_true rfl) dX7_patternAt_32 (fun H locs hI => ?_)
      refine lv_if_eq (tgt := 42) hx hb dX7_patternAt_35 (by decide) (fun c14 => ?_) (fun c14 => ?_)
      · replace hF := itp c14 hF
        refine lv_iconst (v := (0 : Int32)) hx hb dX7_patternAt_42 (by decide) ?_
        refine lv_iadd hx hb dX7_patternAt_43 ?_
        exact n_iret G hI hF rfl dX7_patternAt_44
      · replace hF := itn c14 hF
        refine lv_iconst (v := (4 : Int32)) hx hb dX7_patternAt_38 (by decide) ?_
        refine lv_goto (tgt := 43) hx hb dX7_patternAt_39 (by decide) ?_
        refine lv_iadd hx hb dX7_patternAt_43 ?_
        exact n_iret G hI hF rfl dX7_patternAt_44
    refine lv_if_eq (tgt := 27) hx hb dX7_patternAt_20 (by decide) (fun c15 => ?_) (fun c15 => ?_)
    · replace hF := itp c15 hF
      refine lv_iconst (v := (0 : Int32)) hx hb dX7_patternAt_27 (by decide) ?_
      exact hJ9 _ _ _ _ hF hI (lv_sub hl [0, 1] rfl)
    · replace hF := itn c15 hF
      refine lv_iconst (v := (2 : Int32)) hx hb dX7_patternAt_23 (by decide) ?_
      refine lv_goto (tgt := 28) hx hb dX7_patternAt_24 (by decide) ?_
      exact hJ9 _ _ _ _ hF hI (lv_sub hl [0, 1] rfl)
  refine lv_if_eq (tgt := 13) hx hb dX7_patternAt_6 (by decide) (fun c16 => ?_) (fun c16 => ?_)
  · replace hF := itp c16 hF
    refine lv_iconst (v := (0 : Int32)) hx hb dX7_patternAt_13 (by decide) ?_
    exact hJ4 _ _ _ _ hF hI (lv_sub hl [0, 1] rfl)
  · replace hF := itn c16 hF
    refine lv_iconst (v := (1 : Int32)) hx hb dX7_patternAt_9 (by decide) ?_
    refine lv_goto (tgt := 14) hx hb dX7_patternAt_10 (by decide) ?_
    exact hJ4 _ _ _ _ hF hI (lv_sub hl [0, 1] rfl)
set_option maxHeartbeats 4000000 in
theorem l_X7_setRuns_7 {p : Program} {e : Env} {s : State} {m : MethodId} {args : Array Value} {below : List Frame} {meth : Method} {c : Code} (G : Mx n D cA ad A sa p s m args meth c RX7 cX7_setRuns 2 none)  (h0 : isX7 n sh 0) {k : Mem → Option (Unit × Mem)} {r : Unit} {w' : Mem}
    (hk : ∀  (w : Mem) (H : Heap) (locs : List Loc) (ls : Array Slot), k  w = some (r, w') → Iv n sh D cA ad A s.heap w H locs → lv_has ls 2 [] → W p l e ({ frames := 2, cells := 0, slots := 0, locals := 43 } : Room) s m args below meth c H locs 0 0 (QM n sh D cA ad A below args s none w') (F0 m 87 ls [])) :
    ∀ (N : Nat) (v1 : Int32) (w : Mem) (H : Heap) (locs : List Loc) (ls : Array Slot), L_X7_setRuns_7  k N v1 w = some (r, w') → Iv n sh D cA ad A s.heap w H locs → lv_has ls 2 [(0, .ref (ad 0)), (1, .int v1)] → W p l e ({ frames := 2, cells := 0, slots := 0, locals := 43 } : Room) s m args below meth c H locs 0 0 (QM n sh D cA ad A below args s none w') (F0 m 7 ls []) := by
  obtain ⟨hx, hb, -, -, hown, hg, -, -, -, -, hA⟩ := id G
  intro N
  induction N with
  | zero =>
    intro v1 w H locs ls hF hI hl
    cases hF
  | succ N ih =>
    intro v1 w H locs ls hF hI hl
    rw [L_X7_setRuns_7] at hF
    refine lv_iload_n hx hb dX7_setRuns_7 rfl (lv_at hl 1 rfl) ?_
    refine lv_aload_n hx hb dX7_setRuns_8 rfl (lv_at hl 0 rfl) ?_
    refine gf_X7_13 G hI h0 dX7_setRuns_9 ?_
    refine lv_iconst (v := (0 : Int32)) hx hb dX7_setRuns_12 (by decide) ?_
    refine n_ald G hI (isX7.told h0) (by decide) dX7_setRuns_13 ?_
    refine W.eq (g2 := F0 m 14 ls [.int (w 2 0), .int v1]) rfl ?_
    refine lv_icmp_ge (tgt := 87) hx hb dX7_setRuns_14 (by decide) (fun c22 => ?_) (fun c22 => ?_)
    · replace hF := itp c22 hF
      exact hk _ _ _ _ hF hI (lv_sub hl [] rfl)
    · replace hF := itn c22 hF
      refine lv_iload_n hx hb dX7_setRuns_17 rfl (lv_at hl 1 rfl) ?_
      obtain ⟨k2, ek2, hF⟩ := jn_some hF
      have hJ2 : ∀ (w3 : Mem) (H : Heap) (locs : List Loc) (ls : Array Slot), k2  w3 = some (r, w') → Iv n sh D cA ad A s.heap w3 H locs → lv_has ls 2 [(0, .ref (ad 0)), (1, .int v1)] → W p l e ({ frames := 2, cells := 0, slots := 0, locals := 43 } : Room) s m args below meth c H locs 0 0 (QM n sh D cA ad A below args s none w') (F0 m 66 ls []) := by
        intro  w3 H locs ls hF hI hl
        replace hF := (congrFun ek2 w3).symm.trans hF
        refine lv_aload_n hx hb dX7_setRuns_66 rfl (lv_at hl 0 rfl) ?_
        refine gf_X7_55 G hI h0 dX7_setRuns_67 ?_
        refine lv_aload_n hx hb dX7_setRuns_70 rfl (lv_at hl 0 rfl) ?_
        refine gf_X7_147 G hI h0 dX7_setRuns_71 ?_
        refine lv_iconst (v := (1 : Int32)) hx hb dX7_setRuns_74 (by decide) ?_
        refine lv_isub hx hb dX7_setRuns_75 ?_
        refine lv_dup2_11 hx hb dX7_setRuns_76 rfl rfl ?_
        obtain ⟨g4, hF⟩ := gd_some hF
        refine n_ald G hI (isX7.runLong h0) g4 dX7_setRuns_77 ?_
        refine lv_iconst (v := (1 : Int32)) hx hb dX7_setRuns_78 (by decide) ?_
        refine lv_iadd hx hb dX7_setRuns_79 ?_
        obtain ⟨g5, hF⟩ := gd_some hF
        obtain ⟨w6, ew6, hF⟩ := lt_some hF
        refine n_ast G hI (isX7.runLong h0) g5 dX7_setRuns_80 (fun H locs hI => ?_)
        replace hI : Iv n sh D cA ad A s.heap w6 H locs := by rw [ew6]; exact hI
        refine lv_iinc (v := (v1 + (1 : Int32))) (lv' := [(1, .int (v1 + (1 : Int32))), (0, .ref (ad 0))]) hx hb dX7_setRuns_81 hl (k := 1) rfl rfl (by decide) rfl (fun ls hl => ?_)
        refine lv_goto (tgt := 7) hx hb dX7_setRuns_84 (by decide) ?_
        exact ih _ _ _ _ _ hF hI (lv_sub hl [1, 0] rfl)
      obtain ⟨k7, ek7, hF⟩ := jn_some hF
      have hJ7 : ∀ (w8 : Mem) (H : Heap) (locs : List Loc) (ls : Array Slot), k7  w8 = some (r, w') → Iv n sh D cA ad A s.heap w8 H locs → lv_has ls 2 [(0, .ref (ad 0)), (1, .int v1)] → W p l e ({ frames := 2, cells := 0, slots := 0, locals := 43 } : Room) s m args below meth c H locs 0 0 (QM n sh D cA ad A below args s none w') (F0 m 36 ls []) := by
        intro  w8 H locs ls hF hI hl
        replace hF := (congrFun ek7 w8).symm.trans hF
        refine lv_aload_n hx hb dX7_setRuns_36 rfl (lv_at hl 0 rfl) ?_
        refine gf_X7_52 G hI h0 dX7_setRuns_37 ?_
        refine lv_aload_n hx hb dX7_setRuns_40 rfl (lv_at hl 0 rfl) ?_
        refine gf_X7_147 G hI h0 dX7_setRuns_41 ?_
        refine lv_iload_n hx hb dX7_setRuns_44 rfl (lv_at hl 1 rfl) ?_
        obtain ⟨g9, hF⟩ := gd_some hF
        obtain ⟨w10, ew10, hF⟩ := lt_some hF
        refine n_ast G hI (isX7.runAt h0) g9 dX7_setRuns_45 (fun H locs hI => ?_)
        replace hI : Iv n sh D cA ad A s.heap w10 H locs := by rw [ew10]; exact hI
        refine lv_aload_n hx hb dX7_setRuns_46 rfl (lv_at hl 0 rfl) ?_
        refine gf_X7_55 G hI h0 dX7_setRuns_47 ?_
        refine lv_aload_n hx hb dX7_setRuns_50 rfl (lv_at hl 0 rfl) ?_
        refine gf_X7_147 G hI h0 dX7_setRuns_51 ?_
        refine lv_iconst (v := (0 : Int32)) hx hb dX7_setRuns_54 (by decide) ?_
        obtain ⟨g11, hF⟩ := gd_some hF
        obtain ⟨w12, ew12, hF⟩ := lt_some hF
        refine n_ast G hI (isX7.runLong h0) g11 dX7_setRuns_55 (fun H locs hI => ?_)
        replace hI : Iv n sh D cA ad A s.heap w12 H locs := by rw [ew12]; exact hI
        refine lv_aload_n hx hb dX7_setRuns_56 rfl (lv_at hl 0 rfl) ?_
        refine lv_dup hx hb dX7_setRuns_57 rfl ?_
        refine gf_X7_147 G hI h0 dX7_setRuns_58 ?_
        refine lv_iconst (v := (1 : Int32)) hx hb dX7_setRuns_61 (by decide) ?_
        refine lv_iadd hx hb dX7_setRuns_62 ?_
        obtain ⟨w13, ew13, hF⟩ := lt_some hF
        refine pf_X7_147 G hI h0 dX7_setRuns_63 (fun H locs hI => ?_)
        replace hI : Iv n sh D cA ad A s.heap w13 H locs := by rw [ew13]; exact hI
        exact hJ2 _ _ _ _ hF hI (lv_sub hl [0, 1] rfl)
      refine lv_if_eq (tgt := 36) hx hb dX7_setRuns_18 (by decide) (fun c21 => ?_) (fun c21 => ?_)
      · replace hF := itp c21 hF
        exact hJ7 _ _ _ _ hF hI (lv_sub hl [0, 1] rfl)
      · replace hF := itn c21 hF
        refine lv_aload_n hx hb dX7_setRuns_21 rfl (lv_at hl 0 rfl) ?_
        refine lv_iload_n hx hb dX7_setRuns_22 rfl (lv_at hl 1 rfl) ?_
        obtain ⟨r15, w14, z16, hF⟩ := bd_some hF
        refine n_Vi (rest := []) G hI (c_X7_patternAt hA h0 z16) my_X7_patternAt kl_X7_150 (isX7.lt h0) (isX7.sh h0) rfl ⟨Nat.le_of_ble_eq_true rfl, Nat.le_of_ble_eq_true rfl⟩ rfl hl.1 rfl (Nat.le_of_ble_eq_true rfl) dX7_setRuns_23 (fun H locs hI => ?_)
        refine lv_aload_n hx hb dX7_setRuns_26 rfl (lv_at hl 0 rfl) ?_
        refine lv_iload_n hx hb dX7_setRuns_27 rfl (lv_at hl 1 rfl) ?_
        refine lv_iconst (v := (1 : Int32)) hx hb dX7_setRuns_28 (by decide) ?_
        refine lv_isub hx hb dX7_setRuns_29 ?_
        obtain ⟨r18, w17, z19, hF⟩ := bd_some hF
        refine n_Vi (rest := [.int r15]) G hI (c_X7_patternAt hA h0 z19) my_X7_patternAt kl_X7_150 (isX7.lt h0) (isX7.sh h0) rfl ⟨Nat.le_of_ble_eq_true rfl, Nat.le_of_ble_eq_true rfl⟩ rfl hl.1 rfl (Nat.le_of_ble_eq_true rfl) dX7_setRuns_30 (fun H locs hI => ?_)
        refine lv_icmp_eq (tgt := 66) hx hb dX7_setRuns_33 (by decide) (fun c20 => ?_) (fun c20 => ?_)
        · replace hF := itp c20 hF
          exact hJ2 _ _ _ _ hF hI (lv_sub hl [0, 1] rfl)
        · replace hF := itn c20 hF
          exact hJ7 _ _ _ _ hF hI (lv_sub hl [0, 1] rfl)
set_option maxHeartbeats 4000000 in
theorem c_X7_setRuns (hA : AdOk n ad A) (h0 : isX7 n sh 0) {w w' : Mem} {r : Unit} (hF : F_X7_setRuns  w = some (r, w')) : Ctr l n sh D cA ad A sa yX7_setRuns cX7_setRuns 2 none 2 43 [.ref (ad 0)] w none w' := by
  refine m_enter hA (by decide) (Nat.le_of_ble_eq_true rfl) ?_
  intro p e s m args below meth c ls G hI hl
  replace hl : lv_has ls 2 [(0, .ref (ad 0))] := hl
  replace G : Mx n D cA ad A sa p s m args meth c RX7 cX7_setRuns 2 none := G
  obtain ⟨hx, hb, -, -, hown, hg, -⟩ := id G
  unfold F_X7_setRuns at hF
  refine lv_aload_n hx hb dX7_setRuns_0 rfl (lv_at hl 0 rfl) ?_
  refine lv_iconst (v := (0 : Int32)) hx hb dX7_setRuns_1 (by decide) ?_
  obtain ⟨w1, ew1, hF⟩ := lt_some hF
  refine pf_X7_147 G hI h0 dX7_setRuns_2 (fun H locs hI => ?_)
  replace hI : Iv n sh D cA ad A s.heap w1 H locs := by rw [ew1]; exact hI
  refine lv_iconst (v := (0 : Int32)) hx hb dX7_setRuns_5 (by decide) ?_
  refine lv_istore_n (lv' := [(1, .int (0 : Int32)), (0, .ref (ad 0))]) hx hb dX7_setRuns_6 rfl hl (by decide) rfl (fun ls hl => ?_)
  refine l_X7_setRuns_7 G h0 (fun w23 H locs ls hF hI hl => ?_) _ _ _ _ _ _ hF hI (lv_sub hl [1, 0] rfl)
  exact n_vret G hI hF rfl dX7_setRuns_87
set_option maxHeartbeats 4000000 in
theorem c_X7_tells (hA : AdOk n ad A) (h0 : isX7 n sh 0) {a1 : Int32} {w w' : Mem} {r : Int32} (hF : F_X7_tells a1 w = some (r, w')) : Ctr l n sh D cA ad A sa yX7_tells cX7_tells 3 (some .int) 2 43 [.ref (ad 0), .int a1] w (some (.int r)) w' := by
  refine m_enter hA (by decide) (Nat.le_of_ble_eq_true rfl) ?_
  intro p e s m args below meth c ls G hI hl
  replace hl : lv_has ls 3 [(0, .ref (ad 0)), (1, .int a1)] := hl
  replace G : Mx n D cA ad A sa p s m args meth c RX7 cX7_tells 3 (some .int) := G
  obtain ⟨hx, hb, -, -, hown, hg, -⟩ := id G
  unfold F_X7_tells at hF
  refine lv_aload_n hx hb dX7_tells_0 rfl (lv_at hl 0 rfl) ?_
  refine lv_aload_n hx hb dX7_tells_1 rfl (lv_at hl 0 rfl) ?_
  refine gf_X7_52 G hI h0 dX7_tells_2 ?_
  refine lv_iload_n hx hb dX7_tells_5 rfl (lv_at hl 1 rfl) ?_
  obtain ⟨g1, hF⟩ := gd_some hF
  refine n_ald G hI (isX7.runAt h0) g1 dX7_tells_6 ?_
  obtain ⟨r3, w2, z4, hF⟩ := bd_some hF
  refine n_Vi (rest := []) G hI (c_X7_patternAt hA h0 z4) my_X7_patternAt kl_X7_150 (isX7.lt h0) (isX7.sh h0) rfl ⟨Nat.le_of_ble_eq_true rfl, Nat.le_of_ble_eq_true rfl⟩ rfl hl.1 rfl (Nat.le_of_ble_eq_true rfl) dX7_tells_7 (fun H locs hI => ?_)
  refine lv_istore_n (lv' := [(2, .int r3), (0, .ref (ad 0)), (1, .int a1)]) hx hb dX7_tells_10 rfl hl (by decide) rfl (fun ls hl => ?_)
  refine lv_aload_n hx hb dX7_tells_11 rfl (lv_at hl 1 rfl) ?_
  refine gf_X7_55 G hI h0 dX7_tells_12 ?_
  refine lv_iload_n hx hb dX7_tells_15 rfl (lv_at hl 2 rfl) ?_
  obtain ⟨g5, hF⟩ := gd_some hF
  refine n_ald G hI (isX7.runLong h0) g5 dX7_tells_16 ?_
  refine lv_aload_n hx hb dX7_tells_17 rfl (lv_at hl 1 rfl) ?_
  refine gf_X7_13 G hI h0 dX7_tells_18 ?_
  refine lv_iconst (v := (3 : Int32)) hx hb dX7_tells_21 (by decide) ?_
  refine n_ald G hI (isX7.told h0) (by decide) dX7_tells_22 ?_
  refine W.eq (g2 := F0 m 23 ls [.int (w2 2 3), .int (w2 16 (ix a1))]) rfl ?_
  refine lv_icmp_lt (tgt := 36) hx hb dX7_tells_23 (by decide) (fun c12 => ?_) (fun c12 => ?_)
  · replace hF := itp c12 hF
    refine lv_iconst (v := (-1 : Int32)) hx hb dX7_tells_36 (by decide) ?_
    exact n_iret G hI hF rfl dX7_tells_37
  · replace hF := itn c12 hF
    refine lv_iload_n hx hb dX7_tells_26 rfl (lv_at hl 0 rfl) ?_
    refine lv_if_eq (tgt := 36) hx hb dX7_tells_27 (by decide) (fun c11 => ?_) (fun c11 => ?_)
    · replace hF := itp c11 hF
      refine lv_iconst (v := (-1 : Int32)) hx hb dX7_tells_36 (by decide) ?_
      exact n_iret G hI hF rfl dX7_tells_37
    · replace hF := itn c11 hF
      refine lv_iload_n hx hb dX7_tells_30 rfl (lv_at hl 0 rfl) ?_
      refine lv_bipush (v := (7 : Int32)) hx hb dX7_tells_31 (by decide) ?_
      refine lv_icmp_ne (tgt := 38) hx hb dX7_tells_33 (by decide) (fun c10 => ?_) (fun c10 => ?_)
      · replace hF := itn c10 hF
        refine lv_iload_n hx hb dX7_tells_38 rfl (lv_at hl 0 rfl) ?_
        refine lv_iconst (v := (1 : Int32)) hx hb dX7_tells_39 (by decide) ?_
        refine lv_icmp_eq (tgt := 49) hx hb dX7_tells_40 (by decide) (fun c9 => ?_) (fun c9 => ?_)
        · replace hF := itp c9 hF
          refine lv_iconst (v := (0 : Int32)) hx hb dX7_tells_49 (by decide) ?_
          refine lv_goto (tgt := 68) hx hb dX7_tells_50 (by decide) ?_
          exact n_iret G hI hF rfl dX7_tells_68
        · replace hF := itn c9 hF
          refine lv_iload_n hx hb dX7_tells_43 rfl (lv_at hl 0 rfl) ?_
          refine lv_bipush (v := (6 : Int32)) hx hb dX7_tells_44 (by decide) ?_
          refine lv_icmp_ne (tgt := 53) hx hb dX7_tells_46 (by decide) (fun c8 => ?_) (fun c8 => ?_)
          · replace hF := itn c8 hF
            refine lv_iload_n hx hb dX7_tells_53 rfl (lv_at hl 0 rfl) ?_
            refine lv_iconst (v := (2 : Int32)) hx hb dX7_tells_54 (by decide) ?_
            refine lv_icmp_eq (tgt := 63) hx hb dX7_tells_55 (by decide) (fun c7 => ?_) (fun c7 => ?_)
            · replace hF := itp c7 hF
              refine lv_iconst (v := (1 : Int32)) hx hb dX7_tells_63 (by decide) ?_
              refine lv_goto (tgt := 68) hx hb dX7_tells_64 (by decide) ?_
              exact n_iret G hI hF rfl dX7_tells_68
            · replace hF := itn c7 hF
              refine lv_iload_n hx hb dX7_tells_58 rfl (lv_at hl 0 rfl) ?_
              refine lv_iconst (v := (5 : Int32)) hx hb dX7_tells_59 (by decide) ?_
              refine lv_icmp_ne (tgt := 67) hx hb dX7_tells_60 (by decide) (fun c6 => ?_) (fun c6 => ?_)
              · replace hF := itn c6 hF
                refine lv_iconst (v := (2 : Int32)) hx hb dX7_tells_67 (by decide) ?_
                exact n_iret G hI hF rfl dX7_tells_68
              · replace hF := itp c6 hF
                refine lv_iconst (v := (1 : Int32)) hx hb dX7_tells_63 (by decide) ?_
                refine lv_goto (tgt := 68) hx hb dX7_tells_64 (by decide) ?_
                exact n_iret G hI hF rfl dX7_tells_68
          · replace hF := itp c8 hF
            refine lv_iconst (v := (0 : Int32)) hx hb dX7_tells_49 (by decide) ?_
            refine lv_goto (tgt := 68) hx hb dX7_tells_50 (by decide) ?_
            exact n_iret G hI hF rfl dX7_tells_68
      · replace hF := itp c10 hF
        refine lv_iconst (v := (-1 : Int32)) hx hb dX7_tells_36 (by decide) ?_
        exact n_iret G hI hF rfl dX7_tells_37
set_option maxHeartbeats 4000000 in
theorem l_X7_seenSet_8 {p : Program} {e : Env} {s : State} {m : MethodId} {args : Array Value} {below : List Frame} {meth : Method} {c : Code} (G : Mx n D cA ad A sa p s m args meth c RX7 cX7_seenSet 4 (some .int))  (h0 : isX7 n sh 0) {k : Int32 → Mem → Option (Int32 × Mem)} {r : Int32} {w' : Mem}
    (hk : ∀ (v1 : Int32) (w : Mem) (H : Heap) (locs : List Loc) (ls : Array Slot), k v1 w = some (r, w') → Iv n sh D cA ad A s.heap w H locs → lv_has ls 4 [(1, .int v1)] → W p l e ({ frames := 3, cells := 0, slots := 0, locals := 65 } : Room) s m args below meth c H locs 0 0 (QM n sh D cA ad A below args s (some (.int r)) w') (F0 m 43 ls [])) :
    ∀ (N : Nat) (v1 : Int32) (v2 : Int32) (w : Mem) (H : Heap) (locs : List Loc) (ls : Array Slot), L_X7_seenSet_8  k N v1 v2 w = some (r, w') → Iv n sh D cA ad A s.heap w H locs → lv_has ls 4 [(0, .ref (ad 0)), (1, .int v1), (2, .int v2)] → W p l e ({ frames := 3, cells := 0, slots := 0, locals := 65 } : Room) s m args below meth c H locs 0 0 (QM n sh D cA ad A below args s (some (.int r)) w') (F0 m 8 ls []) := by
  obtain ⟨hx, hb, -, -, hown, hg, -, -, -, -, hA⟩ := id G
  intro N
  induction N with
  | zero =>
    intro v1 v2 w H locs ls hF hI hl
    cases hF
  | succ N ih =>
    intro v1 v2 w H locs ls hF hI hl
    rw [L_X7_seenSet_8] at hF
    refine lv_iload_n hx hb dX7_seenSet_8 rfl (lv_at hl 2 rfl) ?_
    refine lv_aload_n hx hb dX7_seenSet_9 rfl (lv_at hl 0 rfl) ?_
    refine gf_X7_147 G hI h0 dX7_seenSet_10 ?_
    refine lv_icmp_ge (tgt := 43) hx hb dX7_seenSet_13 (by decide) (fun c9 => ?_) (fun c9 => ?_)
    · replace hF := itp c9 hF
      exact hk _ _ _ _ _ hF hI (lv_sub hl [1] rfl)
    · replace hF := itn c9 hF
      refine lv_aload_n hx hb dX7_seenSet_16 rfl (lv_at hl 0 rfl) ?_
      refine lv_iload_n hx hb dX7_seenSet_17 rfl (lv_at hl 2 rfl) ?_
      obtain ⟨r5, w4, z6, hF⟩ := bd_some hF
      refine n_Vi (rest := []) G hI (c_X7_tells hA h0 z6) my_X7_tells kl_X7_157 (isX7.lt h0) (isX7.sh h0) rfl ⟨Nat.le_of_ble_eq_true rfl, Nat.le_of_ble_eq_true rfl⟩ rfl hl.1 rfl (Nat.le_of_ble_eq_true rfl) dX7_seenSet_18 (fun H locs hI => ?_)
      refine lv_istore_n (lv' := [(3, .int r5), (0, .ref (ad 0)), (1, .int v1), (2, .int v2)]) hx hb dX7_seenSet_21 rfl hl (by decide) rfl (fun ls hl => ?_)
      refine lv_iload_n hx hb dX7_seenSet_22 rfl (lv_at hl 2 rfl) ?_
      refine lv_iload_n hx hb dX7_seenSet_23 rfl (lv_at hl 0 rfl) ?_
      refine lv_iconst (v := (-1 : Int32)) hx hb dX7_seenSet_24 (by decide) ?_
      refine lv_icmp_ne (tgt := 32) hx hb dX7_seenSet_25 (by decide) (fun c8 => ?_) (fun c8 => ?_)
      · replace hF := itn c8 hF
        refine lv_iconst (v := (1 : Int32)) hx hb dX7_seenSet_32 (by decide) ?_
        refine lv_iload_n hx hb dX7_seenSet_33 rfl (lv_at hl 0 rfl) ?_
        refine lv_ishl hx hb dX7_seenSet_34 ?_
        refine lv_ior hx hb dX7_seenSet_35 ?_
        obtain ⟨x7, ex7, hF⟩ := lt_some hF
        refine W.eq (g2 := F0 m 36 ls [.int x7]) (by rw [ex7]) ?_
        refine lv_istore_n (lv' := [(1, .int x7), (3, .int r5), (0, .ref (ad 0)), (2, .int v2)]) hx hb dX7_seenSet_36 rfl hl (by decide) rfl (fun ls hl => ?_)
        refine lv_iinc (v := (v2 + (1 : Int32))) (lv' := [(2, .int (v2 + (1 : Int32))), (1, .int x7), (3, .int r5), (0, .ref (ad 0))]) hx hb dX7_seenSet_37 hl (k := 3) rfl rfl (by decide) rfl (fun ls hl => ?_)
        refine lv_goto (tgt := 8) hx hb dX7_seenSet_40 (by decide) ?_
        exact ih _ _ _ _ _ _ hF hI (lv_sub hl [3, 1, 0] rfl)
      · replace hF := itp c8 hF
        refine lv_iconst (v := (0 : Int32)) hx hb dX7_seenSet_28 (by decide) ?_
        refine lv_goto (tgt := 35) hx hb dX7_seenSet_29 (by decide) ?_
        refine lv_ior hx hb dX7_seenSet_35 ?_
        refine lv_istore_n (lv' := [(1, .int (v1 ||| (0 : Int32))), (3, .int r5), (0, .ref (ad 0)), (2, .int v2)]) hx hb dX7_seenSet_36 rfl hl (by decide) rfl (fun ls hl => ?_)
        refine lv_iinc (v := (v2 + (1 : Int32))) (lv' := [(2, .int (v2 + (1 : Int32))), (1, .int (v1 ||| (0 : Int32))), (3, .int r5), (0, .ref (ad 0))]) hx hb dX7_seenSet_37 hl (k := 3) rfl rfl (by decide) rfl (fun ls hl => ?_)
        refine lv_goto (tgt := 8) hx hb dX7_seenSet_40 (by decide) ?_
        exact ih _ _ _ _ _ _ hF hI (lv_sub hl [3, 1, 0] rfl)
set_option maxHeartbeats 4000000 in
theorem c_X7_seenSet (hA : AdOk n ad A) (h0 : isX7 n sh 0) {w w' : Mem} {r : Int32} (hF : F_X7_seenSet  w = some (r, w')) : Ctr l n sh D cA ad A sa yX7_seenSet cX7_seenSet 4 (some .int) 3 65 [.ref (ad 0)] w (some (.int r)) w' := by
  refine m_enter hA (by decide) (Nat.le_of_ble_eq_true rfl) ?_
  intro p e s m args below meth c ls G hI hl
  replace hl : lv_has ls 4 [(0, .ref (ad 0))] := hl
  replace G : Mx n D cA ad A sa p s m args meth c RX7 cX7_seenSet 4 (some .int) := G
  obtain ⟨hx, hb, -, -, hown, hg, -⟩ := id G
  unfold F_X7_seenSet at hF
  refine lv_aload_n hx hb dX7_seenSet_0 rfl (lv_at hl 0 rfl) ?_
  obtain ⟨r2, w1, z3, hF⟩ := bd_some hF
  refine n_Vv (rest := []) G hI (c_X7_setRuns hA h0 z3) my_X7_setRuns kl_X7_154 (isX7.lt h0) (isX7.sh h0) rfl ⟨Nat.le_of_ble_eq_true rfl, Nat.le_of_ble_eq_true rfl⟩ rfl hl.1 rfl (Nat.le_of_ble_eq_true rfl) dX7_seenSet_1 (fun H locs hI => ?_)
  refine lv_iconst (v := (0 : Int32)) hx hb dX7_seenSet_4 (by decide) ?_
  refine lv_istore_n (lv' := [(1, .int (0 : Int32)), (0, .ref (ad 0))]) hx hb dX7_seenSet_5 rfl hl (by decide) rfl (fun ls hl => ?_)
  refine lv_iconst (v := (0 : Int32)) hx hb dX7_seenSet_6 (by decide) ?_
  refine lv_istore_n (lv' := [(2, .int (0 : Int32)), (1, .int (0 : Int32)), (0, .ref (ad 0))]) hx hb dX7_seenSet_7 rfl hl (by decide) rfl (fun ls hl => ?_)
  refine l_X7_seenSet_8 G h0 (fun x11 w10 H locs ls hF hI hl => ?_) _ _ _ _ _ _ _ hF hI (lv_sub hl [2, 1, 0] rfl)
  refine lv_iload_n hx hb dX7_seenSet_43 rfl (lv_at hl 0 rfl) ?_
  exact n_iret G hI hF rfl dX7_seenSet_44
end WK9
