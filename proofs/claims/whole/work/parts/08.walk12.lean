/-! walks, by program (wip/gen/walk.py): X7_shift, X7_comesWish, X7_goesWish, X7_wish, X7_unwish, X7_wished, X7_comesTrue, X7_steers -/
section WK12
variable {n : Nat} {sh : Nat → Shp} {D : va_G} {cA : ClassId} {ad : Nat → Nat} {A : Nat → Prop} {sa : Nat → Nat} {l : Launch}
set_option maxHeartbeats 4000000 in
theorem l_X7_shift_20 {p : Program} {e : Env} {s : State} {m : MethodId} {args : Array Value} {below : List Frame} {meth : Method} {c : Code} (G : Mx n D cA ad A sa p s m args meth c RX7 cX7_shift 5 (some .int)) {a1 : Int32} (h0 : isX7 n sh 0) {k : Mem → Option (Int32 × Mem)} {r : Int32} {w' : Mem}
    (hk : ∀  (w : Mem) (H : Heap) (locs : List Loc) (ls : Array Slot), k  w = some (r, w') → Iv n sh D cA ad A s.heap w H locs → lv_has ls 5 [(0, .ref (ad 0)), (1, .int a1)] → W p l e ({ frames := 5, cells := 0, slots := 0, locals := 112 } : Room) s m args below meth c H locs 0 0 (QM n sh D cA ad A below args s (some (.int r)) w') (F0 m 43 ls [])) :
    ∀ (N : Nat) (v2 : Int32) (w : Mem) (H : Heap) (locs : List Loc) (ls : Array Slot), L_X7_shift_20 a1 k N v2 w = some (r, w') → Iv n sh D cA ad A s.heap w H locs → lv_has ls 5 [(0, .ref (ad 0)), (1, .int a1), (2, .int v2)] → W p l e ({ frames := 5, cells := 0, slots := 0, locals := 112 } : Room) s m args below meth c H locs 0 0 (QM n sh D cA ad A below args s (some (.int r)) w') (F0 m 20 ls []) := by
  obtain ⟨hx, hb, -, -, hown, hg, -, -, -, -, hA⟩ := id G
  intro N
  induction N with
  | zero =>
    intro v2 w H locs ls hF hI hl
    cases hF
  | succ N ih =>
    intro v2 w H locs ls hF hI hl
    rw [L_X7_shift_20] at hF
    refine lv_iload_n hx hb dX7_shift_20 rfl (lv_at hl 2 rfl) ?_
    refine lv_iconst (v := (3 : Int32)) hx hb dX7_shift_21 (by decide) ?_
    refine lv_icmp_ge (tgt := 43) hx hb dX7_shift_22 (by decide) (fun c10 => ?_) (fun c10 => ?_)
    · replace hF := itp c10 hF
      exact hk _ _ _ _ hF hI (lv_sub hl [0, 1] rfl)
    · replace hF := itn c10 hF
      refine lv_aload_n hx hb dX7_shift_25 rfl (lv_at hl 0 rfl) ?_
      refine gf_X7_61 G hI h0 dX7_shift_26 ?_
      refine lv_iload_n hx hb dX7_shift_29 rfl (lv_at hl 2 rfl) ?_
      refine lv_aload_n hx hb dX7_shift_30 rfl (lv_at hl 0 rfl) ?_
      refine gf_X7_46 G hI h0 dX7_shift_31 ?_
      refine lv_iload_n hx hb dX7_shift_34 rfl (lv_at hl 2 rfl) ?_
      obtain ⟨g7, hF⟩ := gd_some hF
      refine n_ald G hI (isX7.start h0) g7 dX7_shift_35 ?_
      obtain ⟨g8, hF⟩ := gd_some hF
      obtain ⟨w9, ew9, hF⟩ := lt_some hF
      refine n_ast G hI (isX7.first h0) g8 dX7_shift_36 (fun H locs hI => ?_)
      replace hI : Iv n sh D cA ad A s.heap w9 H locs := by rw [ew9]; exact hI
      refine lv_iinc (v := (v2 + (1 : Int32))) (lv' := [(2, .int (v2 + (1 : Int32))), (0, .ref (ad 0)), (1, .int a1)]) hx hb dX7_shift_37 hl (k := 2) rfl rfl (by decide) rfl (fun ls hl => ?_)
      refine lv_goto (tgt := 20) hx hb dX7_shift_40 (by decide) ?_
      exact ih _ _ _ _ _ hF hI (lv_sub hl [1, 2, 0] rfl)
set_option maxHeartbeats 4000000 in
theorem l_X7_shift_73 {p : Program} {e : Env} {s : State} {m : MethodId} {args : Array Value} {below : List Frame} {meth : Method} {c : Code} (G : Mx n D cA ad A sa p s m args meth c RX7 cX7_shift 5 (some .int)) {a1 : Int32} {a2 : Int32} {a3 : Int32} (h0 : isX7 n sh 0) {k : Mem → Option (Int32 × Mem)} {r : Int32} {w' : Mem}
    (hk : ∀  (w : Mem) (H : Heap) (locs : List Loc) (ls : Array Slot), k  w = some (r, w') → Iv n sh D cA ad A s.heap w H locs → lv_has ls 5 [(0, .ref (ad 0)), (1, .int a1), (2, .int a2), (3, .int a3)] → W p l e ({ frames := 5, cells := 0, slots := 0, locals := 112 } : Room) s m args below meth c H locs 0 0 (QM n sh D cA ad A below args s (some (.int r)) w') (F0 m 94 ls [])) :
    ∀ (N : Nat) (v4 : Int32) (w : Mem) (H : Heap) (locs : List Loc) (ls : Array Slot), L_X7_shift_73 a1 a2 a3 k N v4 w = some (r, w') → Iv n sh D cA ad A s.heap w H locs → lv_has ls 5 [(0, .ref (ad 0)), (1, .int a1), (2, .int a2), (3, .int a3), (4, .int v4)] → W p l e ({ frames := 5, cells := 0, slots := 0, locals := 112 } : Room) s m args below meth c H locs 0 0 (QM n sh D cA ad A below args s (some (.int r)) w') (F0 m 73 ls []) := by
  obtain ⟨hx, hb, -, -, hown, hg, -, -, -, -, hA⟩ := id G
  intro N
  induction N with
  | zero =>
    intro v4 w H locs ls hF hI hl
    cases hF
  | succ N ih =>
    intro v4 w H locs ls hF hI hl
    rw [L_X7_shift_73] at hF
    refine lv_iload hx hb dX7_shift_73 (lv_at hl 4 rfl) ?_
    refine lv_bipush (v := (6 : Int32)) hx hb dX7_shift_75 (by decide) ?_
    refine lv_icmp_gt (tgt := 94) hx hb dX7_shift_77 (by decide) (fun c16 => ?_) (fun c16 => ?_)
    · replace hF := itp c16 hF
      exact hk _ _ _ _ hF hI (lv_sub hl [0, 1, 2, 3] rfl)
    · replace hF := itn c16 hF
      refine lv_aload_n hx hb dX7_shift_80 rfl (lv_at hl 0 rfl) ?_
      refine lv_iload_n hx hb dX7_shift_81 rfl (lv_at hl 2 rfl) ?_
      refine lv_iload_n hx hb dX7_shift_82 rfl (lv_at hl 3 rfl) ?_
      refine lv_iload hx hb dX7_shift_83 (lv_at hl 4 rfl) ?_
      obtain ⟨r14, w13, z15, hF⟩ := bd_some hF
      refine n_Vv (rest := []) G hI (c_X7_tries hA h0 z15) my_X7_tries kl_X7_217 (isX7.lt h0) (isX7.sh h0) rfl ⟨Nat.le_of_ble_eq_true rfl, Nat.le_of_ble_eq_true rfl⟩ rfl hl.1 rfl (Nat.le_of_ble_eq_true rfl) dX7_shift_85 (fun H locs hI => ?_)
      refine lv_iinc (v := (v4 + (1 : Int32))) (lv' := [(4, .int (v4 + (1 : Int32))), (0, .ref (ad 0)), (1, .int a1), (2, .int a2), (3, .int a3)]) hx hb dX7_shift_88 hl (k := 4) rfl rfl (by decide) rfl (fun ls hl => ?_)
      refine lv_goto (tgt := 73) hx hb dX7_shift_91 (by decide) ?_
      exact ih _ _ _ _ _ hF hI (lv_sub hl [1, 2, 3, 4, 0] rfl)
set_option maxHeartbeats 4000000 in
theorem l_X7_shift_63 {p : Program} {e : Env} {s : State} {m : MethodId} {args : Array Value} {below : List Frame} {meth : Method} {c : Code} (G : Mx n D cA ad A sa p s m args meth c RX7 cX7_shift 5 (some .int)) {a1 : Int32} {a2 : Int32} (h0 : isX7 n sh 0) {k : Mem → Option (Int32 × Mem)} {r : Int32} {w' : Mem}
    (hk : ∀  (w : Mem) (H : Heap) (locs : List Loc) (ls : Array Slot), k  w = some (r, w') → Iv n sh D cA ad A s.heap w H locs → lv_has ls 5 [(0, .ref (ad 0)), (1, .int a1), (2, .int a2)] → W p l e ({ frames := 5, cells := 0, slots := 0, locals := 112 } : Room) s m args below meth c H locs 0 0 (QM n sh D cA ad A below args s (some (.int r)) w') (F0 m 100 ls [])) :
    ∀ (N : Nat) (v3 : Int32) (w : Mem) (H : Heap) (locs : List Loc) (ls : Array Slot), L_X7_shift_63 a1 a2 k N v3 w = some (r, w') → Iv n sh D cA ad A s.heap w H locs → lv_has ls 5 [(0, .ref (ad 0)), (1, .int a1), (2, .int a2), (3, .int v3)] → W p l e ({ frames := 5, cells := 0, slots := 0, locals := 112 } : Room) s m args below meth c H locs 0 0 (QM n sh D cA ad A below args s (some (.int r)) w') (F0 m 63 ls []) := by
  obtain ⟨hx, hb, -, -, hown, hg, -, -, -, -, hA⟩ := id G
  intro N
  induction N with
  | zero =>
    intro v3 w H locs ls hF hI hl
    cases hF
  | succ N ih =>
    intro v3 w H locs ls hF hI hl
    rw [L_X7_shift_63] at hF
    refine lv_iload_n hx hb dX7_shift_63 rfl (lv_at hl 3 rfl) ?_
    refine lv_bipush (v := (6 : Int32)) hx hb dX7_shift_64 (by decide) ?_
    refine lv_icmp_gt (tgt := 100) hx hb dX7_shift_66 (by decide) (fun c18 => ?_) (fun c18 => ?_)
    · replace hF := itp c18 hF
      exact hk _ _ _ _ hF hI (lv_sub hl [0, 1, 2] rfl)
    · replace hF := itn c18 hF
      refine lv_bipush (v := (-6 : Int32)) hx hb dX7_shift_69 (by decide) ?_
      refine lv_istore (lv' := [(4, .int (-6 : Int32)), (0, .ref (ad 0)), (1, .int a1), (2, .int a2), (3, .int v3)]) hx hb dX7_shift_71 hl (by decide) rfl (fun ls hl => ?_)
      refine l_X7_shift_73 G h0 (fun w17 H locs ls hF hI hl => ?_) _ _ _ _ _ _ hF hI (lv_sub hl [1, 2, 3, 4, 0] rfl)
      refine lv_iinc (v := (v3 + (1 : Int32))) (lv' := [(3, .int (v3 + (1 : Int32))), (0, .ref (ad 0)), (1, .int a1), (2, .int a2)]) hx hb dX7_shift_94 hl (k := 3) rfl rfl (by decide) rfl (fun ls hl => ?_)
      refine lv_goto (tgt := 63) hx hb dX7_shift_97 (by decide) ?_
      exact ih _ _ _ _ _ hF hI (lv_sub hl [1, 2, 3, 0] rfl)
set_option maxHeartbeats 4000000 in
theorem l_X7_shift_54 {p : Program} {e : Env} {s : State} {m : MethodId} {args : Array Value} {below : List Frame} {meth : Method} {c : Code} (G : Mx n D cA ad A sa p s m args meth c RX7 cX7_shift 5 (some .int)) {a1 : Int32} (h0 : isX7 n sh 0) {k : Mem → Option (Int32 × Mem)} {r : Int32} {w' : Mem}
    (hk : ∀  (w : Mem) (H : Heap) (locs : List Loc) (ls : Array Slot), k  w = some (r, w') → Iv n sh D cA ad A s.heap w H locs → lv_has ls 5 [(0, .ref (ad 0)), (1, .int a1)] → W p l e ({ frames := 5, cells := 0, slots := 0, locals := 112 } : Room) s m args below meth c H locs 0 0 (QM n sh D cA ad A below args s (some (.int r)) w') (F0 m 106 ls [])) :
    ∀ (N : Nat) (v2 : Int32) (w : Mem) (H : Heap) (locs : List Loc) (ls : Array Slot), L_X7_shift_54 a1 k N v2 w = some (r, w') → Iv n sh D cA ad A s.heap w H locs → lv_has ls 5 [(0, .ref (ad 0)), (1, .int a1), (2, .int v2)] → W p l e ({ frames := 5, cells := 0, slots := 0, locals := 112 } : Room) s m args below meth c H locs 0 0 (QM n sh D cA ad A below args s (some (.int r)) w') (F0 m 54 ls []) := by
  obtain ⟨hx, hb, -, -, hown, hg, -, -, -, -, hA⟩ := id G
  intro N
  induction N with
  | zero =>
    intro v2 w H locs ls hF hI hl
    cases hF
  | succ N ih =>
    intro v2 w H locs ls hF hI hl
    rw [L_X7_shift_54] at hF
    refine lv_iload_n hx hb dX7_shift_54 rfl (lv_at hl 2 rfl) ?_
    refine lv_bipush (v := (6 : Int32)) hx hb dX7_shift_55 (by decide) ?_
    refine lv_icmp_gt (tgt := 106) hx hb dX7_shift_57 (by decide) (fun c20 => ?_) (fun c20 => ?_)
    · replace hF := itp c20 hF
      exact hk _ _ _ _ hF hI (lv_sub hl [0, 1] rfl)
    · replace hF := itn c20 hF
      refine lv_bipush (v := (-6 : Int32)) hx hb dX7_shift_60 (by decide) ?_
      refine lv_istore_n (lv' := [(3, .int (-6 : Int32)), (0, .ref (ad 0)), (1, .int a1), (2, .int v2)]) hx hb dX7_shift_62 rfl hl (by decide) rfl (fun ls hl => ?_)
      refine l_X7_shift_63 G h0 (fun w19 H locs ls hF hI hl => ?_) _ _ _ _ _ _ hF hI (lv_sub hl [1, 2, 3, 0] rfl)
      refine lv_iinc (v := (v2 + (1 : Int32))) (lv' := [(2, .int (v2 + (1 : Int32))), (0, .ref (ad 0)), (1, .int a1)]) hx hb dX7_shift_100 hl (k := 2) rfl rfl (by decide) rfl (fun ls hl => ?_)
      refine lv_goto (tgt := 54) hx hb dX7_shift_103 (by decide) ?_
      exact ih _ _ _ _ _ hF hI (lv_sub hl [1, 2, 0] rfl)
set_option maxHeartbeats 4000000 in
theorem c_X7_shift (hA : AdOk n ad A) (h0 : isX7 n sh 0) {a1 : Int32} {w w' : Mem} {r : Int32} (hF : F_X7_shift a1 w = some (r, w')) : Ctr l n sh D cA ad A sa yX7_shift cX7_shift 5 (some .int) 5 112 [.ref (ad 0), .int a1] w (some (.int r)) w' := by
  refine m_enter hA (by decide) (Nat.le_of_ble_eq_true rfl) ?_
  intro p e s m args below meth c ls G hI hl
  replace hl : lv_has ls 5 [(0, .ref (ad 0)), (1, .int a1)] := hl
  replace G : Mx n D cA ad A sa p s m args meth c RX7 cX7_shift 5 (some .int) := G
  obtain ⟨hx, hb, -, -, hown, hg, -⟩ := id G
  unfold F_X7_shift at hF
  refine lv_iload_n hx hb dX7_shift_0 rfl (lv_at hl 1 rfl) ?_
  refine lv_iconst (v := (0 : Int32)) hx hb dX7_shift_1 (by decide) ?_
  refine lv_iconst (v := (4 : Int32)) hx hb dX7_shift_2 (by decide) ?_
  obtain ⟨r2, w1, z3, hF⟩ := bd_some hF
  refine n_Si (rest := []) G hI (c_X7_in hA  z3) my_X7_in kl_X7_86 ⟨Nat.le_of_ble_eq_true rfl, Nat.le_of_ble_eq_true rfl⟩ rfl hl.1 rfl (Nat.le_of_ble_eq_true rfl) dX7_shift_3 (fun H locs hI => ?_)
  refine lv_if_ne (tgt := 14) hx hb dX7_shift_6 (by decide) (fun c27 => ?_) (fun c27 => ?_)
  · replace hF := itn c27 hF
    refine lv_aload_n hx hb dX7_shift_14 rfl (lv_at hl 0 rfl) ?_
    obtain ⟨r5, w4, z6, hF⟩ := bd_some hF
    refine n_Vv (rest := []) G hI (c_X7_setPlan hA h0 z6) my_X7_setPlan kl_X7_117 (isX7.lt h0) (isX7.sh h0) rfl ⟨Nat.le_of_ble_eq_true rfl, Nat.le_of_ble_eq_true rfl⟩ rfl hl.1 rfl (Nat.le_of_ble_eq_true rfl) dX7_shift_15 (fun H locs hI => ?_)
    refine lv_iconst (v := (0 : Int32)) hx hb dX7_shift_18 (by decide) ?_
    refine lv_istore_n (lv' := [(2, .int (0 : Int32)), (0, .ref (ad 0)), (1, .int a1)]) hx hb dX7_shift_19 rfl hl (by decide) rfl (fun ls hl => ?_)
    refine l_X7_shift_20 G h0 (fun w11 H locs ls hF hI hl => ?_) _ _ _ _ _ _ hF hI (lv_sub hl [1, 2, 0] rfl)
    refine lv_aload_n hx hb dX7_shift_43 rfl (lv_at hl 0 rfl) ?_
    refine gf_X7_58 G hI h0 dX7_shift_44 ?_
    refine lv_iconst (v := (3 : Int32)) hx hb dX7_shift_47 (by decide) ?_
    refine lv_ldc hx hb hown (hg _ kc_X7_216) dX7_shift_48 ?_
    obtain ⟨w12, ew12, hF⟩ := lt_some hF
    refine n_ast G hI (isX7.best h0) (by decide) dX7_shift_50 (fun H locs hI => ?_)
    replace hI : Iv n sh D cA ad A s.heap w12 H locs := by rw [ew12]; exact hI
    refine lv_bipush (v := (-6 : Int32)) hx hb dX7_shift_51 (by decide) ?_
    refine lv_istore_n (lv' := [(2, .int (-6 : Int32)), (0, .ref (ad 0)), (1, .int a1)]) hx hb dX7_shift_53 rfl hl (by decide) rfl (fun ls hl => ?_)
    refine l_X7_shift_54 G h0 (fun w21 H locs ls hF hI hl => ?_) _ _ _ _ _ _ hF hI (lv_sub hl [1, 2, 0] rfl)
    refine lv_aload_n hx hb dX7_shift_106 rfl (lv_at hl 0 rfl) ?_
    refine gf_X7_58 G hI h0 dX7_shift_107 ?_
    refine lv_iconst (v := (3 : Int32)) hx hb dX7_shift_110 (by decide) ?_
    refine n_ald G hI (isX7.best h0) (by decide) dX7_shift_111 ?_
    refine W.eq (g2 := F0 m 112 ls [.int (w21 17 3)]) rfl ?_
    refine lv_ldc hx hb hown (hg _ kc_X7_216) dX7_shift_112 ?_
    refine lv_icmp_ne (tgt := 123) hx hb dX7_shift_114 (by decide) (fun c23 => ?_) (fun c23 => ?_)
    · replace hF := itn c23 hF
      refine lv_aload_n hx hb dX7_shift_123 rfl (lv_at hl 0 rfl) ?_
      refine gf_X7_58 G hI h0 dX7_shift_124 ?_
      refine lv_iload_n hx hb dX7_shift_127 rfl (lv_at hl 1 rfl) ?_
      obtain ⟨g22, hF⟩ := gd_some hF
      refine n_ald G hI (isX7.best h0) g22 dX7_shift_128 ?_
      exact n_iret G hI hF rfl dX7_shift_129
    · replace hF := itp c23 hF
      refine lv_sipush (v := (-1000 : Int32)) hx hb dX7_shift_117 (by decide) ?_
      refine lv_goto (tgt := 129) hx hb dX7_shift_120 (by decide) ?_
      exact n_iret G hI hF rfl dX7_shift_129
  · replace hF := itp c27 hF
    refine lv_aload_n hx hb dX7_shift_9 rfl (lv_at hl 0 rfl) ?_
    obtain ⟨r25, w24, z26, hF⟩ := bd_some hF
    refine n_Vi (rest := []) G hI (c_X7_bad hA h0 z26) my_X7_bad kl_X7_94 (isX7.lt h0) (isX7.sh h0) rfl ⟨Nat.le_of_ble_eq_true rfl, Nat.le_of_ble_eq_true rfl⟩ rfl hl.1 rfl (Nat.le_of_ble_eq_true rfl) dX7_shift_10 (fun H locs hI => ?_)
    exact n_iret G hI hF rfl dX7_shift_13
set_option maxHeartbeats 4000000 in
theorem c_X7_comesWish (hA : AdOk n ad A) (h0 : isX7 n sh 0) {a1 : Int32} {a2 : Int32} {a3 : Int32} {w w' : Mem} {r : Unit} (hF : F_X7_comesWish a1 a2 a3 w = some (r, w')) : Ctr l n sh D cA ad A sa yX7_comesWish cX7_comesWish 4 none 0 0 [.ref (ad 0), .int a1, .int a2, .int a3] w none w' := by
  refine m_enter hA (by decide) (Nat.le_of_ble_eq_true rfl) ?_
  intro p e s m args below meth c ls G hI hl
  replace hl : lv_has ls 4 [(0, .ref (ad 0)), (1, .int a1), (2, .int a2), (3, .int a3)] := hl
  replace G : Mx n D cA ad A sa p s m args meth c RX7 cX7_comesWish 4 none := G
  obtain ⟨hx, hb, -, -, hown, hg, -⟩ := id G
  unfold F_X7_comesWish at hF
  refine lv_aload_n hx hb dX7_comesWish_0 rfl (lv_at hl 0 rfl) ?_
  refine gf_X7_28 G hI h0 dX7_comesWish_1 ?_
  refine lv_aload_n hx hb dX7_comesWish_4 rfl (lv_at hl 0 rfl) ?_
  refine gf_X7_80 G hI h0 dX7_comesWish_5 ?_
  refine lv_iload_n hx hb dX7_comesWish_8 rfl (lv_at hl 1 rfl) ?_
  obtain ⟨g1, hF⟩ := gd_some hF
  obtain ⟨w2, ew2, hF⟩ := lt_some hF
  refine n_ast G hI (isX7.wishLeg h0) g1 dX7_comesWish_9 (fun H locs hI => ?_)
  replace hI : Iv n sh D cA ad A s.heap w2 H locs := by rw [ew2]; exact hI
  refine lv_aload_n hx hb dX7_comesWish_10 rfl (lv_at hl 0 rfl) ?_
  refine gf_X7_31 G hI h0 dX7_comesWish_11 ?_
  refine lv_aload_n hx hb dX7_comesWish_14 rfl (lv_at hl 0 rfl) ?_
  refine gf_X7_80 G hI h0 dX7_comesWish_15 ?_
  refine lv_iload_n hx hb dX7_comesWish_18 rfl (lv_at hl 2 rfl) ?_
  obtain ⟨g3, hF⟩ := gd_some hF
  obtain ⟨w4, ew4, hF⟩ := lt_some hF
  refine n_ast G hI (isX7.wishPeriod h0) g3 dX7_comesWish_19 (fun H locs hI => ?_)
  replace hI : Iv n sh D cA ad A s.heap w4 H locs := by rw [ew4]; exact hI
  refine lv_aload_n hx hb dX7_comesWish_20 rfl (lv_at hl 0 rfl) ?_
  refine gf_X7_34 G hI h0 dX7_comesWish_21 ?_
  refine lv_aload_n hx hb dX7_comesWish_24 rfl (lv_at hl 0 rfl) ?_
  refine gf_X7_80 G hI h0 dX7_comesWish_25 ?_
  refine lv_iload_n hx hb dX7_comesWish_28 rfl (lv_at hl 3 rfl) ?_
  obtain ⟨g5, hF⟩ := gd_some hF
  obtain ⟨w6, ew6, hF⟩ := lt_some hF
  refine n_ast G hI (isX7.wishValue h0) g5 dX7_comesWish_29 (fun H locs hI => ?_)
  replace hI : Iv n sh D cA ad A s.heap w6 H locs := by rw [ew6]; exact hI
  refine lv_aload_n hx hb dX7_comesWish_30 rfl (lv_at hl 0 rfl) ?_
  refine lv_dup hx hb dX7_comesWish_31 rfl ?_
  refine gf_X7_80 G hI h0 dX7_comesWish_32 ?_
  refine lv_iconst (v := (1 : Int32)) hx hb dX7_comesWish_35 (by decide) ?_
  refine lv_iadd hx hb dX7_comesWish_36 ?_
  obtain ⟨w7, ew7, hF⟩ := lt_some hF
  refine pf_X7_80 G hI h0 dX7_comesWish_37 (fun H locs hI => ?_)
  replace hI : Iv n sh D cA ad A s.heap w7 H locs := by rw [ew7]; exact hI
  exact n_vret G hI hF rfl dX7_comesWish_40
set_option maxHeartbeats 4000000 in
theorem l_X7_goesWish_12 {p : Program} {e : Env} {s : State} {m : MethodId} {args : Array Value} {below : List Frame} {meth : Method} {c : Code} (G : Mx n D cA ad A sa p s m args meth c RX7 cX7_goesWish 3 none)  (h0 : isX7 n sh 0) {k : Mem → Option (Unit × Mem)} {r : Unit} {w' : Mem}
    (hk : ∀  (w : Mem) (H : Heap) (locs : List Loc) (ls : Array Slot), k  w = some (r, w') → Iv n sh D cA ad A s.heap w H locs → lv_has ls 3 [] → W p l e ({ frames := 0, cells := 0, slots := 0, locals := 0 } : Room) s m args below meth c H locs 0 0 (QM n sh D cA ad A below args s none w') (F0 m 68 ls [])) :
    ∀ (N : Nat) (v2 : Int32) (w : Mem) (H : Heap) (locs : List Loc) (ls : Array Slot), L_X7_goesWish_12  k N v2 w = some (r, w') → Iv n sh D cA ad A s.heap w H locs → lv_has ls 3 [(0, .ref (ad 0)), (2, .int v2)] → W p l e ({ frames := 0, cells := 0, slots := 0, locals := 0 } : Room) s m args below meth c H locs 0 0 (QM n sh D cA ad A below args s none w') (F0 m 12 ls []) := by
  obtain ⟨hx, hb, -, -, hown, hg, -, -, -, -, hA⟩ := id G
  intro N
  induction N with
  | zero =>
    intro v2 w H locs ls hF hI hl
    cases hF
  | succ N ih =>
    intro v2 w H locs ls hF hI hl
    rw [L_X7_goesWish_12] at hF
    refine lv_iload_n hx hb dX7_goesWish_12 rfl (lv_at hl 1 rfl) ?_
    refine lv_aload_n hx hb dX7_goesWish_13 rfl (lv_at hl 0 rfl) ?_
    refine gf_X7_80 G hI h0 dX7_goesWish_14 ?_
    refine lv_icmp_ge (tgt := 68) hx hb dX7_goesWish_17 (by decide) (fun c11 => ?_) (fun c11 => ?_)
    · replace hF := itp c11 hF
      exact hk _ _ _ _ hF hI (lv_sub hl [] rfl)
    · replace hF := itn c11 hF
      refine lv_aload_n hx hb dX7_goesWish_20 rfl (lv_at hl 0 rfl) ?_
      refine gf_X7_28 G hI h0 dX7_goesWish_21 ?_
      refine lv_iload_n hx hb dX7_goesWish_24 rfl (lv_at hl 1 rfl) ?_
      refine lv_aload_n hx hb dX7_goesWish_25 rfl (lv_at hl 0 rfl) ?_
      refine gf_X7_28 G hI h0 dX7_goesWish_26 ?_
      refine lv_iload_n hx hb dX7_goesWish_29 rfl (lv_at hl 1 rfl) ?_
      refine lv_iconst (v := (1 : Int32)) hx hb dX7_goesWish_30 (by decide) ?_
      refine lv_iadd hx hb dX7_goesWish_31 ?_
      obtain ⟨g2, hF⟩ := gd_some hF
      refine n_ald G hI (isX7.wishLeg h0) g2 dX7_goesWish_32 ?_
      obtain ⟨g3, hF⟩ := gd_some hF
      obtain ⟨w4, ew4, hF⟩ := lt_some hF
      refine n_ast G hI (isX7.wishLeg h0) g3 dX7_goesWish_33 (fun H locs hI => ?_)
      replace hI : Iv n sh D cA ad A s.heap w4 H locs := by rw [ew4]; exact hI
      refine lv_aload_n hx hb dX7_goesWish_34 rfl (lv_at hl 0 rfl) ?_
      refine gf_X7_31 G hI h0 dX7_goesWish_35 ?_
      refine lv_iload_n hx hb dX7_goesWish_38 rfl (lv_at hl 1 rfl) ?_
      refine lv_aload_n hx hb dX7_goesWish_39 rfl (lv_at hl 0 rfl) ?_
      refine gf_X7_31 G hI h0 dX7_goesWish_40 ?_
      refine lv_iload_n hx hb dX7_goesWish_43 rfl (lv_at hl 1 rfl) ?_
      refine lv_iconst (v := (1 : Int32)) hx hb dX7_goesWish_44 (by decide) ?_
      refine lv_iadd hx hb dX7_goesWish_45 ?_
      obtain ⟨g5, hF⟩ := gd_some hF
      refine n_ald G hI (isX7.wishPeriod h0) g5 dX7_goesWish_46 ?_
      obtain ⟨g6, hF⟩ := gd_some hF
      obtain ⟨w7, ew7, hF⟩ := lt_some hF
      refine n_ast G hI (isX7.wishPeriod h0) g6 dX7_goesWish_47 (fun H locs hI => ?_)
      replace hI : Iv n sh D cA ad A s.heap w7 H locs := by rw [ew7]; exact hI
      refine lv_aload_n hx hb dX7_goesWish_48 rfl (lv_at hl 0 rfl) ?_
      refine gf_X7_34 G hI h0 dX7_goesWish_49 ?_
      refine lv_iload_n hx hb dX7_goesWish_52 rfl (lv_at hl 1 rfl) ?_
      refine lv_aload_n hx hb dX7_goesWish_53 rfl (lv_at hl 0 rfl) ?_
      refine gf_X7_34 G hI h0 dX7_goesWish_54 ?_
      refine lv_iload_n hx hb dX7_goesWish_57 rfl (lv_at hl 1 rfl) ?_
      refine lv_iconst (v := (1 : Int32)) hx hb dX7_goesWish_58 (by decide) ?_
      refine lv_iadd hx hb dX7_goesWish_59 ?_
      obtain ⟨g8, hF⟩ := gd_some hF
      refine n_ald G hI (isX7.wishValue h0) g8 dX7_goesWish_60 ?_
      obtain ⟨g9, hF⟩ := gd_some hF
      obtain ⟨w10, ew10, hF⟩ := lt_some hF
      refine n_ast G hI (isX7.wishValue h0) g9 dX7_goesWish_61 (fun H locs hI => ?_)
      replace hI : Iv n sh D cA ad A s.heap w10 H locs := by rw [ew10]; exact hI
      refine lv_iinc (v := (v2 + (1 : Int32))) (lv' := [(2, .int (v2 + (1 : Int32))), (0, .ref (ad 0))]) hx hb dX7_goesWish_62 hl (k := 1) rfl rfl (by decide) rfl (fun ls hl => ?_)
      refine lv_goto (tgt := 12) hx hb dX7_goesWish_65 (by decide) ?_
      exact ih _ _ _ _ _ hF hI (lv_sub hl [1, 0] rfl)
set_option maxHeartbeats 4000000 in
theorem c_X7_goesWish (hA : AdOk n ad A) (h0 : isX7 n sh 0) {a1 : Int32} {w w' : Mem} {r : Unit} (hF : F_X7_goesWish a1 w = some (r, w')) : Ctr l n sh D cA ad A sa yX7_goesWish cX7_goesWish 3 none 0 0 [.ref (ad 0), .int a1] w none w' := by
  refine m_enter hA (by decide) (Nat.le_of_ble_eq_true rfl) ?_
  intro p e s m args below meth c ls G hI hl
  replace hl : lv_has ls 3 [(0, .ref (ad 0)), (1, .int a1)] := hl
  replace G : Mx n D cA ad A sa p s m args meth c RX7 cX7_goesWish 3 none := G
  obtain ⟨hx, hb, -, -, hown, hg, -⟩ := id G
  unfold F_X7_goesWish at hF
  refine lv_aload_n hx hb dX7_goesWish_0 rfl (lv_at hl 0 rfl) ?_
  refine lv_dup hx hb dX7_goesWish_1 rfl ?_
  refine gf_X7_80 G hI h0 dX7_goesWish_2 ?_
  refine lv_iconst (v := (1 : Int32)) hx hb dX7_goesWish_5 (by decide) ?_
  refine lv_isub hx hb dX7_goesWish_6 ?_
  obtain ⟨w1, ew1, hF⟩ := lt_some hF
  refine pf_X7_80 G hI h0 dX7_goesWish_7 (fun H locs hI => ?_)
  replace hI : Iv n sh D cA ad A s.heap w1 H locs := by rw [ew1]; exact hI
  refine lv_iload_n hx hb dX7_goesWish_10 rfl (lv_at hl 1 rfl) ?_
  refine lv_istore_n (lv' := [(2, .int a1), (0, .ref (ad 0)), (1, .int a1)]) hx hb dX7_goesWish_11 rfl hl (by decide) rfl (fun ls hl => ?_)
  refine l_X7_goesWish_12 G h0 (fun w12 H locs ls hF hI hl => ?_) _ _ _ _ _ _ hF hI (lv_sub hl [1, 0] rfl)
  exact n_vret G hI hF rfl dX7_goesWish_68
set_option maxHeartbeats 4000000 in
theorem c_X7_wish (hA : AdOk n ad A) (h0 : isX7 n sh 0) {a1 : Int32} {a2 : Int32} {a3 : Int32} {w w' : Mem} {r : Int32} (hF : F_X7_wish a1 a2 a3 w = some (r, w')) : Ctr l n sh D cA ad A sa yX7_wish cX7_wish 4 (some .int) 2 42 [.ref (ad 0), .int a1, .int a2, .int a3] w (some (.int r)) w' := by
  refine m_enter hA (by decide) (Nat.le_of_ble_eq_true rfl) ?_
  intro p e s m args below meth c ls G hI hl
  replace hl : lv_has ls 4 [(0, .ref (ad 0)), (1, .int a1), (2, .int a2), (3, .int a3)] := hl
  replace G : Mx n D cA ad A sa p s m args meth c RX7 cX7_wish 4 (some .int) := G
  obtain ⟨hx, hb, -, -, hown, hg, -⟩ := id G
  unfold F_X7_wish at hF
  refine lv_iload_n hx hb dX7_wish_0 rfl (lv_at hl 1 rfl) ?_
  obtain ⟨r2, w1, z3, hF⟩ := bd_some hF
  refine n_Si (rest := []) G hI (c_X7_isLeg hA  z3) my_X7_isLeg kl_X7_98 ⟨Nat.le_of_ble_eq_true rfl, Nat.le_of_ble_eq_true rfl⟩ rfl hl.1 rfl (Nat.le_of_ble_eq_true rfl) dX7_wish_1 (fun H locs hI => ?_)
  refine lv_if_eq (tgt := 31) hx hb dX7_wish_4 (by decide) (fun c28 => ?_) (fun c28 => ?_)
  · replace hF := itp c28 hF
    refine lv_aload_n hx hb dX7_wish_31 rfl (lv_at hl 0 rfl) ?_
    obtain ⟨r5, w4, z6, hF⟩ := bd_some hF
    refine n_Vi (rest := []) G hI (c_X7_bad hA h0 z6) my_X7_bad kl_X7_94 (isX7.lt h0) (isX7.sh h0) rfl ⟨Nat.le_of_ble_eq_true rfl, Nat.le_of_ble_eq_true rfl⟩ rfl hl.1 rfl (Nat.le_of_ble_eq_true rfl) dX7_wish_32 (fun H locs hI => ?_)
    exact n_iret G hI hF rfl dX7_wish_35
  · replace hF := itn c28 hF
    refine lv_iload_n hx hb dX7_wish_7 rfl (lv_at hl 2 rfl) ?_
    refine lv_iconst (v := (0 : Int32)) hx hb dX7_wish_8 (by decide) ?_
    refine lv_sipush (v := (999 : Int32)) hx hb dX7_wish_9 (by decide) ?_
    obtain ⟨r8, w7, z9, hF⟩ := bd_some hF
    refine n_Si (rest := []) G hI (c_X7_in hA  z9) my_X7_in kl_X7_86 ⟨Nat.le_of_ble_eq_true rfl, Nat.le_of_ble_eq_true rfl⟩ rfl hl.1 rfl (Nat.le_of_ble_eq_true rfl) dX7_wish_12 (fun H locs hI => ?_)
    refine lv_if_eq (tgt := 31) hx hb dX7_wish_15 (by decide) (fun c27 => ?_) (fun c27 => ?_)
    · replace hF := itp c27 hF
      refine lv_aload_n hx hb dX7_wish_31 rfl (lv_at hl 0 rfl) ?_
      obtain ⟨r11, w10, z12, hF⟩ := bd_some hF
      refine n_Vi (rest := []) G hI (c_X7_bad hA h0 z12) my_X7_bad kl_X7_94 (isX7.lt h0) (isX7.sh h0) rfl ⟨Nat.le_of_ble_eq_true rfl, Nat.le_of_ble_eq_true rfl⟩ rfl hl.1 rfl (Nat.le_of_ble_eq_true rfl) dX7_wish_32 (fun H locs hI => ?_)
      exact n_iret G hI hF rfl dX7_wish_35
    · replace hF := itn c27 hF
      refine lv_iload_n hx hb dX7_wish_18 rfl (lv_at hl 3 rfl) ?_
      refine lv_sipush (v := (-500 : Int32)) hx hb dX7_wish_19 (by decide) ?_
      refine lv_sipush (v := (500 : Int32)) hx hb dX7_wish_22 (by decide) ?_
      obtain ⟨r14, w13, z15, hF⟩ := bd_some hF
      refine n_Si (rest := []) G hI (c_X7_in hA  z15) my_X7_in kl_X7_86 ⟨Nat.le_of_ble_eq_true rfl, Nat.le_of_ble_eq_true rfl⟩ rfl hl.1 rfl (Nat.le_of_ble_eq_true rfl) dX7_wish_25 (fun H locs hI => ?_)
      refine lv_if_ne (tgt := 36) hx hb dX7_wish_28 (by decide) (fun c26 => ?_) (fun c26 => ?_)
      · replace hF := itn c26 hF
        refine lv_aload_n hx hb dX7_wish_36 rfl (lv_at hl 0 rfl) ?_
        refine gf_X7_80 G hI h0 dX7_wish_37 ?_
        refine lv_bipush (v := (12 : Int32)) hx hb dX7_wish_40 (by decide) ?_
        refine lv_icmp_ne (tgt := 50) hx hb dX7_wish_42 (by decide) (fun c22 => ?_) (fun c22 => ?_)
        · replace hF := itn c22 hF
          refine lv_aload_n hx hb dX7_wish_50 rfl (lv_at hl 0 rfl) ?_
          refine lv_iload_n hx hb dX7_wish_51 rfl (lv_at hl 1 rfl) ?_
          refine lv_iload_n hx hb dX7_wish_52 rfl (lv_at hl 2 rfl) ?_
          refine lv_iload_n hx hb dX7_wish_53 rfl (lv_at hl 3 rfl) ?_
          obtain ⟨r17, w16, z18, hF⟩ := bd_some hF
          refine n_Vv (rest := []) G hI (c_X7_comesWish hA h0 z18) my_X7_comesWish kl_X7_224 (isX7.lt h0) (isX7.sh h0) rfl ⟨Nat.le_of_ble_eq_true rfl, Nat.le_of_ble_eq_true rfl⟩ rfl hl.1 rfl (Nat.le_of_ble_eq_true rfl) dX7_wish_54 (fun H locs hI => ?_)
          refine lv_aload_n hx hb dX7_wish_57 rfl (lv_at hl 0 rfl) ?_
          refine gf_X7_80 G hI h0 dX7_wish_58 ?_
          exact n_iret G hI hF rfl dX7_wish_61
        · replace hF := itp c22 hF
          refine lv_aload_n hx hb dX7_wish_45 rfl (lv_at hl 0 rfl) ?_
          obtain ⟨r20, w19, z21, hF⟩ := bd_some hF
          refine n_Vi (rest := []) G hI (c_X7_full hA h0 z21) my_X7_full kl_X7_221 (isX7.lt h0) (isX7.sh h0) rfl ⟨Nat.le_of_ble_eq_true rfl, Nat.le_of_ble_eq_true rfl⟩ rfl hl.1 rfl (Nat.le_of_ble_eq_true rfl) dX7_wish_46 (fun H locs hI => ?_)
          exact n_iret G hI hF rfl dX7_wish_49
      · replace hF := itp c26 hF
        refine lv_aload_n hx hb dX7_wish_31 rfl (lv_at hl 0 rfl) ?_
        obtain ⟨r24, w23, z25, hF⟩ := bd_some hF
        refine n_Vi (rest := []) G hI (c_X7_bad hA h0 z25) my_X7_bad kl_X7_94 (isX7.lt h0) (isX7.sh h0) rfl ⟨Nat.le_of_ble_eq_true rfl, Nat.le_of_ble_eq_true rfl⟩ rfl hl.1 rfl (Nat.le_of_ble_eq_true rfl) dX7_wish_32 (fun H locs hI => ?_)
        exact n_iret G hI hF rfl dX7_wish_35
set_option maxHeartbeats 4000000 in
theorem l_X7_unwish_21 {p : Program} {e : Env} {s : State} {m : MethodId} {args : Array Value} {below : List Frame} {meth : Method} {c : Code} (G : Mx n D cA ad A sa p s m args meth c RX7 cX7_unwish 4 (some .int)) {a1 : Int32} (h0 : isX7 n sh 0) {k : Int32 → Mem → Option (Int32 × Mem)} {r : Int32} {w' : Mem}
    (hk : ∀ (v2 : Int32) (w : Mem) (H : Heap) (locs : List Loc) (ls : Array Slot), k v2 w = some (r, w') → Iv n sh D cA ad A s.heap w H locs → lv_has ls 4 [(2, .int v2)] → W p l e ({ frames := 2, cells := 0, slots := 0, locals := 42 } : Room) s m args below meth c H locs 0 0 (QM n sh D cA ad A below args s (some (.int r)) w') (F0 m 49 ls [])) :
    ∀ (N : Nat) (v2 : Int32) (v3 : Int32) (w : Mem) (H : Heap) (locs : List Loc) (ls : Array Slot), L_X7_unwish_21 a1 k N v2 v3 w = some (r, w') → Iv n sh D cA ad A s.heap w H locs → lv_has ls 4 [(0, .ref (ad 0)), (1, .int a1), (2, .int v2), (3, .int v3)] → W p l e ({ frames := 2, cells := 0, slots := 0, locals := 42 } : Room) s m args below meth c H locs 0 0 (QM n sh D cA ad A below args s (some (.int r)) w') (F0 m 21 ls []) := by
  obtain ⟨hx, hb, -, -, hown, hg, -, -, -, -, hA⟩ := id G
  intro N
  induction N with
  | zero =>
    intro v2 v3 w H locs ls hF hI hl
    cases hF
  | succ N ih =>
    intro v2 v3 w H locs ls hF hI hl
    rw [L_X7_unwish_21] at hF
    refine lv_iload_n hx hb dX7_unwish_21 rfl (lv_at hl 3 rfl) ?_
    refine lv_if_lt (tgt := 49) hx hb dX7_unwish_22 (by decide) (fun c9 => ?_) (fun c9 => ?_)
    · replace hF := itp c9 hF
      exact hk _ _ _ _ _ hF hI (lv_sub hl [2] rfl)
    · replace hF := itn c9 hF
      refine lv_aload_n hx hb dX7_unwish_25 rfl (lv_at hl 0 rfl) ?_
      refine gf_X7_28 G hI h0 dX7_unwish_26 ?_
      refine lv_iload_n hx hb dX7_unwish_29 rfl (lv_at hl 3 rfl) ?_
      obtain ⟨g4, hF⟩ := gd_some hF
      refine n_ald G hI (isX7.wishLeg h0) g4 dX7_unwish_30 ?_
      refine lv_iload_n hx hb dX7_unwish_31 rfl (lv_at hl 1 rfl) ?_
      refine lv_icmp_ne (tgt := 43) hx hb dX7_unwish_32 (by decide) (fun c8 => ?_) (fun c8 => ?_)
      · replace hF := itn c8 hF
        refine lv_iinc (v := (v3 + (-1 : Int32))) (lv' := [(3, .int (v3 + (-1 : Int32))), (0, .ref (ad 0)), (1, .int a1), (2, .int v2)]) hx hb dX7_unwish_43 hl (k := 3) rfl rfl (by decide) rfl (fun ls hl => ?_)
        refine lv_goto (tgt := 21) hx hb dX7_unwish_46 (by decide) ?_
        exact ih _ _ _ _ _ _ hF hI (lv_sub hl [1, 2, 3, 0] rfl)
      · replace hF := itp c8 hF
        refine lv_aload_n hx hb dX7_unwish_35 rfl (lv_at hl 0 rfl) ?_
        refine lv_iload_n hx hb dX7_unwish_36 rfl (lv_at hl 3 rfl) ?_
        obtain ⟨r6, w5, z7, hF⟩ := bd_some hF
        refine n_Vv (rest := []) G hI (c_X7_goesWish hA h0 z7) my_X7_goesWish kl_X7_227 (isX7.lt h0) (isX7.sh h0) rfl ⟨Nat.le_of_ble_eq_true rfl, Nat.le_of_ble_eq_true rfl⟩ rfl hl.1 rfl (Nat.le_of_ble_eq_true rfl) dX7_unwish_37 (fun H locs hI => ?_)
        refine lv_iinc (v := (v2 + (1 : Int32))) (lv' := [(2, .int (v2 + (1 : Int32))), (0, .ref (ad 0)), (1, .int a1), (3, .int v3)]) hx hb dX7_unwish_40 hl (k := 2) rfl rfl (by decide) rfl (fun ls hl => ?_)
        refine lv_iinc (v := (v3 + (-1 : Int32))) (lv' := [(3, .int (v3 + (-1 : Int32))), (2, .int (v2 + (1 : Int32))), (0, .ref (ad 0)), (1, .int a1)]) hx hb dX7_unwish_43 hl (k := 3) rfl rfl (by decide) rfl (fun ls hl => ?_)
        refine lv_goto (tgt := 21) hx hb dX7_unwish_46 (by decide) ?_
        exact ih _ _ _ _ _ _ hF hI (lv_sub hl [2, 3, 1, 0] rfl)
set_option maxHeartbeats 4000000 in
theorem c_X7_unwish (hA : AdOk n ad A) (h0 : isX7 n sh 0) {a1 : Int32} {w w' : Mem} {r : Int32} (hF : F_X7_unwish a1 w = some (r, w')) : Ctr l n sh D cA ad A sa yX7_unwish cX7_unwish 4 (some .int) 2 42 [.ref (ad 0), .int a1] w (some (.int r)) w' := by
  refine m_enter hA (by decide) (Nat.le_of_ble_eq_true rfl) ?_
  intro p e s m args below meth c ls G hI hl
  replace hl : lv_has ls 4 [(0, .ref (ad 0)), (1, .int a1)] := hl
  replace G : Mx n D cA ad A sa p s m args meth c RX7 cX7_unwish 4 (some .int) := G
  obtain ⟨hx, hb, -, -, hown, hg, -⟩ := id G
  unfold F_X7_unwish at hF
  refine lv_iload_n hx hb dX7_unwish_0 rfl (lv_at hl 1 rfl) ?_
  obtain ⟨r2, w1, z3, hF⟩ := bd_some hF
  refine n_Si (rest := []) G hI (c_X7_isLeg hA  z3) my_X7_isLeg kl_X7_98 ⟨Nat.le_of_ble_eq_true rfl, Nat.le_of_ble_eq_true rfl⟩ rfl hl.1 rfl (Nat.le_of_ble_eq_true rfl) dX7_unwish_1 (fun H locs hI => ?_)
  refine lv_if_ne (tgt := 12) hx hb dX7_unwish_4 (by decide) (fun c15 => ?_) (fun c15 => ?_)
  · replace hF := itn c15 hF
    refine lv_iconst (v := (0 : Int32)) hx hb dX7_unwish_12 (by decide) ?_
    refine lv_istore_n (lv' := [(2, .int (0 : Int32)), (0, .ref (ad 0)), (1, .int a1)]) hx hb dX7_unwish_13 rfl hl (by decide) rfl (fun ls hl => ?_)
    refine lv_aload_n hx hb dX7_unwish_14 rfl (lv_at hl 1 rfl) ?_
    refine gf_X7_80 G hI h0 dX7_unwish_15 ?_
    refine lv_iconst (v := (1 : Int32)) hx hb dX7_unwish_18 (by decide) ?_
    refine lv_isub hx hb dX7_unwish_19 ?_
    refine lv_istore_n (lv' := [(3, .int ((w1 0 7) - (1 : Int32))), (2, .int (0 : Int32)), (0, .ref (ad 0)), (1, .int a1)]) hx hb dX7_unwish_20 rfl hl (by decide) rfl (fun ls hl => ?_)
    refine l_X7_unwish_21 G h0 (fun x11 w10 H locs ls hF hI hl => ?_) _ _ _ _ _ _ _ hF hI (lv_sub hl [2, 3, 1, 0] rfl)
    refine lv_iload_n hx hb dX7_unwish_49 rfl (lv_at hl 0 rfl) ?_
    exact n_iret G hI hF rfl dX7_unwish_50
  · replace hF := itp c15 hF
    refine lv_aload_n hx hb dX7_unwish_7 rfl (lv_at hl 0 rfl) ?_
    obtain ⟨r13, w12, z14, hF⟩ := bd_some hF
    refine n_Vi (rest := []) G hI (c_X7_bad hA h0 z14) my_X7_bad kl_X7_94 (isX7.lt h0) (isX7.sh h0) rfl ⟨Nat.le_of_ble_eq_true rfl, Nat.le_of_ble_eq_true rfl⟩ rfl hl.1 rfl (Nat.le_of_ble_eq_true rfl) dX7_unwish_8 (fun H locs hI => ?_)
    exact n_iret G hI hF rfl dX7_unwish_11
set_option maxHeartbeats 4000000 in
theorem c_X7_wished (hA : AdOk n ad A) (h0 : isX7 n sh 0) {a1 : Int32} {a2 : Int32} {w w' : Mem} {r : Int32} (hF : F_X7_wished a1 a2 w = some (r, w')) : Ctr l n sh D cA ad A sa yX7_wished cX7_wished 3 (some .int) 1 22 [.ref (ad 0), .int a1, .int a2] w (some (.int r)) w' := by
  refine m_enter hA (by decide) (Nat.le_of_ble_eq_true rfl) ?_
  intro p e s m args below meth c ls G hI hl
  replace hl : lv_has ls 3 [(0, .ref (ad 0)), (1, .int a1), (2, .int a2)] := hl
  replace G : Mx n D cA ad A sa p s m args meth c RX7 cX7_wished 3 (some .int) := G
  obtain ⟨hx, hb, -, -, hown, hg, -⟩ := id G
  unfold F_X7_wished at hF
  refine lv_iload_n hx hb dX7_wished_0 rfl (lv_at hl 1 rfl) ?_
  refine lv_if_lt (tgt := 13) hx hb dX7_wished_1 (by decide) (fun c17 => ?_) (fun c17 => ?_)
  · replace hF := itp c17 hF
    refine lv_aload_n hx hb dX7_wished_13 rfl (lv_at hl 0 rfl) ?_
    obtain ⟨r2, w1, z3, hF⟩ := bd_some hF
    refine n_Vi (rest := []) G hI (c_X7_bad hA h0 z3) my_X7_bad kl_X7_94 (isX7.lt h0) (isX7.sh h0) rfl ⟨Nat.le_of_ble_eq_true rfl, Nat.le_of_ble_eq_true rfl⟩ rfl hl.1 rfl (Nat.le_of_ble_eq_true rfl) dX7_wished_14 (fun H locs hI => ?_)
    exact n_iret G hI hF rfl dX7_wished_17
  · replace hF := itn c17 hF
    refine lv_iload_n hx hb dX7_wished_4 rfl (lv_at hl 2 rfl) ?_
    refine lv_iconst (v := (0 : Int32)) hx hb dX7_wished_5 (by decide) ?_
    refine lv_iconst (v := (2 : Int32)) hx hb dX7_wished_6 (by decide) ?_
    obtain ⟨r5, w4, z6, hF⟩ := bd_some hF
    refine n_Si (rest := []) G hI (c_X7_in hA  z6) my_X7_in kl_X7_86 ⟨Nat.le_of_ble_eq_true rfl, Nat.le_of_ble_eq_true rfl⟩ rfl hl.1 rfl (Nat.le_of_ble_eq_true rfl) dX7_wished_7 (fun H locs hI => ?_)
    refine lv_if_ne (tgt := 18) hx hb dX7_wished_10 (by decide) (fun c16 => ?_) (fun c16 => ?_)
    · replace hF := itn c16 hF
      refine lv_iload_n hx hb dX7_wished_18 rfl (lv_at hl 1 rfl) ?_
      refine lv_aload_n hx hb dX7_wished_19 rfl (lv_at hl 0 rfl) ?_
      refine gf_X7_80 G hI h0 dX7_wished_20 ?_
      refine lv_icmp_lt (tgt := 28) hx hb dX7_wished_23 (by decide) (fun c12 => ?_) (fun c12 => ?_)
      · replace hF := itp c12 hF
        refine lv_iload_n hx hb dX7_wished_28 rfl (lv_at hl 2 rfl) ?_
        refine lv_if_ne (tgt := 41) hx hb dX7_wished_29 (by decide) (fun c11 => ?_) (fun c11 => ?_)
        · replace hF := itn c11 hF
          refine lv_iload_n hx hb dX7_wished_41 rfl (lv_at hl 2 rfl) ?_
          refine lv_iconst (v := (1 : Int32)) hx hb dX7_wished_42 (by decide) ?_
          refine lv_icmp_ne (tgt := 55) hx hb dX7_wished_43 (by decide) (fun c9 => ?_) (fun c9 => ?_)
          · replace hF := itn c9 hF
            refine lv_aload_n hx hb dX7_wished_55 rfl (lv_at hl 0 rfl) ?_
            refine gf_X7_34 G hI h0 dX7_wished_56 ?_
            refine lv_iload_n hx hb dX7_wished_59 rfl (lv_at hl 1 rfl) ?_
            obtain ⟨g7, hF⟩ := gd_some hF
            refine n_ald G hI (isX7.wishValue h0) g7 dX7_wished_60 ?_
            exact n_iret G hI hF rfl dX7_wished_61
          · replace hF := itp c9 hF
            refine lv_aload_n hx hb dX7_wished_46 rfl (lv_at hl 0 rfl) ?_
            refine gf_X7_31 G hI h0 dX7_wished_47 ?_
            refine lv_iload_n hx hb dX7_wished_50 rfl (lv_at hl 1 rfl) ?_
            obtain ⟨g8, hF⟩ := gd_some hF
            refine n_ald G hI (isX7.wishPeriod h0) g8 dX7_wished_51 ?_
            refine lv_goto (tgt := 61) hx hb dX7_wished_52 (by decide) ?_
            exact n_iret G hI hF rfl dX7_wished_61
        · replace hF := itp c11 hF
          refine lv_aload_n hx hb dX7_wished_32 rfl (lv_at hl 0 rfl) ?_
          refine gf_X7_28 G hI h0 dX7_wished_33 ?_
          refine lv_iload_n hx hb dX7_wished_36 rfl (lv_at hl 1 rfl) ?_
          obtain ⟨g10, hF⟩ := gd_some hF
          refine n_ald G hI (isX7.wishLeg h0) g10 dX7_wished_37 ?_
          refine lv_goto (tgt := 61) hx hb dX7_wished_38 (by decide) ?_
          exact n_iret G hI hF rfl dX7_wished_61
      · replace hF := itn c12 hF
        refine lv_iconst (v := (-1 : Int32)) hx hb dX7_wished_26 (by decide) ?_
        exact n_iret G hI hF rfl dX7_wished_27
    · replace hF := itp c16 hF
      refine lv_aload_n hx hb dX7_wished_13 rfl (lv_at hl 0 rfl) ?_
      obtain ⟨r14, w13, z15, hF⟩ := bd_some hF
      refine n_Vi (rest := []) G hI (c_X7_bad hA h0 z15) my_X7_bad kl_X7_94 (isX7.lt h0) (isX7.sh h0) rfl ⟨Nat.le_of_ble_eq_true rfl, Nat.le_of_ble_eq_true rfl⟩ rfl hl.1 rfl (Nat.le_of_ble_eq_true rfl) dX7_wished_14 (fun H locs hI => ?_)
      exact n_iret G hI hF rfl dX7_wished_17
set_option maxHeartbeats 4000000 in
theorem l_X7_comesTrue_2 {p : Program} {e : Env} {s : State} {m : MethodId} {args : Array Value} {below : List Frame} {meth : Method} {c : Code} (G : Mx n D cA ad A sa p s m args meth c RX7 cX7_comesTrue 2 none)  (h0 : isX7 n sh 0) {k : Mem → Option (Unit × Mem)} {r : Unit} {w' : Mem}
    (hk : ∀  (w : Mem) (H : Heap) (locs : List Loc) (ls : Array Slot), k  w = some (r, w') → Iv n sh D cA ad A s.heap w H locs → lv_has ls 2 [] → W p l e ({ frames := 1, cells := 0, slots := 0, locals := 22 } : Room) s m args below meth c H locs 0 0 (QM n sh D cA ad A below args s none w') (F0 m 54 ls [])) :
    ∀ (N : Nat) (v1 : Int32) (w : Mem) (H : Heap) (locs : List Loc) (ls : Array Slot), L_X7_comesTrue_2  k N v1 w = some (r, w') → Iv n sh D cA ad A s.heap w H locs → lv_has ls 2 [(0, .ref (ad 0)), (1, .int v1)] → W p l e ({ frames := 1, cells := 0, slots := 0, locals := 22 } : Room) s m args below meth c H locs 0 0 (QM n sh D cA ad A below args s none w') (F0 m 2 ls []) := by
  obtain ⟨hx, hb, -, -, hown, hg, -, -, -, -, hA⟩ := id G
  intro N
  induction N with
  | zero =>
    intro v1 w H locs ls hF hI hl
    cases hF
  | succ N ih =>
    intro v1 w H locs ls hF hI hl
    rw [L_X7_comesTrue_2] at hF
    refine lv_iload_n hx hb dX7_comesTrue_2 rfl (lv_at hl 1 rfl) ?_
    refine lv_aload_n hx hb dX7_comesTrue_3 rfl (lv_at hl 0 rfl) ?_
    refine gf_X7_80 G hI h0 dX7_comesTrue_4 ?_
    refine lv_icmp_ge (tgt := 54) hx hb dX7_comesTrue_7 (by decide) (fun c10 => ?_) (fun c10 => ?_)
    · replace hF := itp c10 hF
      exact hk _ _ _ _ hF hI (lv_sub hl [] rfl)
    · replace hF := itn c10 hF
      refine lv_aload_n hx hb dX7_comesTrue_10 rfl (lv_at hl 0 rfl) ?_
      refine gf_X7_31 G hI h0 dX7_comesTrue_11 ?_
      refine lv_iload_n hx hb dX7_comesTrue_14 rfl (lv_at hl 1 rfl) ?_
      obtain ⟨g1, hF⟩ := gd_some hF
      refine n_ald G hI (isX7.wishPeriod h0) g1 dX7_comesTrue_15 ?_
      refine lv_aload_n hx hb dX7_comesTrue_16 rfl (lv_at hl 0 rfl) ?_
      refine gf_X7_76 G hI h0 dX7_comesTrue_17 ?_
      refine lv_icmp_gt (tgt := 48) hx hb dX7_comesTrue_20 (by decide) (fun c9 => ?_) (fun c9 => ?_)
      · replace hF := itp c9 hF
        refine lv_iinc (v := (v1 + (1 : Int32))) (lv' := [(1, .int (v1 + (1 : Int32))), (0, .ref (ad 0))]) hx hb dX7_comesTrue_48 hl (k := 1) rfl rfl (by decide) rfl (fun ls hl => ?_)
        refine lv_goto (tgt := 2) hx hb dX7_comesTrue_51 (by decide) ?_
        exact ih _ _ _ _ _ hF hI (lv_sub hl [1, 0] rfl)
      · replace hF := itn c9 hF
        refine lv_aload_n hx hb dX7_comesTrue_23 rfl (lv_at hl 0 rfl) ?_
        refine gf_X7_22 G hI h0 dX7_comesTrue_24 ?_
        refine lv_aload_n hx hb dX7_comesTrue_27 rfl (lv_at hl 0 rfl) ?_
        refine gf_X7_28 G hI h0 dX7_comesTrue_28 ?_
        refine lv_iload_n hx hb dX7_comesTrue_31 rfl (lv_at hl 1 rfl) ?_
        obtain ⟨g2, hF⟩ := gd_some hF
        refine n_ald G hI (isX7.wishLeg h0) g2 dX7_comesTrue_32 ?_
        refine lv_aload_n hx hb dX7_comesTrue_33 rfl (lv_at hl 0 rfl) ?_
        refine gf_X7_34 G hI h0 dX7_comesTrue_34 ?_
        refine lv_iload_n hx hb dX7_comesTrue_37 rfl (lv_at hl 1 rfl) ?_
        obtain ⟨g3, hF⟩ := gd_some hF
        refine n_ald G hI (isX7.wishValue h0) g3 dX7_comesTrue_38 ?_
        obtain ⟨g4, hF⟩ := gd_some hF
        obtain ⟨w5, ew5, hF⟩ := lt_some hF
        refine n_ast G hI (isX7.want h0) g4 dX7_comesTrue_39 (fun H locs hI => ?_)
        replace hI : Iv n sh D cA ad A s.heap w5 H locs := by rw [ew5]; exact hI
        refine lv_aload_n hx hb dX7_comesTrue_40 rfl (lv_at hl 0 rfl) ?_
        refine lv_iload_n hx hb dX7_comesTrue_41 rfl (lv_at hl 1 rfl) ?_
        obtain ⟨r7, w6, z8, hF⟩ := bd_some hF
        refine n_Vv (rest := []) G hI (c_X7_goesWish hA h0 z8) my_X7_goesWish kl_X7_227 (isX7.lt h0) (isX7.sh h0) rfl ⟨Nat.le_of_ble_eq_true rfl, Nat.le_of_ble_eq_true rfl⟩ rfl hl.1 rfl (Nat.le_of_ble_eq_true rfl) dX7_comesTrue_42 (fun H locs hI => ?_)
        refine lv_goto (tgt := 2) hx hb dX7_comesTrue_45 (by decide) ?_
        exact ih _ _ _ _ _ hF hI (lv_sub hl [0, 1] rfl)
set_option maxHeartbeats 4000000 in
theorem c_X7_comesTrue (hA : AdOk n ad A) (h0 : isX7 n sh 0) {w w' : Mem} {r : Unit} (hF : F_X7_comesTrue  w = some (r, w')) : Ctr l n sh D cA ad A sa yX7_comesTrue cX7_comesTrue 2 none 1 22 [.ref (ad 0)] w none w' := by
  refine m_enter hA (by decide) (Nat.le_of_ble_eq_true rfl) ?_
  intro p e s m args below meth c ls G hI hl
  replace hl : lv_has ls 2 [(0, .ref (ad 0))] := hl
  replace G : Mx n D cA ad A sa p s m args meth c RX7 cX7_comesTrue 2 none := G
  obtain ⟨hx, hb, -, -, hown, hg, -⟩ := id G
  unfold F_X7_comesTrue at hF
  refine lv_iconst (v := (0 : Int32)) hx hb dX7_comesTrue_0 (by decide) ?_
  refine lv_istore_n (lv' := [(1, .int (0 : Int32)), (0, .ref (ad 0))]) hx hb dX7_comesTrue_1 rfl hl (by decide) rfl (fun ls hl => ?_)
  refine l_X7_comesTrue_2 G h0 (fun w11 H locs ls hF hI hl => ?_) _ _ _ _ _ _ hF hI (lv_sub hl [1, 0] rfl)
  exact n_vret G hI hF rfl dX7_comesTrue_54
set_option maxHeartbeats 4000000 in
theorem l_X7_steers_11 {p : Program} {e : Env} {s : State} {m : MethodId} {args : Array Value} {below : List Frame} {meth : Method} {c : Code} (G : Mx n D cA ad A sa p s m args meth c RX7 cX7_steers 5 none) {a1 : Int32} (h0 : isX7 n sh 0) {k : Mem → Option (Unit × Mem)} {r : Unit} {w' : Mem}
    (hk : ∀  (w : Mem) (H : Heap) (locs : List Loc) (ls : Array Slot), k  w = some (r, w') → Iv n sh D cA ad A s.heap w H locs → lv_has ls 5 [] → W p l e ({ frames := 2, cells := 0, slots := 0, locals := 45 } : Room) s m args below meth c H locs 0 0 (QM n sh D cA ad A below args s none w') (F0 m 147 ls [])) :
    ∀ (N : Nat) (v2 : Int32) (w : Mem) (H : Heap) (locs : List Loc) (ls : Array Slot), L_X7_steers_11 a1 k N v2 w = some (r, w') → Iv n sh D cA ad A s.heap w H locs → lv_has ls 5 [(0, .ref (ad 0)), (1, .int a1), (2, .int v2)] → W p l e ({ frames := 2, cells := 0, slots := 0, locals := 45 } : Room) s m args below meth c H locs 0 0 (QM n sh D cA ad A below args s none w') (F0 m 11 ls []) := by
  obtain ⟨hx, hb, -, -, hown, hg, -, -, -, -, hA⟩ := id G
  intro N
  induction N with
  | zero =>
    intro v2 w H locs ls hF hI hl
    cases hF
  | succ N ih =>
    intro v2 w H locs ls hF hI hl
    rw [L_X7_steers_11] at hF
    refine lv_iload_n hx hb dX7_steers_11 rfl (lv_at hl 2 rfl) ?_
    refine lv_iconst (v := (3 : Int32)) hx hb dX7_steers_12 (by decide) ?_
    refine lv_icmp_ge (tgt := 147) hx hb dX7_steers_13 (by decide) (fun c36 => ?_) (fun c36 => ?_)
    · replace hF := itp c36 hF
      exact hk _ _ _ _ hF hI (lv_sub hl [] rfl)
    · replace hF := itn c36 hF
      refine lv_aload_n hx hb dX7_steers_16 rfl (lv_at hl 0 rfl) ?_
      refine gf_X7_22 G hI h0 dX7_steers_17 ?_
      refine lv_iload_n hx hb dX7_steers_20 rfl (lv_at hl 2 rfl) ?_
      obtain ⟨g4, hF⟩ := gd_some hF
      refine n_ald G hI (isX7.want h0) g4 dX7_steers_21 ?_
      refine lv_aload_n hx hb dX7_steers_22 rfl (lv_at hl 0 rfl) ?_
      refine gf_X7_16 G hI h0 dX7_steers_23 ?_
      refine lv_iload_n hx hb dX7_steers_26 rfl (lv_at hl 2 rfl) ?_
      obtain ⟨g5, hF⟩ := gd_some hF
      refine n_ald G hI (isX7.current h0) g5 dX7_steers_27 ?_
      refine lv_isub hx hb dX7_steers_28 ?_
      obtain ⟨x6, ex6, hF⟩ := lt_some hF
      refine W.eq (g2 := F0 m 29 ls [.int x6]) (by rw [ex6]) ?_
      refine lv_istore_n (lv' := [(3, .int x6), (0, .ref (ad 0)), (1, .int a1), (2, .int v2)]) hx hb dX7_steers_29 rfl hl (by decide) rfl (fun ls hl => ?_)
      refine lv_iload_n hx hb dX7_steers_30 rfl (lv_at hl 0 rfl) ?_
      obtain ⟨k7, ek7, hF⟩ := jn_some hF
      have hJ7 : ∀ (x8 : Int32) (H : Heap) (locs : List Loc) (ls : Array Slot), k7 x8 = some (r, w') → Iv n sh D cA ad A s.heap w H locs → lv_has ls 5 [(0, .ref (ad 0)), (1, .int a1), (2, .int v2), (3, .int x6)] → W p l e ({ frames := 2, cells := 0, slots := 0, locals := 45 } : Room) s m args below meth c H locs 0 0 (QM n sh D cA ad A below args s none w') (F0 m 61 ls [.int x8]) := by
        intro x8 H locs ls hF hI hl
        replace hF := (congrFun ek7 x8).symm.trans hF
        refine lv_istore (lv' := [(4, .int x8), (0, .ref (ad 0)), (1, .int a1), (2, .int v2), (3, .int x6)]) hx hb dX7_steers_61 hl (by decide) rfl (fun ls hl => ?_)
        refine lv_aload_n hx hb dX7_steers_63 rfl (lv_at hl 1 rfl) ?_
        refine gf_X7_25 G hI h0 dX7_steers_64 ?_
        refine lv_iload_n hx hb dX7_steers_67 rfl (lv_at hl 3 rfl) ?_
        refine lv_iload_n hx hb dX7_steers_68 rfl (lv_at hl 2 rfl) ?_
        obtain ⟨k9, ek9, hF⟩ := jn_some hF
        have hJ9 : ∀ (x10 : Int32) (w11 : Mem) (H : Heap) (locs : List Loc) (ls : Array Slot), k9 x10 w11 = some (r, w') → Iv n sh D cA ad A s.heap w11 H locs → lv_has ls 5 [(0, .ref (ad 0)), (1, .int a1), (2, .int v2), (3, .int x6)] → W p l e ({ frames := 2, cells := 0, slots := 0, locals := 45 } : Room) s m args below meth c H locs 0 0 (QM n sh D cA ad A below args s none w') (F0 m 100 ls [.int x10, .int v2, .ref (ad 6)]) := by
          intro x10 w11 H locs ls hF hI hl
          replace hF := (congrFun (congrFun ek9 x10) w11).symm.trans hF
          obtain ⟨g12, hF⟩ := gd_some hF
          obtain ⟨w13, ew13, hF⟩ := lt_some hF
          refine n_ast G hI (isX7.sum h0) g12 dX7_steers_100 (fun H locs hI => ?_)
          replace hI : Iv n sh D cA ad A s.heap w13 H locs := by rw [ew13]; exact hI
          refine lv_aload_n hx hb dX7_steers_101 rfl (lv_at hl 0 rfl) ?_
          refine gf_X7_19 G hI h0 dX7_steers_102 ?_
          refine lv_iload_n hx hb dX7_steers_105 rfl (lv_at hl 2 rfl) ?_
          refine lv_iload_n hx hb dX7_steers_106 rfl (lv_at hl 3 rfl) ?_
          refine lv_aload_n hx hb dX7_steers_107 rfl (lv_at hl 0 rfl) ?_
          refine gf_X7_13 G hI h0 dX7_steers_108 ?_
          refine lv_iconst (v := (4 : Int32)) hx hb dX7_steers_111 (by decide) ?_
          refine n_ald G hI (isX7.told h0) (by decide) dX7_steers_112 ?_
          refine W.eq (g2 := F0 m 113 ls [.int (w13 2 4), .int x6, .int v2, .ref (ad 4)]) rfl ?_
          refine lv_imul hx hb dX7_steers_113 ?_
          refine lv_bipush (v := (16 : Int32)) hx hb dX7_steers_114 (by decide) ?_
          refine n_idiv G (by decide) dX7_steers_116 ?_
          refine lv_aload_n hx hb dX7_steers_117 rfl (lv_at hl 0 rfl) ?_
          refine gf_X7_25 G hI h0 dX7_steers_118 ?_
          refine lv_iload_n hx hb dX7_steers_121 rfl (lv_at hl 2 rfl) ?_
          obtain ⟨g14, hF⟩ := gd_some hF
          refine n_ald G hI (isX7.sum h0) g14 dX7_steers_122 ?_
          refine lv_aload_n hx hb dX7_steers_123 rfl (lv_at hl 0 rfl) ?_
          refine gf_X7_13 G hI h0 dX7_steers_124 ?_
          refine lv_iconst (v := (5 : Int32)) hx hb dX7_steers_127 (by decide) ?_
          refine n_ald G hI (isX7.told h0) (by decide) dX7_steers_128 ?_
          refine W.eq (g2 := F0 m 129 ls [.int (w13 2 5), .int (w13 6 (ix v2)), .int ((x6 * (w13 2 4)) / (16 : Int32)), .int v2, .ref (ad 4)]) rfl ?_
          refine lv_imul hx hb dX7_steers_129 ?_
          refine lv_bipush (v := (64 : Int32)) hx hb dX7_steers_130 (by decide) ?_
          refine n_idiv G (by decide) dX7_steers_132 ?_
          refine lv_iadd hx hb dX7_steers_133 ?_
          refine lv_sipush (v := (200 : Int32)) hx hb dX7_steers_134 (by decide) ?_
          obtain ⟨r16, w15, z17, hF⟩ := bd_some hF
          refine n_Si (rest := [.int v2, .ref (ad 4)]) G hI (c_X7_within hA  z17) my_X7_within kl_X7_230 ⟨Nat.le_of_ble_eq_true rfl, Nat.le_of_ble_eq_true rfl⟩ rfl hl.1 rfl (Nat.le_of_ble_eq_true rfl) dX7_steers_137 (fun H locs hI => ?_)
          obtain ⟨g18, hF⟩ := gd_some hF
          obtain ⟨w19, ew19, hF⟩ := lt_some hF
          refine n_ast G hI (isX7.demand h0) g18 dX7_steers_140 (fun H locs hI => ?_)
          replace hI : Iv n sh D cA ad A s.heap w19 H locs := by rw [ew19]; exact hI
          refine lv_iinc (v := (v2 + (1 : Int32))) (lv' := [(2, .int (v2 + (1 : Int32))), (0, .ref (ad 0)), (1, .int a1), (3, .int x6)]) hx hb dX7_steers_141 hl (k := 2) rfl rfl (by decide) rfl (fun ls hl => ?_)
          refine lv_goto (tgt := 11) hx hb dX7_steers_144 (by decide) ?_
          exact ih _ _ _ _ _ hF hI (lv_sub hl [1, 2, 0] rfl)
        obtain ⟨k20, ek20, hF⟩ := jn_some hF
        have hJ20 : ∀  (H : Heap) (locs : List Loc) (ls : Array Slot), k20  = some (r, w') → Iv n sh D cA ad A s.heap w H locs → lv_has ls 5 [(0, .ref (ad 0)), (1, .int a1), (2, .int v2), (3, .int x6)] → W p l e ({ frames := 2, cells := 0, slots := 0, locals := 45 } : Room) s m args below meth c H locs 0 0 (QM n sh D cA ad A below args s none w') (F0 m 86 ls [.int v2, .ref (ad 6)]) := by
          intro  H locs ls hF hI hl
          replace hF := ek20.symm.trans hF
          refine lv_aload_n hx hb dX7_steers_86 rfl (lv_at hl 0 rfl) ?_
          refine gf_X7_25 G hI h0 dX7_steers_87 ?_
          refine lv_iload_n hx hb dX7_steers_90 rfl (lv_at hl 2 rfl) ?_
          obtain ⟨g21, hF⟩ := gd_some hF
          refine n_ald G hI (isX7.sum h0) g21 dX7_steers_91 ?_
          refine lv_iload_n hx hb dX7_steers_92 rfl (lv_at hl 3 rfl) ?_
          refine lv_iadd hx hb dX7_steers_93 ?_
          refine lv_sipush (v := (5000 : Int32)) hx hb dX7_steers_94 (by decide) ?_
          obtain ⟨r23, w22, z24, hF⟩ := bd_some hF
          refine n_Si (rest := [.int v2, .ref (ad 6)]) G hI (c_X7_within hA  z24) my_X7_within kl_X7_230 ⟨Nat.le_of_ble_eq_true rfl, Nat.le_of_ble_eq_true rfl⟩ rfl hl.1 rfl (Nat.le_of_ble_eq_true rfl) dX7_steers_97 (fun H locs hI => ?_)
          exact hJ9 _ _ _ _ _ hF hI (lv_sub hl [0, 1, 2, 3] rfl)
        refine lv_if_eq (tgt := 86) hx hb dX7_steers_69 (by decide) (fun c27 => ?_) (fun c27 => ?_)
        · replace hF := itp c27 hF
          exact hJ20  _ _ _ hF hI (lv_sub hl [1, 2, 3, 4] rfl)
        · replace hF := itn c27 hF
          refine lv_iload hx hb dX7_steers_72 (lv_at hl 0 rfl) ?_
          refine lv_if_eq (tgt := 86) hx hb dX7_steers_74 (by decide) (fun c26 => ?_) (fun c26 => ?_)
          · replace hF := itp c26 hF
            exact hJ20  _ _ _ hF hI (lv_sub hl [1, 2, 3, 4] rfl)
          · replace hF := itn c26 hF
            refine lv_aload_n hx hb dX7_steers_77 rfl (lv_at hl 1 rfl) ?_
            refine gf_X7_25 G hI h0 dX7_steers_78 ?_
            refine lv_iload_n hx hb dX7_steers_81 rfl (lv_at hl 3 rfl) ?_
            obtain ⟨g25, hF⟩ := gd_some hF
            refine n_ald G hI (isX7.sum h0) g25 dX7_steers_82 ?_
            refine lv_goto (tgt := 100) hx hb dX7_steers_83 (by decide) ?_
            exact hJ9 _ _ _ _ _ hF hI (lv_sub hl [1, 2, 3, 4] rfl)
      obtain ⟨k28, ek28, hF⟩ := jn_some hF
      have hJ28 : ∀  (H : Heap) (locs : List Loc) (ls : Array Slot), k28  = some (r, w') → Iv n sh D cA ad A s.heap w H locs → lv_has ls 5 [(0, .ref (ad 0)), (1, .int a1), (2, .int v2), (3, .int x6)] → W p l e ({ frames := 2, cells := 0, slots := 0, locals := 45 } : Room) s m args below meth c H locs 0 0 (QM n sh D cA ad A below args s none w') (F0 m 56 ls []) := by
        intro  H locs ls hF hI hl
        replace hF := ek28.symm.trans hF
        refine lv_iconst (v := (1 : Int32)) hx hb dX7_steers_56 (by decide) ?_
        refine lv_goto (tgt := 61) hx hb dX7_steers_57 (by decide) ?_
        exact hJ7 _ _ _ _ hF hI (lv_sub hl [0, 1, 2, 3] rfl)
      obtain ⟨k29, ek29, hF⟩ := jn_some hF
      have hJ29 : ∀  (H : Heap) (locs : List Loc) (ls : Array Slot), k29  = some (r, w') → Iv n sh D cA ad A s.heap w H locs → lv_has ls 5 [(0, .ref (ad 0)), (1, .int a1), (2, .int v2), (3, .int x6)] → W p l e ({ frames := 2, cells := 0, slots := 0, locals := 45 } : Room) s m args below meth c H locs 0 0 (QM n sh D cA ad A below args s none w') (F0 m 43 ls []) := by
        intro  H locs ls hF hI hl
        replace hF := ek29.symm.trans hF
        refine lv_iload_n hx hb dX7_steers_43 rfl (lv_at hl 3 rfl) ?_
        refine lv_if_ge (tgt := 60) hx hb dX7_steers_44 (by decide) (fun c32 => ?_) (fun c32 => ?_)
        · replace hF := itp c32 hF
          refine lv_iconst (v := (0 : Int32)) hx hb dX7_steers_60 (by decide) ?_
          exact hJ7 _ _ _ _ hF hI (lv_sub hl [0, 1, 2, 3] rfl)
        · replace hF := itn c32 hF
          refine lv_aload_n hx hb dX7_steers_47 rfl (lv_at hl 0 rfl) ?_
          refine gf_X7_25 G hI h0 dX7_steers_48 ?_
          refine lv_iload_n hx hb dX7_steers_51 rfl (lv_at hl 2 rfl) ?_
          obtain ⟨g30, hF⟩ := gd_some hF
          refine n_ald G hI (isX7.sum h0) g30 dX7_steers_52 ?_
          refine lv_if_ge (tgt := 60) hx hb dX7_steers_53 (by decide) (fun c31 => ?_) (fun c31 => ?_)
          · replace hF := itp c31 hF
            refine lv_iconst (v := (0 : Int32)) hx hb dX7_steers_60 (by decide) ?_
            exact hJ7 _ _ _ _ hF hI (lv_sub hl [0, 1, 2, 3] rfl)
          · replace hF := itn c31 hF
            exact hJ28  _ _ _ hF hI (lv_sub hl [0, 1, 2, 3] rfl)
      refine lv_if_le (tgt := 43) hx hb dX7_steers_31 (by decide) (fun c35 => ?_) (fun c35 => ?_)
      · replace hF := itp c35 hF
        exact hJ29  _ _ _ hF hI (lv_sub hl [1, 2, 3, 0] rfl)
      · replace hF := itn c35 hF
        refine lv_aload_n hx hb dX7_steers_34 rfl (lv_at hl 1 rfl) ?_
        refine gf_X7_25 G hI h0 dX7_steers_35 ?_
        refine lv_iload_n hx hb dX7_steers_38 rfl (lv_at hl 3 rfl) ?_
        obtain ⟨g33, hF⟩ := gd_some hF
        refine n_ald G hI (isX7.sum h0) g33 dX7_steers_39 ?_
        refine lv_if_gt (tgt := 56) hx hb dX7_steers_40 (by decide) (fun c34 => ?_) (fun c34 => ?_)
        · replace hF := itp c34 hF
          exact hJ28  _ _ _ hF hI (lv_sub hl [1, 2, 3, 0] rfl)
        · replace hF := itn c34 hF
          exact hJ29  _ _ _ hF hI (lv_sub hl [1, 2, 3, 0] rfl)
set_option maxHeartbeats 4000000 in
theorem c_X7_steers (hA : AdOk n ad A) (h0 : isX7 n sh 0) {w w' : Mem} {r : Unit} (hF : F_X7_steers  w = some (r, w')) : Ctr l n sh D cA ad A sa yX7_steers cX7_steers 5 none 2 45 [.ref (ad 0)] w none w' := by
  refine m_enter hA (by decide) (Nat.le_of_ble_eq_true rfl) ?_
  intro p e s m args below meth c ls G hI hl
  replace hl : lv_has ls 5 [(0, .ref (ad 0))] := hl
  replace G : Mx n D cA ad A sa p s m args meth c RX7 cX7_steers 5 none := G
  obtain ⟨hx, hb, -, -, hown, hg, -⟩ := id G
  unfold F_X7_steers at hF
  refine lv_aload_n hx hb dX7_steers_0 rfl (lv_at hl 0 rfl) ?_
  obtain ⟨r2, w1, z3, hF⟩ := bd_some hF
  refine n_Vv (rest := []) G hI (c_X7_setPlan hA h0 z3) my_X7_setPlan kl_X7_117 (isX7.lt h0) (isX7.sh h0) rfl ⟨Nat.le_of_ble_eq_true rfl, Nat.le_of_ble_eq_true rfl⟩ rfl hl.1 rfl (Nat.le_of_ble_eq_true rfl) dX7_steers_1 (fun H locs hI => ?_)
  refine lv_aload_n hx hb dX7_steers_4 rfl (lv_at hl 0 rfl) ?_
  refine gf_X7_130 G hI h0 dX7_steers_5 ?_
  refine lv_istore_n (lv' := [(1, .int (w1 0 14)), (0, .ref (ad 0))]) hx hb dX7_steers_8 rfl hl (by decide) rfl (fun ls hl => ?_)
  refine lv_iconst (v := (0 : Int32)) hx hb dX7_steers_9 (by decide) ?_
  refine lv_istore_n (lv' := [(2, .int (0 : Int32)), (1, .int (w1 0 14)), (0, .ref (ad 0))]) hx hb dX7_steers_10 rfl hl (by decide) rfl (fun ls hl => ?_)
  refine l_X7_steers_11 G h0 (fun w37 H locs ls hF hI hl => ?_) _ _ _ _ _ _ hF hI (lv_sub hl [2, 1, 0] rfl)
  exact n_vret G hI hF rfl dX7_steers_147
end WK12
