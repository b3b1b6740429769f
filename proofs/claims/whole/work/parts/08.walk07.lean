/-! walks, by program (wip/gen/walk.py): X6_stepsToSettle, X6_settles, X6_tunes, X6_state, X6_memory, X6_over, X6_type, X6_clear, X6_reads, X6_countedSetting, X6_counted, X6_count, X6_digest -/
section WK7
variable {n : Nat} {sh : Nat → Shp} {D : va_G} {cA : ClassId} {ad : Nat → Nat} {A : Nat → Prop} {sa : Nat → Nat} {l : Launch}
set_option maxHeartbeats 4000000 in
theorem l_X6_stepsToSettle_24 {p : Program} {e : Env} {s : State} {m : MethodId} {args : Array Value} {below : List Frame} {meth : Method} {c : Code} (G : Mx n D cA ad A sa p s m args meth c RX6 cX6_stepsToSettle 5 (some .int)) {a1 : Int32} {a3 : Int32} (h0 : isX6 n sh 0) {k : Mem → Option (Int32 × Mem)} {r : Int32} {w' : Mem}
    (hk : ∀  (w : Mem) (H : Heap) (locs : List Loc) (ls : Array Slot), k  w = some (r, w') → Iv n sh D cA ad A s.heap w H locs → lv_has ls 5 [] → W p l e ({ frames := 6, cells := 0, slots := 0, locals := 134 } : Room) s m args below meth c H locs 0 0 (QM n sh D cA ad A below args s (some (.int r)) w') (F0 m 58 ls [])) :
    ∀ (N : Nat) (v4 : Int32) (w : Mem) (H : Heap) (locs : List Loc) (ls : Array Slot), L_X6_stepsToSettle_24 a1 a3 k N v4 w = some (r, w') → Iv n sh D cA ad A s.heap w H locs → lv_has ls 5 [(0, .ref (ad 0)), (1, .int a1), (3, .int a3), (4, .int v4)] → W p l e ({ frames := 6, cells := 0, slots := 0, locals := 134 } : Room) s m args below meth c H locs 0 0 (QM n sh D cA ad A below args s (some (.int r)) w') (F0 m 24 ls []) := by
  obtain ⟨hx, hb, -, -, hown, hg, -, -, -, -, hA⟩ := id G
  intro N
  induction N with
  | zero =>
    intro v4 w H locs ls hF hI hl
    cases hF
  | succ N ih =>
    intro v4 w H locs ls hF hI hl
    rw [L_X6_stepsToSettle_24] at hF
    refine lv_iload hx hb dX6_stepsToSettle_24 (lv_at hl 3 rfl) ?_
    refine lv_iload_n hx hb dX6_stepsToSettle_26 rfl (lv_at hl 2 rfl) ?_
    refine lv_icmp_gt (tgt := 58) hx hb dX6_stepsToSettle_27 (by decide) (fun c12 => ?_) (fun c12 => ?_)
    · replace hF := itp c12 hF
      exact hk _ _ _ _ hF hI (lv_sub hl [] rfl)
    · replace hF := itn c12 hF
      refine lv_aload_n hx hb dX6_stepsToSettle_30 rfl (lv_at hl 0 rfl) ?_
      refine gf_X6_16 G hI h0 dX6_stepsToSettle_31 ?_
      refine lv_iload_n hx hb dX6_stepsToSettle_34 rfl (lv_at hl 1 rfl) ?_
      obtain ⟨r6, w5, z7, hF⟩ := bd_some hF
      refine n_Vi (rest := []) G hI (c_X0_isSettled hA (isX6.trial h0) z7) my_X0_isSettled kl_X6_300 (isX0.lt (isX6.trial h0)) (isX0.sh (isX6.trial h0)) rfl ⟨Nat.le_of_ble_eq_true rfl, Nat.le_of_ble_eq_true rfl⟩ rfl hl.1 rfl (Nat.le_of_ble_eq_true rfl) dX6_stepsToSettle_35 (fun H locs hI => ?_)
      refine lv_if_eq (tgt := 44) hx hb dX6_stepsToSettle_38 (by decide) (fun c11 => ?_) (fun c11 => ?_)
      · replace hF := itp c11 hF
        refine lv_aload_n hx hb dX6_stepsToSettle_44 rfl (lv_at hl 0 rfl) ?_
        refine gf_X6_16 G hI h0 dX6_stepsToSettle_45 ?_
        obtain ⟨r9, w8, z10, hF⟩ := bd_some hF
        refine n_Vi (rest := []) G hI (c_X0_stepOnce hA (isX6.trial h0) z10) my_X0_stepOnce kl_X6_225 (isX0.lt (isX6.trial h0)) (isX0.sh (isX6.trial h0)) rfl ⟨Nat.le_of_ble_eq_true rfl, Nat.le_of_ble_eq_true rfl⟩ rfl hl.1 rfl (Nat.le_of_ble_eq_true rfl) dX6_stepsToSettle_48 (fun H locs hI => ?_)
        refine lv_pop hx hb dX6_stepsToSettle_51 rfl ?_
        refine lv_iinc (v := (v4 + (1 : Int32))) (lv' := [(4, .int (v4 + (1 : Int32))), (0, .ref (ad 0)), (1, .int a1), (3, .int a3)]) hx hb dX6_stepsToSettle_52 hl (k := 3) rfl rfl (by decide) rfl (fun ls hl => ?_)
        refine lv_goto (tgt := 24) hx hb dX6_stepsToSettle_55 (by decide) ?_
        exact ih _ _ _ _ _ hF hI (lv_sub hl [1, 2, 3, 0] rfl)
      · replace hF := itn c11 hF
        refine lv_iload hx hb dX6_stepsToSettle_41 (lv_at hl 3 rfl) ?_
        exact n_iret G hI hF rfl dX6_stepsToSettle_43
set_option maxHeartbeats 4000000 in
theorem c_X6_stepsToSettle (hA : AdOk n ad A) (h0 : isX6 n sh 0) {a1 : Int32} {a2 : Int32} {a3 : Int32} {w w' : Mem} {r : Int32} (hF : F_X6_stepsToSettle a1 a2 a3 w = some (r, w')) : Ctr l n sh D cA ad A sa yX6_stepsToSettle cX6_stepsToSettle 5 (some .int) 6 134 [.ref (ad 0), .int a1, .int a2, .int a3] w (some (.int r)) w' := by
  refine m_enter hA (by decide) (Nat.le_of_ble_eq_true rfl) ?_
  intro p e s m args below meth c ls G hI hl
  replace hl : lv_has ls 5 [(0, .ref (ad 0)), (1, .int a1), (2, .int a2), (3, .int a3)] := hl
  replace G : Mx n D cA ad A sa p s m args meth c RX6 cX6_stepsToSettle 5 (some .int) := G
  obtain ⟨hx, hb, -, -, hown, hg, -⟩ := id G
  unfold F_X6_stepsToSettle at hF
  refine lv_aload_n hx hb dX6_stepsToSettle_0 rfl (lv_at hl 0 rfl) ?_
  refine gf_X6_16 G hI h0 dX6_stepsToSettle_1 ?_
  refine lv_aload_n hx hb dX6_stepsToSettle_4 rfl (lv_at hl 0 rfl) ?_
  refine gf_X6_10 G hI h0 dX6_stepsToSettle_5 ?_
  obtain ⟨r2, w1, z3, hF⟩ := bd_some hF
  refine n_Vv (rest := []) G hI (c_X0_becomeLike hA (isX6.trial h0) (isX6.drive h0) z3) my_X0_becomeLike kl_X6_296 (isX0.lt (isX6.trial h0)) (isX0.sh (isX6.trial h0)) rfl ⟨Nat.le_of_ble_eq_true rfl, Nat.le_of_ble_eq_true rfl⟩ rfl hl.1 rfl (Nat.le_of_ble_eq_true rfl) dX6_stepsToSettle_8 (fun H locs hI => ?_)
  refine lv_aload_n hx hb dX6_stepsToSettle_11 rfl (lv_at hl 0 rfl) ?_
  refine gf_X6_16 G hI h0 dX6_stepsToSettle_12 ?_
  refine gf_X6_70 G hI (isX6.trial h0) dX6_stepsToSettle_15 ?_
  refine lv_iconst (v := (4 : Int32)) hx hb dX6_stepsToSettle_18 (by decide) ?_
  refine lv_iload_n hx hb dX6_stepsToSettle_19 rfl (lv_at hl 2 rfl) ?_
  obtain ⟨w4, ew4, hF⟩ := lt_some hF
  refine n_ast G hI (isX0.setting (isX6.trial h0)) (by decide) dX6_stepsToSettle_20 (fun H locs hI => ?_)
  replace hI : Iv n sh D cA ad A s.heap w4 H locs := by rw [ew4]; exact hI
  refine lv_iconst (v := (0 : Int32)) hx hb dX6_stepsToSettle_21 (by decide) ?_
  refine lv_istore (lv' := [(4, .int (0 : Int32)), (0, .ref (ad 0)), (1, .int a1), (2, .int a2), (3, .int a3)]) hx hb dX6_stepsToSettle_22 hl (by decide) rfl (fun ls hl => ?_)
  refine l_X6_stepsToSettle_24 G h0 (fun w13 H locs ls hF hI hl => ?_) _ _ _ _ _ _ hF hI (lv_sub hl [1, 2, 4, 0] rfl)
  refine lv_iconst (v := (-1 : Int32)) hx hb dX6_stepsToSettle_58 (by decide) ?_
  exact n_iret G hI hF rfl dX6_stepsToSettle_59
set_option maxHeartbeats 4000000 in
theorem c_X6_settles (hA : AdOk n ad A) (h0 : isX6 n sh 0) {a1 : Int32} {w w' : Mem} {r : Int32} (hF : F_X6_settles a1 w = some (r, w')) : Ctr l n sh D cA ad A sa yX6_settles cX6_settles 2 (some .int) 7 158 [.ref (ad 0), .int a1] w (some (.int r)) w' := by
  refine m_enter hA (by decide) (Nat.le_of_ble_eq_true rfl) ?_
  intro p e s m args below meth c ls G hI hl
  replace hl : lv_has ls 2 [(0, .ref (ad 0)), (1, .int a1)] := hl
  replace G : Mx n D cA ad A sa p s m args meth c RX6 cX6_settles 2 (some .int) := G
  obtain ⟨hx, hb, -, -, hown, hg, -⟩ := id G
  unfold F_X6_settles at hF
  refine lv_iload_n hx hb dX6_settles_0 rfl (lv_at hl 1 rfl) ?_
  refine lv_iconst (v := (0 : Int32)) hx hb dX6_settles_1 (by decide) ?_
  refine lv_sipush (v := (500 : Int32)) hx hb dX6_settles_2 (by decide) ?_
  obtain ⟨r2, w1, z3, hF⟩ := bd_some hF
  refine n_Si (rest := []) G hI (c_X6_within hA  z3) my_X6_within kl_X6_56 ⟨Nat.le_of_ble_eq_true rfl, Nat.le_of_ble_eq_true rfl⟩ rfl hl.1 rfl (Nat.le_of_ble_eq_true rfl) dX6_settles_5 (fun H locs hI => ?_)
  refine lv_if_ne (tgt := 16) hx hb dX6_settles_8 (by decide) (fun c10 => ?_) (fun c10 => ?_)
  · replace hF := itn c10 hF
    refine lv_aload_n hx hb dX6_settles_16 rfl (lv_at hl 0 rfl) ?_
    refine lv_iload_n hx hb dX6_settles_17 rfl (lv_at hl 1 rfl) ?_
    refine lv_aload_n hx hb dX6_settles_18 rfl (lv_at hl 0 rfl) ?_
    refine gf_X6_10 G hI h0 dX6_settles_19 ?_
    refine gf_X6_70 G hI (isX6.drive h0) dX6_settles_22 ?_
    refine lv_iconst (v := (4 : Int32)) hx hb dX6_settles_25 (by decide) ?_
    refine n_ald G hI (isX0.setting (isX6.drive h0)) (by decide) dX6_settles_26 ?_
    refine W.eq (g2 := F0 m 27 ls [.int (w1 2 4), .int a1, .ref (ad 0)]) rfl ?_
    refine lv_bipush (v := (60 : Int32)) hx hb dX6_settles_27 (by decide) ?_
    obtain ⟨r5, w4, z6, hF⟩ := bd_some hF
    refine n_Vi (rest := []) G hI (c_X6_stepsToSettle hA h0 z6) my_X6_stepsToSettle kl_X6_231 (isX6.lt h0) (isX6.sh h0) rfl ⟨Nat.le_of_ble_eq_true rfl, Nat.le_of_ble_eq_true rfl⟩ rfl hl.1 rfl (Nat.le_of_ble_eq_true rfl) dX6_settles_29 (fun H locs hI => ?_)
    exact n_iret G hI hF rfl dX6_settles_32
  · replace hF := itp c10 hF
    refine lv_aload_n hx hb dX6_settles_11 rfl (lv_at hl 0 rfl) ?_
    obtain ⟨r8, w7, z9, hF⟩ := bd_some hF
    refine n_Vi (rest := []) G hI (c_X6_refuseBad hA h0 z9) my_X6_refuseBad kl_X6_66 (isX6.lt h0) (isX6.sh h0) rfl ⟨Nat.le_of_ble_eq_true rfl, Nat.le_of_ble_eq_true rfl⟩ rfl hl.1 rfl (Nat.le_of_ble_eq_true rfl) dX6_settles_12 (fun H locs hI => ?_)
    exact n_iret G hI hF rfl dX6_settles_15
set_option maxHeartbeats 4000000 in
theorem l_X6_tunes_24 {p : Program} {e : Env} {s : State} {m : MethodId} {args : Array Value} {below : List Frame} {meth : Method} {c : Code} (G : Mx n D cA ad A sa p s m args meth c RX6 cX6_tunes 6 (some .int)) {a1 : Int32} (h0 : isX6 n sh 0) {k : Int32 → Mem → Option (Int32 × Mem)} {r : Int32} {w' : Mem}
    (hk : ∀ (v2 : Int32) (w : Mem) (H : Heap) (locs : List Loc) (ls : Array Slot), k v2 w = some (r, w') → Iv n sh D cA ad A s.heap w H locs → lv_has ls 6 [(2, .int v2)] → W p l e ({ frames := 7, cells := 0, slots := 0, locals := 158 } : Room) s m args below meth c H locs 0 0 (QM n sh D cA ad A below args s (some (.int r)) w') (F0 m 61 ls [])) :
    ∀ (N : Nat) (v2 : Int32) (v3 : Int32) (v4 : Int32) (w : Mem) (H : Heap) (locs : List Loc) (ls : Array Slot), L_X6_tunes_24 a1 k N v2 v3 v4 w = some (r, w') → Iv n sh D cA ad A s.heap w H locs → lv_has ls 6 [(0, .ref (ad 0)), (1, .int a1), (2, .int v2), (3, .int v3), (4, .int v4)] → W p l e ({ frames := 7, cells := 0, slots := 0, locals := 158 } : Room) s m args below meth c H locs 0 0 (QM n sh D cA ad A below args s (some (.int r)) w') (F0 m 24 ls []) := by
  obtain ⟨hx, hb, -, -, hown, hg, -, -, -, -, hA⟩ := id G
  intro N
  induction N with
  | zero =>
    intro v2 v3 v4 w H locs ls hF hI hl
    cases hF
  | succ N ih =>
    intro v2 v3 v4 w H locs ls hF hI hl
    rw [L_X6_tunes_24] at hF
    refine lv_iload hx hb dX6_tunes_24 (lv_at hl 4 rfl) ?_
    refine lv_bipush (v := (20 : Int32)) hx hb dX6_tunes_26 (by decide) ?_
    refine lv_icmp_gt (tgt := 61) hx hb dX6_tunes_28 (by decide) (fun c8 => ?_) (fun c8 => ?_)
    · replace hF := itp c8 hF
      exact hk _ _ _ _ _ hF hI (lv_sub hl [2] rfl)
    · replace hF := itn c8 hF
      refine lv_aload_n hx hb dX6_tunes_31 rfl (lv_at hl 0 rfl) ?_
      refine lv_iload_n hx hb dX6_tunes_32 rfl (lv_at hl 1 rfl) ?_
      refine lv_iload hx hb dX6_tunes_33 (lv_at hl 4 rfl) ?_
      refine lv_iload_n hx hb dX6_tunes_35 rfl (lv_at hl 3 rfl) ?_
      obtain ⟨r5, w4, z6, hF⟩ := bd_some hF
      refine n_Vi (rest := []) G hI (c_X6_stepsToSettle hA h0 z6) my_X6_stepsToSettle kl_X6_231 (isX6.lt h0) (isX6.sh h0) rfl ⟨Nat.le_of_ble_eq_true rfl, Nat.le_of_ble_eq_true rfl⟩ rfl hl.1 rfl (Nat.le_of_ble_eq_true rfl) dX6_tunes_36 (fun H locs hI => ?_)
      refine lv_istore (lv' := [(5, .int r5), (0, .ref (ad 0)), (1, .int a1), (2, .int v2), (3, .int v3), (4, .int v4)]) hx hb dX6_tunes_39 hl (by decide) rfl (fun ls hl => ?_)
      refine lv_iload hx hb dX6_tunes_41 (lv_at hl 0 rfl) ?_
      refine lv_iconst (v := (-1 : Int32)) hx hb dX6_tunes_43 (by decide) ?_
      refine lv_icmp_eq (tgt := 55) hx hb dX6_tunes_44 (by decide) (fun c7 => ?_) (fun c7 => ?_)
      · replace hF := itp c7 hF
        refine lv_iinc (v := (v4 + (1 : Int32))) (lv' := [(4, .int (v4 + (1 : Int32))), (5, .int r5), (0, .ref (ad 0)), (1, .int a1), (2, .int v2), (3, .int v3)]) hx hb dX6_tunes_55 hl (k := 5) rfl rfl (by decide) rfl (fun ls hl => ?_)
        refine lv_goto (tgt := 24) hx hb dX6_tunes_58 (by decide) ?_
        exact ih _ _ _ _ _ _ _ hF hI (lv_sub hl [2, 3, 4, 5, 0] rfl)
      · replace hF := itn c7 hF
        refine lv_iload hx hb dX6_tunes_47 (lv_at hl 5 rfl) ?_
        refine lv_istore_n (lv' := [(2, .int v4), (5, .int r5), (0, .ref (ad 0)), (1, .int a1), (3, .int v3), (4, .int v4)]) hx hb dX6_tunes_49 rfl hl (by decide) rfl (fun ls hl => ?_)
        refine lv_iload hx hb dX6_tunes_50 (lv_at hl 1 rfl) ?_
        refine lv_iconst (v := (1 : Int32)) hx hb dX6_tunes_52 (by decide) ?_
        refine lv_isub hx hb dX6_tunes_53 ?_
        refine lv_istore_n (lv' := [(3, .int (r5 - (1 : Int32))), (2, .int v4), (5, .int r5), (0, .ref (ad 0)), (1, .int a1), (4, .int v4)]) hx hb dX6_tunes_54 rfl hl (by decide) rfl (fun ls hl => ?_)
        refine lv_iinc (v := (v4 + (1 : Int32))) (lv' := [(4, .int (v4 + (1 : Int32))), (3, .int (r5 - (1 : Int32))), (2, .int v4), (5, .int r5), (0, .ref (ad 0)), (1, .int a1)]) hx hb dX6_tunes_55 hl (k := 5) rfl rfl (by decide) rfl (fun ls hl => ?_)
        refine lv_goto (tgt := 24) hx hb dX6_tunes_58 (by decide) ?_
        exact ih _ _ _ _ _ _ _ hF hI (lv_sub hl [4, 5, 2, 1, 0] rfl)
set_option maxHeartbeats 4000000 in
theorem c_X6_tunes (hA : AdOk n ad A) (h0 : isX6 n sh 0) {a1 : Int32} {w w' : Mem} {r : Int32} (hF : F_X6_tunes a1 w = some (r, w')) : Ctr l n sh D cA ad A sa yX6_tunes cX6_tunes 6 (some .int) 7 158 [.ref (ad 0), .int a1] w (some (.int r)) w' := by
  refine m_enter hA (by decide) (Nat.le_of_ble_eq_true rfl) ?_
  intro p e s m args below meth c ls G hI hl
  replace hl : lv_has ls 6 [(0, .ref (ad 0)), (1, .int a1)] := hl
  replace G : Mx n D cA ad A sa p s m args meth c RX6 cX6_tunes 6 (some .int) := G
  obtain ⟨hx, hb, -, -, hown, hg, -⟩ := id G
  unfold F_X6_tunes at hF
  refine lv_iload_n hx hb dX6_tunes_0 rfl (lv_at hl 1 rfl) ?_
  refine lv_iconst (v := (0 : Int32)) hx hb dX6_tunes_1 (by decide) ?_
  refine lv_sipush (v := (500 : Int32)) hx hb dX6_tunes_2 (by decide) ?_
  obtain ⟨r2, w1, z3, hF⟩ := bd_some hF
  refine n_Si (rest := []) G hI (c_X6_within hA  z3) my_X6_within kl_X6_56 ⟨Nat.le_of_ble_eq_true rfl, Nat.le_of_ble_eq_true rfl⟩ rfl hl.1 rfl (Nat.le_of_ble_eq_true rfl) dX6_tunes_5 (fun H locs hI => ?_)
  refine lv_if_ne (tgt := 16) hx hb dX6_tunes_8 (by decide) (fun c14 => ?_) (fun c14 => ?_)
  · replace hF := itn c14 hF
    refine lv_iconst (v := (-1 : Int32)) hx hb dX6_tunes_16 (by decide) ?_
    refine lv_istore_n (lv' := [(2, .int (-1 : Int32)), (0, .ref (ad 0)), (1, .int a1)]) hx hb dX6_tunes_17 rfl hl (by decide) rfl (fun ls hl => ?_)
    refine lv_bipush (v := (60 : Int32)) hx hb dX6_tunes_18 (by decide) ?_
    refine lv_istore_n (lv' := [(3, .int (60 : Int32)), (2, .int (-1 : Int32)), (0, .ref (ad 0)), (1, .int a1)]) hx hb dX6_tunes_20 rfl hl (by decide) rfl (fun ls hl => ?_)
    refine lv_iconst (v := (0 : Int32)) hx hb dX6_tunes_21 (by decide) ?_
    refine lv_istore (lv' := [(4, .int (0 : Int32)), (3, .int (60 : Int32)), (2, .int (-1 : Int32)), (0, .ref (ad 0)), (1, .int a1)]) hx hb dX6_tunes_22 hl (by decide) rfl (fun ls hl => ?_)
    refine l_X6_tunes_24 G h0 (fun x10 w9 H locs ls hF hI hl => ?_) _ _ _ _ _ _ _ _ hF hI (lv_sub hl [3, 4, 2, 1, 0] rfl)
    refine lv_iload_n hx hb dX6_tunes_61 rfl (lv_at hl 0 rfl) ?_
    exact n_iret G hI hF rfl dX6_tunes_62
  · replace hF := itp c14 hF
    refine lv_aload_n hx hb dX6_tunes_11 rfl (lv_at hl 0 rfl) ?_
    obtain ⟨r12, w11, z13, hF⟩ := bd_some hF
    refine n_Vi (rest := []) G hI (c_X6_refuseBad hA h0 z13) my_X6_refuseBad kl_X6_66 (isX6.lt h0) (isX6.sh h0) rfl ⟨Nat.le_of_ble_eq_true rfl, Nat.le_of_ble_eq_true rfl⟩ rfl hl.1 rfl (Nat.le_of_ble_eq_true rfl) dX6_tunes_12 (fun H locs hI => ?_)
    exact n_iret G hI hF rfl dX6_tunes_15
set_option maxHeartbeats 4000000 in
theorem c_X6_state (hA : AdOk n ad A) (h0 : isX6 n sh 0) {a1 : Int32} {a2 : Int32} {w w' : Mem} {r : Int32} (hF : F_X6_state a1 a2 w = some (r, w')) : Ctr l n sh D cA ad A sa yX6_state cX6_state 3 (some .int) 2 42 [.ref (ad 0), .int a1, .int a2] w (some (.int r)) w' := by
  refine m_enter hA (by decide) (Nat.le_of_ble_eq_true rfl) ?_
  intro p e s m args below meth c ls G hI hl
  replace hl : lv_has ls 3 [(0, .ref (ad 0)), (1, .int a1), (2, .int a2)] := hl
  replace G : Mx n D cA ad A sa p s m args meth c RX6 cX6_state 3 (some .int) := G
  obtain ⟨hx, hb, -, -, hown, hg, -⟩ := id G
  unfold F_X6_state at hF
  refine lv_iload_n hx hb dX6_state_0 rfl (lv_at hl 1 rfl) ?_
  obtain ⟨r2, w1, z3, hF⟩ := bd_some hF
  refine n_Si (rest := []) G hI (c_X6_isLeg hA  z3) my_X6_isLeg kl_X6_73 ⟨Nat.le_of_ble_eq_true rfl, Nat.le_of_ble_eq_true rfl⟩ rfl hl.1 rfl (Nat.le_of_ble_eq_true rfl) dX6_state_1 (fun H locs hI => ?_)
  refine lv_if_ne (tgt := 12) hx hb dX6_state_4 (by decide) (fun c18 => ?_) (fun c18 => ?_)
  · replace hF := itn c18 hF
    refine lv_iload_n hx hb dX6_state_12 rfl (lv_at hl 2 rfl) ?_
    by_cases c11 : a2 = (0 : Int32)
    · replace hF := itp c11 hF
      refine lv_tableIn (tgt := 44) hx hb dX6_state_13 (by rw [c11]; decide) (by rw [c11]; decide) (by rw [c11]; rfl) (by decide) ?_
      refine lv_aload_n hx hb dX6_state_44 rfl (lv_at hl 0 rfl) ?_
      refine gf_X6_10 G hI h0 dX6_state_45 ?_
      refine gf_X6_80 G hI (isX6.drive h0) dX6_state_48 ?_
      refine lv_iload_n hx hb dX6_state_51 rfl (lv_at hl 1 rfl) ?_
      obtain ⟨g7, hF⟩ := gd_some hF
      refine n_ald G hI (isX0.current (isX6.drive h0)) g7 dX6_state_52 ?_
      exact n_iret G hI hF rfl dX6_state_53
    · replace hF := itn c11 hF
      by_cases c12 : a2 = (1 : Int32)
      · replace hF := itp c12 hF
        refine lv_tableIn (tgt := 54) hx hb dX6_state_13 (by rw [c12]; decide) (by rw [c12]; decide) (by rw [c12]; rfl) (by decide) ?_
        refine lv_aload_n hx hb dX6_state_54 rfl (lv_at hl 0 rfl) ?_
        refine gf_X6_10 G hI h0 dX6_state_55 ?_
        refine gf_X6_77 G hI (isX6.drive h0) dX6_state_58 ?_
        refine lv_iload_n hx hb dX6_state_61 rfl (lv_at hl 1 rfl) ?_
        obtain ⟨g8, hF⟩ := gd_some hF
        refine n_ald G hI (isX0.demand (isX6.drive h0)) g8 dX6_state_62 ?_
        exact n_iret G hI hF rfl dX6_state_63
      · replace hF := itn c12 hF
        by_cases c13 : a2 = (2 : Int32)
        · replace hF := itp c13 hF
          refine lv_tableIn (tgt := 64) hx hb dX6_state_13 (by rw [c13]; decide) (by rw [c13]; decide) (by rw [c13]; rfl) (by decide) ?_
          refine lv_aload_n hx hb dX6_state_64 rfl (lv_at hl 0 rfl) ?_
          refine gf_X6_10 G hI h0 dX6_state_65 ?_
          refine gf_X6_234 G hI (isX6.drive h0) dX6_state_68 ?_
          refine lv_iload_n hx hb dX6_state_71 rfl (lv_at hl 1 rfl) ?_
          obtain ⟨g9, hF⟩ := gd_some hF
          refine n_ald G hI (isX0.want (isX6.drive h0)) g9 dX6_state_72 ?_
          exact n_iret G hI hF rfl dX6_state_73
        · replace hF := itn c13 hF
          by_cases c14 : a2 = (3 : Int32)
          · replace hF := itp c14 hF
            refine lv_tableIn (tgt := 74) hx hb dX6_state_13 (by rw [c14]; decide) (by rw [c14]; decide) (by rw [c14]; rfl) (by decide) ?_
            refine lv_aload_n hx hb dX6_state_74 rfl (lv_at hl 0 rfl) ?_
            refine gf_X6_10 G hI h0 dX6_state_75 ?_
            refine gf_X6_237 G hI (isX6.drive h0) dX6_state_78 ?_
            refine lv_iload_n hx hb dX6_state_81 rfl (lv_at hl 1 rfl) ?_
            obtain ⟨g10, hF⟩ := gd_some hF
            refine n_ald G hI (isX0.sum (isX6.drive h0)) g10 dX6_state_82 ?_
            exact n_iret G hI hF rfl dX6_state_83
          · replace hF := itn c14 hF
            refine lv_tableOut (tgt := 84) hx hb dX6_state_13 (by have q0 := lv_neT (a := 0) c11 (by decide); have q1 := lv_neT (a := 1) c12 (by decide); have q2 := lv_neT (a := 2) c13 (by decide); have q3 := lv_neT (a := 3) c14 (by decide); omega) (by decide) ?_
            refine lv_aload_n hx hb dX6_state_84 rfl (lv_at hl 0 rfl) ?_
            obtain ⟨r5, w4, z6, hF⟩ := bd_some hF
            refine n_Vi (rest := []) G hI (c_X6_refuseBad hA h0 z6) my_X6_refuseBad kl_X6_66 (isX6.lt h0) (isX6.sh h0) rfl ⟨Nat.le_of_ble_eq_true rfl, Nat.le_of_ble_eq_true rfl⟩ rfl hl.1 rfl (Nat.le_of_ble_eq_true rfl) dX6_state_85 (fun H locs hI => ?_)
            exact n_iret G hI hF rfl dX6_state_88
  · replace hF := itp c18 hF
    refine lv_aload_n hx hb dX6_state_7 rfl (lv_at hl 0 rfl) ?_
    obtain ⟨r16, w15, z17, hF⟩ := bd_some hF
    refine n_Vi (rest := []) G hI (c_X6_refuseBad hA h0 z17) my_X6_refuseBad kl_X6_66 (isX6.lt h0) (isX6.sh h0) rfl ⟨Nat.le_of_ble_eq_true rfl, Nat.le_of_ble_eq_true rfl⟩ rfl hl.1 rfl (Nat.le_of_ble_eq_true rfl) dX6_state_8 (fun H locs hI => ?_)
    exact n_iret G hI hF rfl dX6_state_11
set_option maxHeartbeats 4000000 in
theorem c_X6_memory (hA : AdOk n ad A) (h0 : isX6 n sh 0) {a1 : Int32} {a2 : Int32} {w w' : Mem} {r : Int32} (hF : F_X6_memory a1 a2 w = some (r, w')) : Ctr l n sh D cA ad A sa yX6_memory cX6_memory 3 (some .int) 2 45 [.ref (ad 0), .int a1, .int a2] w (some (.int r)) w' := by
  refine m_enter hA (by decide) (Nat.le_of_ble_eq_true rfl) ?_
  intro p e s m args below meth c ls G hI hl
  replace hl : lv_has ls 3 [(0, .ref (ad 0)), (1, .int a1), (2, .int a2)] := hl
  replace G : Mx n D cA ad A sa p s m args meth c RX6 cX6_memory 3 (some .int) := G
  obtain ⟨hx, hb, -, -, hown, hg, -⟩ := id G
  unfold F_X6_memory at hF
  refine lv_iload_n hx hb dX6_memory_0 rfl (lv_at hl 1 rfl) ?_
  refine lv_if_lt (tgt := 13) hx hb dX6_memory_1 (by decide) (fun c14 => ?_) (fun c14 => ?_)
  · replace hF := itp c14 hF
    refine lv_aload_n hx hb dX6_memory_13 rfl (lv_at hl 0 rfl) ?_
    obtain ⟨r2, w1, z3, hF⟩ := bd_some hF
    refine n_Vi (rest := []) G hI (c_X6_refuseBad hA h0 z3) my_X6_refuseBad kl_X6_66 (isX6.lt h0) (isX6.sh h0) rfl ⟨Nat.le_of_ble_eq_true rfl, Nat.le_of_ble_eq_true rfl⟩ rfl hl.1 rfl (Nat.le_of_ble_eq_true rfl) dX6_memory_14 (fun H locs hI => ?_)
    exact n_iret G hI hF rfl dX6_memory_17
  · replace hF := itn c14 hF
    refine lv_iload_n hx hb dX6_memory_4 rfl (lv_at hl 2 rfl) ?_
    refine lv_iconst (v := (0 : Int32)) hx hb dX6_memory_5 (by decide) ?_
    refine lv_iconst (v := (3 : Int32)) hx hb dX6_memory_6 (by decide) ?_
    obtain ⟨r5, w4, z6, hF⟩ := bd_some hF
    refine n_Si (rest := []) G hI (c_X6_within hA  z6) my_X6_within kl_X6_56 ⟨Nat.le_of_ble_eq_true rfl, Nat.le_of_ble_eq_true rfl⟩ rfl hl.1 rfl (Nat.le_of_ble_eq_true rfl) dX6_memory_7 (fun H locs hI => ?_)
    refine lv_if_ne (tgt := 18) hx hb dX6_memory_10 (by decide) (fun c13 => ?_) (fun c13 => ?_)
    · replace hF := itn c13 hF
      refine lv_aload_n hx hb dX6_memory_18 rfl (lv_at hl 0 rfl) ?_
      refine gf_X6_42 G hI h0 dX6_memory_19 ?_
      refine lv_sipush (v := (-1000 : Int32)) hx hb dX6_memory_22 (by decide) ?_
      refine lv_aload_n hx hb dX6_memory_25 rfl (lv_at hl 0 rfl) ?_
      refine gf_X6_42 G hI h0 dX6_memory_26 ?_
      refine gf_X6_132 G hI (isX6.remembered h0) dX6_memory_29 ?_
      refine lv_iconst (v := (1 : Int32)) hx hb dX6_memory_32 (by decide) ?_
      refine lv_isub hx hb dX6_memory_33 ?_
      refine lv_iload_n hx hb dX6_memory_34 rfl (lv_at hl 1 rfl) ?_
      refine lv_isub hx hb dX6_memory_35 ?_
      refine lv_iload_n hx hb dX6_memory_36 rfl (lv_at hl 2 rfl) ?_
      obtain ⟨r8, w7, z9, hF⟩ := bd_some hF
      refine n_Vi (rest := []) G hI (c_X4_cellOr hA (isX6.remembered h0) z9) my_X4_cellOr kl_X6_166 (isX4.lt (isX6.remembered h0)) (isX4.sh (isX6.remembered h0)) rfl ⟨Nat.le_of_ble_eq_true rfl, Nat.le_of_ble_eq_true rfl⟩ rfl hl.1 rfl (Nat.le_of_ble_eq_true rfl) dX6_memory_37 (fun H locs hI => ?_)
      exact n_iret G hI hF rfl dX6_memory_40
    · replace hF := itp c13 hF
      refine lv_aload_n hx hb dX6_memory_13 rfl (lv_at hl 0 rfl) ?_
      obtain ⟨r11, w10, z12, hF⟩ := bd_some hF
      refine n_Vi (rest := []) G hI (c_X6_refuseBad hA h0 z12) my_X6_refuseBad kl_X6_66 (isX6.lt h0) (isX6.sh h0) rfl ⟨Nat.le_of_ble_eq_true rfl, Nat.le_of_ble_eq_true rfl⟩ rfl hl.1 rfl (Nat.le_of_ble_eq_true rfl) dX6_memory_14 (fun H locs hI => ?_)
      exact n_iret G hI hF rfl dX6_memory_17
set_option maxHeartbeats 4000000 in
theorem c_X6_over (hA : AdOk n ad A) (h0 : isX6 n sh 0) {a1 : Int32} {a2 : Int32} {w w' : Mem} {r : Int32} (hF : F_X6_over a1 a2 w = some (r, w')) : Ctr l n sh D cA ad A sa yX6_over cX6_over 3 (some .int) 3 69 [.ref (ad 0), .int a1, .int a2] w (some (.int r)) w' := by
  refine m_enter hA (by decide) (Nat.le_of_ble_eq_true rfl) ?_
  intro p e s m args below meth c ls G hI hl
  replace hl : lv_has ls 3 [(0, .ref (ad 0)), (1, .int a1), (2, .int a2)] := hl
  replace G : Mx n D cA ad A sa p s m args meth c RX6 cX6_over 3 (some .int) := G
  obtain ⟨hx, hb, -, -, hown, hg, -⟩ := id G
  unfold F_X6_over at hF
  refine lv_iload_n hx hb dX6_over_0 rfl (lv_at hl 1 rfl) ?_
  obtain ⟨r2, w1, z3, hF⟩ := bd_some hF
  refine n_Si (rest := []) G hI (c_X6_isLeg hA  z3) my_X6_isLeg kl_X6_73 ⟨Nat.le_of_ble_eq_true rfl, Nat.le_of_ble_eq_true rfl⟩ rfl hl.1 rfl (Nat.le_of_ble_eq_true rfl) dX6_over_1 (fun H locs hI => ?_)
  refine lv_if_ne (tgt := 12) hx hb dX6_over_4 (by decide) (fun c22 => ?_) (fun c22 => ?_)
  · replace hF := itn c22 hF
    refine lv_iload_n hx hb dX6_over_12 rfl (lv_at hl 2 rfl) ?_
    by_cases c16 : a2 = (0 : Int32)
    · replace hF := itp c16 hF
      refine lv_tableIn (tgt := 40) hx hb dX6_over_13 (by rw [c16]; decide) (by rw [c16]; decide) (by rw [c16]; rfl) (by decide) ?_
      refine lv_aload_n hx hb dX6_over_40 rfl (lv_at hl 0 rfl) ?_
      refine gf_X6_42 G hI h0 dX6_over_41 ?_
      refine lv_sipush (v := (-1000 : Int32)) hx hb dX6_over_44 (by decide) ?_
      refine lv_iload_n hx hb dX6_over_47 rfl (lv_at hl 1 rfl) ?_
      obtain ⟨r8, w7, z9, hF⟩ := bd_some hF
      refine n_Vi (rest := []) G hI (c_X4_greatestOr hA (isX6.remembered h0) z9) my_X4_greatestOr kl_X6_240 (isX4.lt (isX6.remembered h0)) (isX4.sh (isX6.remembered h0)) rfl ⟨Nat.le_of_ble_eq_true rfl, Nat.le_of_ble_eq_true rfl⟩ rfl hl.1 rfl (Nat.le_of_ble_eq_true rfl) dX6_over_48 (fun H locs hI => ?_)
      exact n_iret G hI hF rfl dX6_over_51
    · replace hF := itn c16 hF
      by_cases c17 : a2 = (1 : Int32)
      · replace hF := itp c17 hF
        refine lv_tableIn (tgt := 52) hx hb dX6_over_13 (by rw [c17]; decide) (by rw [c17]; decide) (by rw [c17]; rfl) (by decide) ?_
        refine lv_aload_n hx hb dX6_over_52 rfl (lv_at hl 0 rfl) ?_
        refine gf_X6_42 G hI h0 dX6_over_53 ?_
        refine lv_sipush (v := (-1000 : Int32)) hx hb dX6_over_56 (by decide) ?_
        refine lv_iload_n hx hb dX6_over_59 rfl (lv_at hl 1 rfl) ?_
        obtain ⟨r11, w10, z12, hF⟩ := bd_some hF
        refine n_Vi (rest := []) G hI (c_X4_leastOr hA (isX6.remembered h0) z12) my_X4_leastOr kl_X6_244 (isX4.lt (isX6.remembered h0)) (isX4.sh (isX6.remembered h0)) rfl ⟨Nat.le_of_ble_eq_true rfl, Nat.le_of_ble_eq_true rfl⟩ rfl hl.1 rfl (Nat.le_of_ble_eq_true rfl) dX6_over_60 (fun H locs hI => ?_)
        exact n_iret G hI hF rfl dX6_over_63
      · replace hF := itn c17 hF
        by_cases c18 : a2 = (2 : Int32)
        · replace hF := itp c18 hF
          refine lv_tableIn (tgt := 64) hx hb dX6_over_13 (by rw [c18]; decide) (by rw [c18]; decide) (by rw [c18]; rfl) (by decide) ?_
          refine lv_aload_n hx hb dX6_over_64 rfl (lv_at hl 0 rfl) ?_
          refine gf_X6_42 G hI h0 dX6_over_65 ?_
          refine lv_sipush (v := (-1000 : Int32)) hx hb dX6_over_68 (by decide) ?_
          refine lv_iconst (v := (3 : Int32)) hx hb dX6_over_71 (by decide) ?_
          obtain ⟨r14, w13, z15, hF⟩ := bd_some hF
          refine n_Vi (rest := []) G hI (c_X4_totalOr hA (isX6.remembered h0) z15) my_X4_totalOr kl_X6_247 (isX4.lt (isX6.remembered h0)) (isX4.sh (isX6.remembered h0)) rfl ⟨Nat.le_of_ble_eq_true rfl, Nat.le_of_ble_eq_true rfl⟩ rfl hl.1 rfl (Nat.le_of_ble_eq_true rfl) dX6_over_72 (fun H locs hI => ?_)
          exact n_iret G hI hF rfl dX6_over_75
        · replace hF := itn c18 hF
          refine lv_tableOut (tgt := 76) hx hb dX6_over_13 (by have q0 := lv_neT (a := 0) c16 (by decide); have q1 := lv_neT (a := 1) c17 (by decide); have q2 := lv_neT (a := 2) c18 (by decide); omega) (by decide) ?_
          refine lv_aload_n hx hb dX6_over_76 rfl (lv_at hl 0 rfl) ?_
          obtain ⟨r5, w4, z6, hF⟩ := bd_some hF
          refine n_Vi (rest := []) G hI (c_X6_refuseBad hA h0 z6) my_X6_refuseBad kl_X6_66 (isX6.lt h0) (isX6.sh h0) rfl ⟨Nat.le_of_ble_eq_true rfl, Nat.le_of_ble_eq_true rfl⟩ rfl hl.1 rfl (Nat.le_of_ble_eq_true rfl) dX6_over_77 (fun H locs hI => ?_)
          exact n_iret G hI hF rfl dX6_over_80
  · replace hF := itp c22 hF
    refine lv_aload_n hx hb dX6_over_7 rfl (lv_at hl 0 rfl) ?_
    obtain ⟨r20, w19, z21, hF⟩ := bd_some hF
    refine n_Vi (rest := []) G hI (c_X6_refuseBad hA h0 z21) my_X6_refuseBad kl_X6_66 (isX6.lt h0) (isX6.sh h0) rfl ⟨Nat.le_of_ble_eq_true rfl, Nat.le_of_ble_eq_true rfl⟩ rfl hl.1 rfl (Nat.le_of_ble_eq_true rfl) dX6_over_8 (fun H locs hI => ?_)
    exact n_iret G hI hF rfl dX6_over_11
set_option maxHeartbeats 4000000 in
theorem c_X6_type (hA : AdOk n ad A) (h0 : isX6 n sh 0) {a1 : Int32} {w w' : Mem} {r : Int32} (hF : F_X6_type a1 w = some (r, w')) : Ctr l n sh D cA ad A sa yX6_type cX6_type 2 (some .int) 1 22 [.ref (ad 0), .int a1] w (some (.int r)) w' := by
  refine m_enter hA (by decide) (Nat.le_of_ble_eq_true rfl) ?_
  intro p e s m args below meth c ls G hI hl
  replace hl : lv_has ls 2 [(0, .ref (ad 0)), (1, .int a1)] := hl
  replace G : Mx n D cA ad A sa p s m args meth c RX6 cX6_type 2 (some .int) := G
  obtain ⟨hx, hb, -, -, hown, hg, -⟩ := id G
  unfold F_X6_type at hF
  refine lv_iload_n hx hb dX6_type_0 rfl (lv_at hl 1 rfl) ?_
  refine lv_iconst (v := (0 : Int32)) hx hb dX6_type_1 (by decide) ?_
  refine lv_bipush (v := (127 : Int32)) hx hb dX6_type_2 (by decide) ?_
  obtain ⟨r2, w1, z3, hF⟩ := bd_some hF
  refine n_Si (rest := []) G hI (c_X6_within hA  z3) my_X6_within kl_X6_56 ⟨Nat.le_of_ble_eq_true rfl, Nat.le_of_ble_eq_true rfl⟩ rfl hl.1 rfl (Nat.le_of_ble_eq_true rfl) dX6_type_4 (fun H locs hI => ?_)
  refine lv_if_ne (tgt := 15) hx hb dX6_type_7 (by decide) (fun c14 => ?_) (fun c14 => ?_)
  · replace hF := itn c14 hF
    refine lv_aload_n hx hb dX6_type_15 rfl (lv_at hl 0 rfl) ?_
    refine gf_X6_48 G hI h0 dX6_type_16 ?_
    refine gf_X6_250 G hI (isX6.text h0) dX6_type_19 ?_
    refine lv_bipush (v := (120 : Int32)) hx hb dX6_type_22 (by decide) ?_
    refine lv_icmp_lt (tgt := 32) hx hb dX6_type_24 (by decide) (fun c10 => ?_) (fun c10 => ?_)
    · replace hF := itp c10 hF
      refine lv_aload_n hx hb dX6_type_32 rfl (lv_at hl 0 rfl) ?_
      refine gf_X6_48 G hI h0 dX6_type_33 ?_
      refine lv_iload_n hx hb dX6_type_36 rfl (lv_at hl 1 rfl) ?_
      obtain ⟨r5, w4, z6, hF⟩ := bd_some hF
      refine n_Vv (rest := []) G hI (c_X5_append hA (isX6.text h0) z6) my_X5_append kl_X6_253 (isX5.lt (isX6.text h0)) (isX5.sh (isX6.text h0)) rfl ⟨Nat.le_of_ble_eq_true rfl, Nat.le_of_ble_eq_true rfl⟩ rfl hl.1 rfl (Nat.le_of_ble_eq_true rfl) dX6_type_37 (fun H locs hI => ?_)
      refine lv_aload_n hx hb dX6_type_40 rfl (lv_at hl 0 rfl) ?_
      refine gf_X6_48 G hI h0 dX6_type_41 ?_
      refine gf_X6_250 G hI (isX6.text h0) dX6_type_44 ?_
      exact n_iret G hI hF rfl dX6_type_47
    · replace hF := itn c10 hF
      refine lv_aload_n hx hb dX6_type_27 rfl (lv_at hl 0 rfl) ?_
      obtain ⟨r8, w7, z9, hF⟩ := bd_some hF
      refine n_Vi (rest := []) G hI (c_X6_refuseFull hA h0 z9) my_X6_refuseFull kl_X6_215 (isX6.lt h0) (isX6.sh h0) rfl ⟨Nat.le_of_ble_eq_true rfl, Nat.le_of_ble_eq_true rfl⟩ rfl hl.1 rfl (Nat.le_of_ble_eq_true rfl) dX6_type_28 (fun H locs hI => ?_)
      exact n_iret G hI hF rfl dX6_type_31
  · replace hF := itp c14 hF
    refine lv_aload_n hx hb dX6_type_10 rfl (lv_at hl 0 rfl) ?_
    obtain ⟨r12, w11, z13, hF⟩ := bd_some hF
    refine n_Vi (rest := []) G hI (c_X6_refuseBad hA h0 z13) my_X6_refuseBad kl_X6_66 (isX6.lt h0) (isX6.sh h0) rfl ⟨Nat.le_of_ble_eq_true rfl, Nat.le_of_ble_eq_true rfl⟩ rfl hl.1 rfl (Nat.le_of_ble_eq_true rfl) dX6_type_11 (fun H locs hI => ?_)
    exact n_iret G hI hF rfl dX6_type_14
set_option maxHeartbeats 4000000 in
theorem c_X6_clear (hA : AdOk n ad A) (h0 : isX6 n sh 0) {w w' : Mem} {r : Int32} (hF : F_X6_clear  w = some (r, w')) : Ctr l n sh D cA ad A sa yX6_clear cX6_clear 2 (some .int) 0 0 [.ref (ad 0)] w (some (.int r)) w' := by
  refine m_enter hA (by decide) (Nat.le_of_ble_eq_true rfl) ?_
  intro p e s m args below meth c ls G hI hl
  replace hl : lv_has ls 2 [(0, .ref (ad 0))] := hl
  replace G : Mx n D cA ad A sa p s m args meth c RX6 cX6_clear 2 (some .int) := G
  obtain ⟨hx, hb, -, -, hown, hg, -⟩ := id G
  unfold F_X6_clear at hF
  refine lv_aload_n hx hb dX6_clear_0 rfl (lv_at hl 0 rfl) ?_
  refine gf_X6_48 G hI h0 dX6_clear_1 ?_
  refine gf_X6_250 G hI (isX6.text h0) dX6_clear_4 ?_
  refine lv_istore_n (lv' := [(1, .int (w 41 2)), (0, .ref (ad 0))]) hx hb dX6_clear_7 rfl hl (by decide) rfl (fun ls hl => ?_)
  refine lv_aload_n hx hb dX6_clear_8 rfl (lv_at hl 1 rfl) ?_
  refine gf_X6_48 G hI h0 dX6_clear_9 ?_
  refine lv_iconst (v := (0 : Int32)) hx hb dX6_clear_12 (by decide) ?_
  obtain ⟨w1, ew1, hF⟩ := lt_some hF
  refine pf_X6_250 G hI (isX6.text h0) dX6_clear_13 (fun H locs hI => ?_)
  replace hI : Iv n sh D cA ad A s.heap w1 H locs := by rw [ew1]; exact hI
  refine lv_iload_n hx hb dX6_clear_16 rfl (lv_at hl 0 rfl) ?_
  exact n_iret G hI hF rfl dX6_clear_17
set_option maxHeartbeats 4000000 in
theorem c_X6_reads (hA : AdOk n ad A) (h0 : isX6 n sh 0) {w w' : Mem} {r : Int32} (hF : F_X6_reads  w = some (r, w')) : Ctr l n sh D cA ad A sa yX6_reads cX6_reads 3 (some .int) 6 134 [.ref (ad 0)] w (some (.int r)) w' := by
  refine m_enter hA (by decide) (Nat.le_of_ble_eq_true rfl) ?_
  intro p e s m args below meth c ls G hI hl
  replace hl : lv_has ls 3 [(0, .ref (ad 0))] := hl
  replace G : Mx n D cA ad A sa p s m args meth c RX6 cX6_reads 3 (some .int) := G
  obtain ⟨hx, hb, -, -, hown, hg, -⟩ := id G
  unfold F_X6_reads at hF
  refine lv_bipush (v := (12 : Int32)) hx hb dX6_reads_0 (by decide) ?_
  refine lv_aload_n hx hb dX6_reads_2 rfl (lv_at hl 0 rfl) ?_
  refine gf_X6_10 G hI h0 dX6_reads_3 ?_
  refine gf_X6_208 G hI (isX6.drive h0) dX6_reads_6 ?_
  refine gf_X6_132 G hI (isX0.wishes (isX6.drive h0)) dX6_reads_9 ?_
  refine lv_isub hx hb dX6_reads_12 ?_
  refine lv_istore_n (lv' := [(1, .int ((12 : Int32) - (w 7 2))), (0, .ref (ad 0))]) hx hb dX6_reads_13 rfl hl (by decide) rfl (fun ls hl => ?_)
  refine lv_aload_n hx hb dX6_reads_14 rfl (lv_at hl 1 rfl) ?_
  refine gf_X6_48 G hI h0 dX6_reads_15 ?_
  refine lv_iload_n hx hb dX6_reads_18 rfl (lv_at hl 0 rfl) ?_
  refine lv_aload_n hx hb dX6_reads_19 rfl (lv_at hl 1 rfl) ?_
  refine gf_X6_10 G hI h0 dX6_reads_20 ?_
  refine gf_X6_83 G hI (isX6.drive h0) dX6_reads_23 ?_
  refine lv_sipush (v := (999 : Int32)) hx hb dX6_reads_26 (by decide) ?_
  refine n_min G kl_X6_256 (Nat.le_of_ble_eq_true rfl) (Nat.le_of_ble_eq_true rfl) hl.1 dX6_reads_29 ?_
  obtain ⟨r2, w1, z3, hF⟩ := bd_some hF
  refine n_Vi (rest := []) G hI (c_X5_faultOfWishes hA (isX6.text h0) z3) my_X5_faultOfWishes kl_X6_261 (isX5.lt (isX6.text h0)) (isX5.sh (isX6.text h0)) rfl ⟨Nat.le_of_ble_eq_true rfl, Nat.le_of_ble_eq_true rfl⟩ rfl hl.1 rfl (Nat.le_of_ble_eq_true rfl) dX6_reads_32 (fun H locs hI => ?_)
  refine lv_istore_n (lv' := [(2, .int r2), (1, .int ((12 : Int32) - (w 7 2))), (0, .ref (ad 0))]) hx hb dX6_reads_35 rfl hl (by decide) rfl (fun ls hl => ?_)
  refine lv_iload_n hx hb dX6_reads_36 rfl (lv_at hl 0 rfl) ?_
  refine lv_iconst (v := (-1 : Int32)) hx hb dX6_reads_37 (by decide) ?_
  refine lv_icmp_eq (tgt := 46) hx hb dX6_reads_38 (by decide) (fun c7 => ?_) (fun c7 => ?_)
  · replace hF := itp c7 hF
    refine lv_aload_n hx hb dX6_reads_46 rfl (lv_at hl 2 rfl) ?_
    refine gf_X6_10 G hI h0 dX6_reads_47 ?_
    refine gf_X6_208 G hI (isX6.drive h0) dX6_reads_50 ?_
    refine lv_aload_n hx hb dX6_reads_53 rfl (lv_at hl 2 rfl) ?_
    refine gf_X6_48 G hI h0 dX6_reads_54 ?_
    refine gf_X6_264 G hI (isX6.text h0) dX6_reads_57 ?_
    obtain ⟨r5, w4, z6, hF⟩ := bd_some hF
    refine n_Vv (rest := []) G hI (c_X4_addAll hA (isX0.wishes (isX6.drive h0)) (isX5.wishes (isX6.text h0)) z6) my_X4_addAll kl_X6_265 (isX4.lt (isX0.wishes (isX6.drive h0))) (isX4.sh (isX0.wishes (isX6.drive h0))) rfl ⟨Nat.le_of_ble_eq_true rfl, Nat.le_of_ble_eq_true rfl⟩ rfl hl.1 rfl (Nat.le_of_ble_eq_true rfl) dX6_reads_60 (fun H locs hI => ?_)
    refine lv_aload_n hx hb dX6_reads_63 rfl (lv_at hl 2 rfl) ?_
    refine gf_X6_48 G hI h0 dX6_reads_64 ?_
    refine gf_X6_264 G hI (isX6.text h0) dX6_reads_67 ?_
    refine gf_X6_132 G hI (isX5.wishes (isX6.text h0)) dX6_reads_70 ?_
    exact n_iret G hI hF rfl dX6_reads_73
  · replace hF := itn c7 hF
    refine lv_bipush (v := (-10 : Int32)) hx hb dX6_reads_41 (by decide) ?_
    refine lv_iload_n hx hb dX6_reads_43 rfl (lv_at hl 0 rfl) ?_
    refine lv_isub hx hb dX6_reads_44 ?_
    exact n_iret G hI hF rfl dX6_reads_45
set_option maxHeartbeats 4000000 in
theorem c_X6_countedSetting (hA : AdOk n ad A) (h0 : isX6 n sh 0) {a1 : Int32} {w w' : Mem} {r : Int32} (hF : F_X6_countedSetting a1 w = some (r, w')) : Ctr l n sh D cA ad A sa yX6_countedSetting cX6_countedSetting 2 (some .int) 1 22 [.ref (ad 0), .int a1] w (some (.int r)) w' := by
  refine m_enter hA (by decide) (Nat.le_of_ble_eq_true rfl) ?_
  intro p e s m args below meth c ls G hI hl
  replace hl : lv_has ls 2 [(0, .ref (ad 0)), (1, .int a1)] := hl
  replace G : Mx n D cA ad A sa p s m args meth c RX6 cX6_countedSetting 2 (some .int) := G
  obtain ⟨hx, hb, -, -, hown, hg, -⟩ := id G
  unfold F_X6_countedSetting at hF
  refine lv_iload_n hx hb dX6_countedSetting_0 rfl (lv_at hl 1 rfl) ?_
  refine lv_iconst (v := (0 : Int32)) hx hb dX6_countedSetting_1 (by decide) ?_
  refine lv_bipush (v := (6 : Int32)) hx hb dX6_countedSetting_2 (by decide) ?_
  obtain ⟨r2, w1, z3, hF⟩ := bd_some hF
  refine n_Si (rest := []) G hI (c_X6_within hA  z3) my_X6_within kl_X6_56 ⟨Nat.le_of_ble_eq_true rfl, Nat.le_of_ble_eq_true rfl⟩ rfl hl.1 rfl (Nat.le_of_ble_eq_true rfl) dX6_countedSetting_4 (fun H locs hI => ?_)
  refine lv_if_eq (tgt := 22) hx hb dX6_countedSetting_7 (by decide) (fun c5 => ?_) (fun c5 => ?_)
  · replace hF := itp c5 hF
    refine lv_iconst (v := (-1 : Int32)) hx hb dX6_countedSetting_22 (by decide) ?_
    exact n_iret G hI hF rfl dX6_countedSetting_23
  · replace hF := itn c5 hF
    refine lv_aload_n hx hb dX6_countedSetting_10 rfl (lv_at hl 0 rfl) ?_
    refine gf_X6_10 G hI h0 dX6_countedSetting_11 ?_
    refine gf_X6_70 G hI (isX6.drive h0) dX6_countedSetting_14 ?_
    refine lv_iload_n hx hb dX6_countedSetting_17 rfl (lv_at hl 1 rfl) ?_
    obtain ⟨g4, hF⟩ := gd_some hF
    refine n_ald G hI (isX0.setting (isX6.drive h0)) g4 dX6_countedSetting_18 ?_
    refine lv_goto (tgt := 23) hx hb dX6_countedSetting_19 (by decide) ?_
    exact n_iret G hI hF rfl dX6_countedSetting_23
set_option maxHeartbeats 4000000 in
theorem c_X6_counted (hA : AdOk n ad A) (h0 : isX6 n sh 0) {a1 : Int32} {w w' : Mem} {r : Int32} (hF : F_X6_counted a1 w = some (r, w')) : Ctr l n sh D cA ad A sa yX6_counted cX6_counted 2 (some .int) 2 43 [.ref (ad 0), .int a1] w (some (.int r)) w' := by
  refine m_enter hA (by decide) (Nat.le_of_ble_eq_true rfl) ?_
  intro p e s m args below meth c ls G hI hl
  replace hl : lv_has ls 2 [(0, .ref (ad 0)), (1, .int a1)] := hl
  replace G : Mx n D cA ad A sa p s m args meth c RX6 cX6_counted 2 (some .int) := G
  obtain ⟨hx, hb, -, -, hown, hg, -⟩ := id G
  unfold F_X6_counted at hF
  refine lv_iload_n hx hb dX6_counted_0 rfl (lv_at hl 1 rfl) ?_
  obtain ⟨k1, ek1, hF⟩ := jn_some hF
  have hJ1 : ∀  (H : Heap) (locs : List Loc) (ls : Array Slot), k1  = some (r, w') → Iv n sh D cA ad A s.heap w H locs → lv_has ls 2 [(0, .ref (ad 0)), (1, .int a1)] → W p l e ({ frames := 2, cells := 0, slots := 0, locals := 43 } : Room) s m args below meth c H locs 0 0 (QM n sh D cA ad A below args s (some (.int r)) w') (F0 m 116 ls []) := by
    intro  H locs ls hF hI hl
    replace hF := ek1.symm.trans hF
    refine lv_aload_n hx hb dX6_counted_116 rfl (lv_at hl 0 rfl) ?_
    refine lv_iload_n hx hb dX6_counted_117 rfl (lv_at hl 1 rfl) ?_
    refine lv_iconst (v := (5 : Int32)) hx hb dX6_counted_118 (by decide) ?_
    refine lv_isub hx hb dX6_counted_119 ?_
    obtain ⟨r3, w2, z4, hF⟩ := bd_some hF
    refine n_Vi (rest := []) G hI (c_X6_countedSetting hA h0 z4) my_X6_countedSetting kl_X6_303 (isX6.lt h0) (isX6.sh h0) rfl ⟨Nat.le_of_ble_eq_true rfl, Nat.le_of_ble_eq_true rfl⟩ rfl hl.1 rfl (Nat.le_of_ble_eq_true rfl) dX6_counted_120 (fun H locs hI => ?_)
    exact n_iret G hI hF rfl dX6_counted_123
  by_cases c5 : a1 = (0 : Int32)
  · replace hF := itp c5 hF
    refine lv_tableIn (tgt := 68) hx hb dX6_counted_1 (by rw [c5]; decide) (by rw [c5]; decide) (by rw [c5]; rfl) (by decide) ?_
    refine lv_aload_n hx hb dX6_counted_68 rfl (lv_at hl 0 rfl) ?_
    refine gf_X6_52 G hI h0 dX6_counted_69 ?_
    refine lv_iconst (v := (0 : Int32)) hx hb dX6_counted_72 (by decide) ?_
    refine n_ald G hI (isX6.refused h0) (by decide) dX6_counted_73 ?_
    refine W.eq (g2 := F0 m 74 ls [.int (w 45 0)]) rfl ?_
    exact n_iret G hI hF rfl dX6_counted_74
  · replace hF := itn c5 hF
    by_cases c6 : a1 = (1 : Int32)
    · replace hF := itp c6 hF
      refine lv_tableIn (tgt := 75) hx hb dX6_counted_1 (by rw [c6]; decide) (by rw [c6]; decide) (by rw [c6]; rfl) (by decide) ?_
      refine lv_aload_n hx hb dX6_counted_75 rfl (lv_at hl 0 rfl) ?_
      refine gf_X6_52 G hI h0 dX6_counted_76 ?_
      refine lv_iconst (v := (1 : Int32)) hx hb dX6_counted_79 (by decide) ?_
      refine n_ald G hI (isX6.refused h0) (by decide) dX6_counted_80 ?_
      refine W.eq (g2 := F0 m 81 ls [.int (w 45 1)]) rfl ?_
      exact n_iret G hI hF rfl dX6_counted_81
    · replace hF := itn c6 hF
      by_cases c7 : a1 = (2 : Int32)
      · replace hF := itp c7 hF
        refine lv_tableIn (tgt := 82) hx hb dX6_counted_1 (by rw [c7]; decide) (by rw [c7]; decide) (by rw [c7]; rfl) (by decide) ?_
        refine lv_aload_n hx hb dX6_counted_82 rfl (lv_at hl 0 rfl) ?_
        refine gf_X6_52 G hI h0 dX6_counted_83 ?_
        refine lv_iconst (v := (2 : Int32)) hx hb dX6_counted_86 (by decide) ?_
        refine n_ald G hI (isX6.refused h0) (by decide) dX6_counted_87 ?_
        refine W.eq (g2 := F0 m 88 ls [.int (w 45 2)]) rfl ?_
        exact n_iret G hI hF rfl dX6_counted_88
      · replace hF := itn c7 hF
        by_cases c8 : a1 = (3 : Int32)
        · replace hF := itp c8 hF
          refine lv_tableIn (tgt := 89) hx hb dX6_counted_1 (by rw [c8]; decide) (by rw [c8]; decide) (by rw [c8]; rfl) (by decide) ?_
          refine lv_aload_n hx hb dX6_counted_89 rfl (lv_at hl 0 rfl) ?_
          refine gf_X6_10 G hI h0 dX6_counted_90 ?_
          refine gf_X6_83 G hI (isX6.drive h0) dX6_counted_93 ?_
          exact n_iret G hI hF rfl dX6_counted_96
        · replace hF := itn c8 hF
          by_cases c9 : a1 = (4 : Int32)
          · replace hF := itp c9 hF
            refine lv_tableIn (tgt := 97) hx hb dX6_counted_1 (by rw [c9]; decide) (by rw [c9]; decide) (by rw [c9]; rfl) (by decide) ?_
            refine lv_aload_n hx hb dX6_counted_97 rfl (lv_at hl 0 rfl) ?_
            refine gf_X6_10 G hI h0 dX6_counted_98 ?_
            refine gf_X6_208 G hI (isX6.drive h0) dX6_counted_101 ?_
            refine gf_X6_132 G hI (isX0.wishes (isX6.drive h0)) dX6_counted_104 ?_
            exact n_iret G hI hF rfl dX6_counted_107
          · replace hF := itn c9 hF
            by_cases c10 : a1 = (5 : Int32)
            · replace hF := itp c10 hF
              refine lv_tableIn (tgt := 116) hx hb dX6_counted_1 (by rw [c10]; decide) (by rw [c10]; decide) (by rw [c10]; rfl) (by decide) ?_
              exact hJ1  _ _ _ hF hI (lv_sub hl [0, 1] rfl)
            · replace hF := itn c10 hF
              by_cases c11 : a1 = (6 : Int32)
              · replace hF := itp c11 hF
                refine lv_tableIn (tgt := 116) hx hb dX6_counted_1 (by rw [c11]; decide) (by rw [c11]; decide) (by rw [c11]; rfl) (by decide) ?_
                exact hJ1  _ _ _ hF hI (lv_sub hl [0, 1] rfl)
              · replace hF := itn c11 hF
                by_cases c12 : a1 = (7 : Int32)
                · replace hF := itp c12 hF
                  refine lv_tableIn (tgt := 116) hx hb dX6_counted_1 (by rw [c12]; decide) (by rw [c12]; decide) (by rw [c12]; rfl) (by decide) ?_
                  exact hJ1  _ _ _ hF hI (lv_sub hl [0, 1] rfl)
                · replace hF := itn c12 hF
                  by_cases c13 : a1 = (8 : Int32)
                  · replace hF := itp c13 hF
                    refine lv_tableIn (tgt := 116) hx hb dX6_counted_1 (by rw [c13]; decide) (by rw [c13]; decide) (by rw [c13]; rfl) (by decide) ?_
                    exact hJ1  _ _ _ hF hI (lv_sub hl [0, 1] rfl)
                  · replace hF := itn c13 hF
                    by_cases c14 : a1 = (9 : Int32)
                    · replace hF := itp c14 hF
                      refine lv_tableIn (tgt := 116) hx hb dX6_counted_1 (by rw [c14]; decide) (by rw [c14]; decide) (by rw [c14]; rfl) (by decide) ?_
                      exact hJ1  _ _ _ hF hI (lv_sub hl [0, 1] rfl)
                    · replace hF := itn c14 hF
                      by_cases c15 : a1 = (10 : Int32)
                      · replace hF := itp c15 hF
                        refine lv_tableIn (tgt := 116) hx hb dX6_counted_1 (by rw [c15]; decide) (by rw [c15]; decide) (by rw [c15]; rfl) (by decide) ?_
                        exact hJ1  _ _ _ hF hI (lv_sub hl [0, 1] rfl)
                      · replace hF := itn c15 hF
                        by_cases c16 : a1 = (11 : Int32)
                        · replace hF := itp c16 hF
                          refine lv_tableIn (tgt := 116) hx hb dX6_counted_1 (by rw [c16]; decide) (by rw [c16]; decide) (by rw [c16]; rfl) (by decide) ?_
                          exact hJ1  _ _ _ hF hI (lv_sub hl [0, 1] rfl)
                        · replace hF := itn c16 hF
                          by_cases c17 : a1 = (12 : Int32)
                          · replace hF := itp c17 hF
                            refine lv_tableIn (tgt := 108) hx hb dX6_counted_1 (by rw [c17]; decide) (by rw [c17]; decide) (by rw [c17]; rfl) (by decide) ?_
                            refine lv_aload_n hx hb dX6_counted_108 rfl (lv_at hl 0 rfl) ?_
                            refine gf_X6_48 G hI h0 dX6_counted_109 ?_
                            refine gf_X6_250 G hI (isX6.text h0) dX6_counted_112 ?_
                            exact n_iret G hI hF rfl dX6_counted_115
                          · replace hF := itn c17 hF
                            refine lv_tableOut (tgt := 116) hx hb dX6_counted_1 (by have q0 := lv_neT (a := 0) c5 (by decide); have q1 := lv_neT (a := 1) c6 (by decide); have q2 := lv_neT (a := 2) c7 (by decide); have q3 := lv_neT (a := 3) c8 (by decide); have q4 := lv_neT (a := 4) c9 (by decide); have q5 := lv_neT (a := 5) c10 (by decide); have q6 := lv_neT (a := 6) c11 (by decide); have q7 := lv_neT (a := 7) c12 (by decide); have q8 := lv_neT (a := 8) c13 (by decide); have q9 := lv_neT (a := 9) c14 (by decide); have q10 := lv_neT (a := 10) c15 (by decide); have q11 := lv_neT (a := 11) c16 (by decide); have q12 := lv_neT (a := 12) c17 (by decide); omega) (by decide) ?_
                            exact hJ1  _ _ _ hF hI (lv_sub hl [0, 1] rfl)
set_option maxHeartbeats 4000000 in
theorem c_X6_count (hA : AdOk n ad A) (h0 : isX6 n sh 0) {a1 : Int32} {w w' : Mem} {r : Int32} (hF : F_X6_count a1 w = some (r, w')) : Ctr l n sh D cA ad A sa yX6_count cX6_count 2 (some .int) 3 64 [.ref (ad 0), .int a1] w (some (.int r)) w' := by
  refine m_enter hA (by decide) (Nat.le_of_ble_eq_true rfl) ?_
  intro p e s m args below meth c ls G hI hl
  replace hl : lv_has ls 2 [(0, .ref (ad 0)), (1, .int a1)] := hl
  replace G : Mx n D cA ad A sa p s m args meth c RX6 cX6_count 2 (some .int) := G
  obtain ⟨hx, hb, -, -, hown, hg, -⟩ := id G
  unfold F_X6_count at hF
  refine lv_iload_n hx hb dX6_count_0 rfl (lv_at hl 1 rfl) ?_
  refine lv_iconst (v := (0 : Int32)) hx hb dX6_count_1 (by decide) ?_
  refine lv_bipush (v := (12 : Int32)) hx hb dX6_count_2 (by decide) ?_
  obtain ⟨r2, w1, z3, hF⟩ := bd_some hF
  refine n_Si (rest := []) G hI (c_X6_within hA  z3) my_X6_within kl_X6_56 ⟨Nat.le_of_ble_eq_true rfl, Nat.le_of_ble_eq_true rfl⟩ rfl hl.1 rfl (Nat.le_of_ble_eq_true rfl) dX6_count_4 (fun H locs hI => ?_)
  refine lv_if_ne (tgt := 15) hx hb dX6_count_7 (by decide) (fun c10 => ?_) (fun c10 => ?_)
  · replace hF := itn c10 hF
    refine lv_aload_n hx hb dX6_count_15 rfl (lv_at hl 0 rfl) ?_
    refine lv_iload_n hx hb dX6_count_16 rfl (lv_at hl 1 rfl) ?_
    obtain ⟨r5, w4, z6, hF⟩ := bd_some hF
    refine n_Vi (rest := []) G hI (c_X6_counted hA h0 z6) my_X6_counted kl_X6_269 (isX6.lt h0) (isX6.sh h0) rfl ⟨Nat.le_of_ble_eq_true rfl, Nat.le_of_ble_eq_true rfl⟩ rfl hl.1 rfl (Nat.le_of_ble_eq_true rfl) dX6_count_17 (fun H locs hI => ?_)
    exact n_iret G hI hF rfl dX6_count_20
  · replace hF := itp c10 hF
    refine lv_aload_n hx hb dX6_count_10 rfl (lv_at hl 0 rfl) ?_
    obtain ⟨r8, w7, z9, hF⟩ := bd_some hF
    refine n_Vi (rest := []) G hI (c_X6_refuseBad hA h0 z9) my_X6_refuseBad kl_X6_66 (isX6.lt h0) (isX6.sh h0) rfl ⟨Nat.le_of_ble_eq_true rfl, Nat.le_of_ble_eq_true rfl⟩ rfl hl.1 rfl (Nat.le_of_ble_eq_true rfl) dX6_count_11 (fun H locs hI => ?_)
    exact n_iret G hI hF rfl dX6_count_14
set_option maxHeartbeats 4000000 in
theorem l_X6_digest_6 {p : Program} {e : Env} {s : State} {m : MethodId} {args : Array Value} {below : List Frame} {meth : Method} {c : Code} (G : Mx n D cA ad A sa p s m args meth c RX6 cX6_digest 6 (some .long))  (h0 : isX6 n sh 0) {k : Int64 → Mem → Option (Int64 × Mem)} {r : Int64} {w' : Mem}
    (hk : ∀ (v1 : Int64) (w : Mem) (H : Heap) (locs : List Loc) (ls : Array Slot), k v1 w = some (r, w') → Iv n sh D cA ad A s.heap w H locs → lv_has ls 6 [(0, .ref (ad 0)), (1, .long v1)] → W p l e ({ frames := 7, cells := 0, slots := 0, locals := 155 } : Room) s m args below meth c H locs 0 0 (QM n sh D cA ad A below args s (some (.long r)) w') (F0 m 31 ls [])) :
    ∀ (N : Nat) (v1 : Int64) (v3 : Int32) (w : Mem) (H : Heap) (locs : List Loc) (ls : Array Slot), L_X6_digest_6  k N v1 v3 w = some (r, w') → Iv n sh D cA ad A s.heap w H locs → lv_has ls 6 [(0, .ref (ad 0)), (1, .long v1), (3, .int v3)] → W p l e ({ frames := 7, cells := 0, slots := 0, locals := 155 } : Room) s m args below meth c H locs 0 0 (QM n sh D cA ad A below args s (some (.long r)) w') (F0 m 6 ls []) := by
  obtain ⟨hx, hb, -, -, hown, hg, -, -, -, -, hA⟩ := id G
  intro N
  induction N with
  | zero =>
    intro v1 v3 w H locs ls hF hI hl
    cases hF
  | succ N ih =>
    intro v1 v3 w H locs ls hF hI hl
    rw [L_X6_digest_6] at hF
    refine lv_iload_n hx hb dX6_digest_6 rfl (lv_at hl 2 rfl) ?_
    refine lv_bipush (v := (13 : Int32)) hx hb dX6_digest_7 (by decide) ?_
    refine lv_icmp_ge (tgt := 31) hx hb dX6_digest_9 (by decide) (fun c5 => ?_) (fun c5 => ?_)
    · replace hF := itp c5 hF
      exact hk _ _ _ _ _ hF hI (lv_sub hl [0, 1] rfl)
    · replace hF := itn c5 hF
      refine lv_ldc2 hx hb hown (hg _ kc_X6_274) dX6_digest_12 ?_
      refine lv_lload_n hx hb dX6_digest_15 rfl (lv_at hl 1 rfl) ?_
      refine lv_lmul hx hb dX6_digest_16 ?_
      refine lv_aload_n hx hb dX6_digest_17 rfl (lv_at hl 0 rfl) ?_
      refine lv_iload_n hx hb dX6_digest_18 rfl (lv_at hl 2 rfl) ?_
      obtain ⟨r2, w1, z3, hF⟩ := bd_some hF
      refine n_Vi (rest := [.long ((31 : Int64) * v1)]) G hI (c_X6_counted hA h0 z3) my_X6_counted kl_X6_269 (isX6.lt h0) (isX6.sh h0) rfl ⟨Nat.le_of_ble_eq_true rfl, Nat.le_of_ble_eq_true rfl⟩ rfl hl.1 rfl (Nat.le_of_ble_eq_true rfl) dX6_digest_19 (fun H locs hI => ?_)
      refine lv_i2l hx hb dX6_digest_22 rfl ?_
      refine lv_ladd hx hb dX6_digest_23 ?_
      obtain ⟨x4, ex4, hF⟩ := lt_some hF
      refine W.eq (g2 := F0 m 24 ls [.long x4]) (by rw [ex4]) ?_
      refine lv_lstore_n (lv' := [(1, .long x4), (0, .ref (ad 0)), (3, .int v3)]) hx hb dX6_digest_24 rfl hl (by decide) rfl (fun ls hl => ?_)
      refine lv_iinc (v := (v3 + (1 : Int32))) (lv' := [(3, .int (v3 + (1 : Int32))), (1, .long x4), (0, .ref (ad 0))]) hx hb dX6_digest_25 hl (k := 2) rfl rfl (by decide) rfl (fun ls hl => ?_)
      refine lv_goto (tgt := 6) hx hb dX6_digest_28 (by decide) ?_
      exact ih _ _ _ _ _ _ hF hI (lv_sub hl [2, 1, 0] rfl)
set_option maxHeartbeats 4000000 in
theorem l_X6_digest_39 {p : Program} {e : Env} {s : State} {m : MethodId} {args : Array Value} {below : List Frame} {meth : Method} {c : Code} (G : Mx n D cA ad A sa p s m args meth c RX6 cX6_digest 6 (some .long)) {q3 : Nat} (h0 : isX6 n sh 0) (h3 : isX1 n sh q3) {k : Int64 → Mem → Option (Int64 × Mem)} {r : Int64} {w' : Mem}
    (hk : ∀ (v1 : Int64) (w : Mem) (H : Heap) (locs : List Loc) (ls : Array Slot), k v1 w = some (r, w') → Iv n sh D cA ad A s.heap w H locs → lv_has ls 6 [(0, .ref (ad 0)), (1, .long v1), (3, .ref (ad q3))] → W p l e ({ frames := 7, cells := 0, slots := 0, locals := 155 } : Room) s m args below meth c H locs 0 0 (QM n sh D cA ad A below args s (some (.long r)) w') (F0 m 152 ls [])) :
    ∀ (N : Nat) (v1 : Int64) (v4 : Int32) (w : Mem) (H : Heap) (locs : List Loc) (ls : Array Slot), L_X6_digest_39 q3 k N v1 v4 w = some (r, w') → Iv n sh D cA ad A s.heap w H locs → lv_has ls 6 [(0, .ref (ad 0)), (1, .long v1), (3, .ref (ad q3)), (4, .int v4)] → W p l e ({ frames := 7, cells := 0, slots := 0, locals := 155 } : Room) s m args below meth c H locs 0 0 (QM n sh D cA ad A below args s (some (.long r)) w') (F0 m 39 ls []) := by
  obtain ⟨hx, hb, -, -, hown, hg, -, -, -, -, hA⟩ := id G
  intro N
  induction N with
  | zero =>
    intro v1 v4 w H locs ls hF hI hl
    cases hF
  | succ N ih =>
    intro v1 v4 w H locs ls hF hI hl
    rw [L_X6_digest_39] at hF
    refine lv_iload hx hb dX6_digest_39 (lv_at hl 3 rfl) ?_
    refine lv_iconst (v := (3 : Int32)) hx hb dX6_digest_41 (by decide) ?_
    refine lv_icmp_ge (tgt := 152) hx hb dX6_digest_42 (by decide) (fun c25 => ?_) (fun c25 => ?_)
    · replace hF := itp c25 hF
      exact hk _ _ _ _ _ hF hI (lv_sub hl [0, 1, 2] rfl)
    · replace hF := itn c25 hF
      refine lv_ldc2 hx hb hown (hg _ kc_X6_274) dX6_digest_45 ?_
      refine lv_lload_n hx hb dX6_digest_48 rfl (lv_at hl 1 rfl) ?_
      refine lv_lmul hx hb dX6_digest_49 ?_
      refine lv_aload_n hx hb dX6_digest_50 rfl (lv_at hl 0 rfl) ?_
      refine gf_X6_10 G hI h0 dX6_digest_51 ?_
      refine gf_X6_80 G hI (isX6.drive h0) dX6_digest_54 ?_
      refine lv_iload hx hb dX6_digest_57 (lv_at hl 3 rfl) ?_
      obtain ⟨g11, hF⟩ := gd_some hF
      refine n_ald G hI (isX0.current (isX6.drive h0)) g11 dX6_digest_59 ?_
      refine lv_i2l hx hb dX6_digest_60 rfl ?_
      refine lv_ladd hx hb dX6_digest_61 ?_
      obtain ⟨x12, ex12, hF⟩ := lt_some hF
      refine W.eq (g2 := F0 m 62 ls [.long x12]) (by rw [ex12]) ?_
      refine lv_lstore_n (lv' := [(1, .long x12), (0, .ref (ad 0)), (3, .ref (ad q3)), (4, .int v4)]) hx hb dX6_digest_62 rfl hl (by decide) rfl (fun ls hl => ?_)
      refine lv_ldc2 hx hb hown (hg _ kc_X6_274) dX6_digest_63 ?_
      refine lv_lload_n hx hb dX6_digest_66 rfl (lv_at hl 0 rfl) ?_
      refine lv_lmul hx hb dX6_digest_67 ?_
      refine lv_aload_n hx hb dX6_digest_68 rfl (lv_at hl 1 rfl) ?_
      refine gf_X6_10 G hI h0 dX6_digest_69 ?_
      refine gf_X6_77 G hI (isX6.drive h0) dX6_digest_72 ?_
      refine lv_iload hx hb dX6_digest_75 (lv_at hl 3 rfl) ?_
      obtain ⟨g13, hF⟩ := gd_some hF
      refine n_ald G hI (isX0.demand (isX6.drive h0)) g13 dX6_digest_77 ?_
      refine lv_i2l hx hb dX6_digest_78 rfl ?_
      refine lv_ladd hx hb dX6_digest_79 ?_
      obtain ⟨x14, ex14, hF⟩ := lt_some hF
      refine W.eq (g2 := F0 m 80 ls [.long x14]) (by rw [ex14]) ?_
      refine lv_lstore_n (lv' := [(1, .long x14), (0, .ref (ad 0)), (3, .ref (ad q3)), (4, .int v4)]) hx hb dX6_digest_80 rfl hl (by decide) rfl (fun ls hl => ?_)
      refine lv_ldc2 hx hb hown (hg _ kc_X6_274) dX6_digest_81 ?_
      refine lv_lload_n hx hb dX6_digest_84 rfl (lv_at hl 0 rfl) ?_
      refine lv_lmul hx hb dX6_digest_85 ?_
      refine lv_aload_n hx hb dX6_digest_86 rfl (lv_at hl 1 rfl) ?_
      refine gf_X6_10 G hI h0 dX6_digest_87 ?_
      refine gf_X6_234 G hI (isX6.drive h0) dX6_digest_90 ?_
      refine lv_iload hx hb dX6_digest_93 (lv_at hl 3 rfl) ?_
      obtain ⟨g15, hF⟩ := gd_some hF
      refine n_ald G hI (isX0.want (isX6.drive h0)) g15 dX6_digest_95 ?_
      refine lv_i2l hx hb dX6_digest_96 rfl ?_
      refine lv_ladd hx hb dX6_digest_97 ?_
      obtain ⟨x16, ex16, hF⟩ := lt_some hF
      refine W.eq (g2 := F0 m 98 ls [.long x16]) (by rw [ex16]) ?_
      refine lv_lstore_n (lv' := [(1, .long x16), (0, .ref (ad 0)), (3, .ref (ad q3)), (4, .int v4)]) hx hb dX6_digest_98 rfl hl (by decide) rfl (fun ls hl => ?_)
      refine lv_ldc2 hx hb hown (hg _ kc_X6_274) dX6_digest_99 ?_
      refine lv_lload_n hx hb dX6_digest_102 rfl (lv_at hl 0 rfl) ?_
      refine lv_lmul hx hb dX6_digest_103 ?_
      refine lv_aload_n hx hb dX6_digest_104 rfl (lv_at hl 1 rfl) ?_
      refine gf_X6_10 G hI h0 dX6_digest_105 ?_
      refine gf_X6_237 G hI (isX6.drive h0) dX6_digest_108 ?_
      refine lv_iload hx hb dX6_digest_111 (lv_at hl 3 rfl) ?_
      obtain ⟨g17, hF⟩ := gd_some hF
      refine n_ald G hI (isX0.sum (isX6.drive h0)) g17 dX6_digest_113 ?_
      refine lv_i2l hx hb dX6_digest_114 rfl ?_
      refine lv_ladd hx hb dX6_digest_115 ?_
      obtain ⟨x18, ex18, hF⟩ := lt_some hF
      refine W.eq (g2 := F0 m 116 ls [.long x18]) (by rw [ex18]) ?_
      refine lv_lstore_n (lv' := [(1, .long x18), (0, .ref (ad 0)), (3, .ref (ad q3)), (4, .int v4)]) hx hb dX6_digest_116 rfl hl (by decide) rfl (fun ls hl => ?_)
      refine lv_ldc2 hx hb hown (hg _ kc_X6_274) dX6_digest_117 ?_
      refine lv_lload_n hx hb dX6_digest_120 rfl (lv_at hl 0 rfl) ?_
      refine lv_lmul hx hb dX6_digest_121 ?_
      refine lv_aload_n hx hb dX6_digest_122 rfl (lv_at hl 2 rfl) ?_
      refine gf_X6_135 G hI h3 dX6_digest_123 ?_
      refine lv_iload hx hb dX6_digest_126 (lv_at hl 3 rfl) ?_
      obtain ⟨g19, hF⟩ := gd_some hF
      refine n_ald G hI (isX1.high h3) g19 dX6_digest_128 ?_
      refine lv_i2l hx hb dX6_digest_129 rfl ?_
      refine lv_ladd hx hb dX6_digest_130 ?_
      obtain ⟨x20, ex20, hF⟩ := lt_some hF
      refine W.eq (g2 := F0 m 131 ls [.long x20]) (by rw [ex20]) ?_
      refine lv_lstore_n (lv' := [(1, .long x20), (0, .ref (ad 0)), (3, .ref (ad q3)), (4, .int v4)]) hx hb dX6_digest_131 rfl hl (by decide) rfl (fun ls hl => ?_)
      refine lv_ldc2 hx hb hown (hg _ kc_X6_274) dX6_digest_132 ?_
      refine lv_lload_n hx hb dX6_digest_135 rfl (lv_at hl 0 rfl) ?_
      refine lv_lmul hx hb dX6_digest_136 ?_
      refine lv_aload_n hx hb dX6_digest_137 rfl (lv_at hl 2 rfl) ?_
      refine lv_iload hx hb dX6_digest_138 (lv_at hl 3 rfl) ?_
      obtain ⟨r22, w21, z23, hF⟩ := bd_some hF
      refine n_Vi (rest := [.long ((31 : Int64) * x20)]) G hI (c_X1_mean hA h3 z23) my_X1_mean kl_X6_141 (isX1.lt h3) (isX1.sh h3) rfl ⟨Nat.le_of_ble_eq_true rfl, Nat.le_of_ble_eq_true rfl⟩ rfl hl.1 rfl (Nat.le_of_ble_eq_true rfl) dX6_digest_140 (fun H locs hI => ?_)
      refine lv_i2l hx hb dX6_digest_143 rfl ?_
      refine lv_ladd hx hb dX6_digest_144 ?_
      obtain ⟨x24, ex24, hF⟩ := lt_some hF
      refine W.eq (g2 := F0 m 145 ls [.long x24]) (by rw [ex24]) ?_
      refine lv_lstore_n (lv' := [(1, .long x24), (0, .ref (ad 0)), (3, .ref (ad q3)), (4, .int v4)]) hx hb dX6_digest_145 rfl hl (by decide) rfl (fun ls hl => ?_)
      refine lv_iinc (v := (v4 + (1 : Int32))) (lv' := [(4, .int (v4 + (1 : Int32))), (1, .long x24), (0, .ref (ad 0)), (3, .ref (ad q3))]) hx hb dX6_digest_146 hl (k := 3) rfl rfl (by decide) rfl (fun ls hl => ?_)
      refine lv_goto (tgt := 39) hx hb dX6_digest_149 (by decide) ?_
      exact ih _ _ _ _ _ _ hF hI (lv_sub hl [2, 1, 3, 0] rfl)
set_option maxHeartbeats 4000000 in
theorem l_X6_digest_173 {p : Program} {e : Env} {s : State} {m : MethodId} {args : Array Value} {below : List Frame} {meth : Method} {c : Code} (G : Mx n D cA ad A sa p s m args meth c RX6 cX6_digest 6 (some .long)) {q3 : Nat} {a4 : Int32} (h0 : isX6 n sh 0) (h3 : isX1 n sh q3) {k : Int64 → Mem → Option (Int64 × Mem)} {r : Int64} {w' : Mem}
    (hk : ∀ (v1 : Int64) (w : Mem) (H : Heap) (locs : List Loc) (ls : Array Slot), k v1 w = some (r, w') → Iv n sh D cA ad A s.heap w H locs → lv_has ls 6 [(0, .ref (ad 0)), (1, .long v1), (3, .ref (ad q3)), (4, .int a4)] → W p l e ({ frames := 7, cells := 0, slots := 0, locals := 155 } : Room) s m args below meth c H locs 0 0 (QM n sh D cA ad A below args s (some (.long r)) w') (F0 m 208 ls [])) :
    ∀ (N : Nat) (v1 : Int64) (v5 : Int32) (w : Mem) (H : Heap) (locs : List Loc) (ls : Array Slot), L_X6_digest_173 q3 a4 k N v1 v5 w = some (r, w') → Iv n sh D cA ad A s.heap w H locs → lv_has ls 6 [(0, .ref (ad 0)), (1, .long v1), (3, .ref (ad q3)), (4, .int a4), (5, .int v5)] → W p l e ({ frames := 7, cells := 0, slots := 0, locals := 155 } : Room) s m args below meth c H locs 0 0 (QM n sh D cA ad A below args s (some (.long r)) w') (F0 m 173 ls []) := by
  obtain ⟨hx, hb, -, -, hown, hg, -, -, -, -, hA⟩ := id G
  intro N
  induction N with
  | zero =>
    intro v1 v5 w H locs ls hF hI hl
    cases hF
  | succ N ih =>
    intro v1 v5 w H locs ls hF hI hl
    rw [L_X6_digest_173] at hF
    refine lv_iload hx hb dX6_digest_173 (lv_at hl 4 rfl) ?_
    refine lv_iconst (v := (3 : Int32)) hx hb dX6_digest_175 (by decide) ?_
    refine lv_icmp_ge (tgt := 208) hx hb dX6_digest_176 (by decide) (fun c32 => ?_) (fun c32 => ?_)
    · replace hF := itp c32 hF
      exact hk _ _ _ _ _ hF hI (lv_sub hl [0, 1, 2, 3] rfl)
    · replace hF := itn c32 hF
      refine lv_ldc2 hx hb hown (hg _ kc_X6_274) dX6_digest_179 ?_
      refine lv_lload_n hx hb dX6_digest_182 rfl (lv_at hl 1 rfl) ?_
      refine lv_lmul hx hb dX6_digest_183 ?_
      refine lv_aload_n hx hb dX6_digest_184 rfl (lv_at hl 0 rfl) ?_
      refine gf_X6_10 G hI h0 dX6_digest_185 ?_
      refine gf_X6_208 G hI (isX6.drive h0) dX6_digest_188 ?_
      refine lv_iconst (v := (-1 : Int32)) hx hb dX6_digest_191 (by decide) ?_
      refine lv_iload hx hb dX6_digest_192 (lv_at hl 3 rfl) ?_
      refine lv_iload hx hb dX6_digest_194 (lv_at hl 4 rfl) ?_
      obtain ⟨r29, w28, z30, hF⟩ := bd_some hF
      refine n_Vi (rest := [.long ((31 : Int64) * v1)]) G hI (c_X4_cellOr hA (isX0.wishes (isX6.drive h0)) z30) my_X4_cellOr kl_X6_166 (isX4.lt (isX0.wishes (isX6.drive h0))) (isX4.sh (isX0.wishes (isX6.drive h0))) rfl ⟨Nat.le_of_ble_eq_true rfl, Nat.le_of_ble_eq_true rfl⟩ rfl hl.1 rfl (Nat.le_of_ble_eq_true rfl) dX6_digest_196 (fun H locs hI => ?_)
      refine lv_i2l hx hb dX6_digest_199 rfl ?_
      refine lv_ladd hx hb dX6_digest_200 ?_
      obtain ⟨x31, ex31, hF⟩ := lt_some hF
      refine W.eq (g2 := F0 m 201 ls [.long x31]) (by rw [ex31]) ?_
      refine lv_lstore_n (lv' := [(1, .long x31), (0, .ref (ad 0)), (3, .ref (ad q3)), (4, .int a4), (5, .int v5)]) hx hb dX6_digest_201 rfl hl (by decide) rfl (fun ls hl => ?_)
      refine lv_iinc (v := (v5 + (1 : Int32))) (lv' := [(5, .int (v5 + (1 : Int32))), (1, .long x31), (0, .ref (ad 0)), (3, .ref (ad q3)), (4, .int a4)]) hx hb dX6_digest_202 hl (k := 4) rfl rfl (by decide) rfl (fun ls hl => ?_)
      refine lv_goto (tgt := 173) hx hb dX6_digest_205 (by decide) ?_
      exact ih _ _ _ _ _ _ hF hI (lv_sub hl [2, 1, 3, 4, 0] rfl)
set_option maxHeartbeats 4000000 in
theorem l_X6_digest_155 {p : Program} {e : Env} {s : State} {m : MethodId} {args : Array Value} {below : List Frame} {meth : Method} {c : Code} (G : Mx n D cA ad A sa p s m args meth c RX6 cX6_digest 6 (some .long)) {q3 : Nat} (h0 : isX6 n sh 0) (h3 : isX1 n sh q3) {k : Int64 → Mem → Option (Int64 × Mem)} {r : Int64} {w' : Mem}
    (hk : ∀ (v1 : Int64) (w : Mem) (H : Heap) (locs : List Loc) (ls : Array Slot), k v1 w = some (r, w') → Iv n sh D cA ad A s.heap w H locs → lv_has ls 6 [(0, .ref (ad 0)), (1, .long v1), (3, .ref (ad q3))] → W p l e ({ frames := 7, cells := 0, slots := 0, locals := 155 } : Room) s m args below meth c H locs 0 0 (QM n sh D cA ad A below args s (some (.long r)) w') (F0 m 214 ls [])) :
    ∀ (N : Nat) (v1 : Int64) (v4 : Int32) (w : Mem) (H : Heap) (locs : List Loc) (ls : Array Slot), L_X6_digest_155 q3 k N v1 v4 w = some (r, w') → Iv n sh D cA ad A s.heap w H locs → lv_has ls 6 [(0, .ref (ad 0)), (1, .long v1), (3, .ref (ad q3)), (4, .int v4)] → W p l e ({ frames := 7, cells := 0, slots := 0, locals := 155 } : Room) s m args below meth c H locs 0 0 (QM n sh D cA ad A below args s (some (.long r)) w') (F0 m 155 ls []) := by
  obtain ⟨hx, hb, -, -, hown, hg, -, -, -, -, hA⟩ := id G
  intro N
  induction N with
  | zero =>
    intro v1 v4 w H locs ls hF hI hl
    cases hF
  | succ N ih =>
    intro v1 v4 w H locs ls hF hI hl
    rw [L_X6_digest_155] at hF
    refine lv_iload hx hb dX6_digest_155 (lv_at hl 3 rfl) ?_
    refine lv_aload_n hx hb dX6_digest_157 rfl (lv_at hl 0 rfl) ?_
    refine gf_X6_10 G hI h0 dX6_digest_158 ?_
    refine gf_X6_208 G hI (isX6.drive h0) dX6_digest_161 ?_
    refine gf_X6_132 G hI (isX0.wishes (isX6.drive h0)) dX6_digest_164 ?_
    refine lv_icmp_ge (tgt := 214) hx hb dX6_digest_167 (by decide) (fun c35 => ?_) (fun c35 => ?_)
    · replace hF := itp c35 hF
      exact hk _ _ _ _ _ hF hI (lv_sub hl [0, 1, 2] rfl)
    · replace hF := itn c35 hF
      refine lv_iconst (v := (0 : Int32)) hx hb dX6_digest_170 (by decide) ?_
      refine lv_istore (lv' := [(5, .int (0 : Int32)), (0, .ref (ad 0)), (1, .long v1), (3, .ref (ad q3)), (4, .int v4)]) hx hb dX6_digest_171 hl (by decide) rfl (fun ls hl => ?_)
      refine l_X6_digest_173 G h0 h3 (fun x34 w33 H locs ls hF hI hl => ?_) _ _ _ _ _ _ _ hF hI (lv_sub hl [1, 2, 3, 4, 0] rfl)
      refine lv_iinc (v := (v4 + (1 : Int32))) (lv' := [(4, .int (v4 + (1 : Int32))), (0, .ref (ad 0)), (1, .long x34), (3, .ref (ad q3))]) hx hb dX6_digest_208 hl (k := 3) rfl rfl (by decide) rfl (fun ls hl => ?_)
      refine lv_goto (tgt := 155) hx hb dX6_digest_211 (by decide) ?_
      exact ih _ _ _ _ _ _ hF hI (lv_sub hl [1, 2, 3, 0] rfl)
set_option maxHeartbeats 4000000 in
theorem c_X6_digest (hA : AdOk n ad A) (h0 : isX6 n sh 0) {w w' : Mem} {r : Int64} (hF : F_X6_digest  w = some (r, w')) : Ctr l n sh D cA ad A sa yX6_digest cX6_digest 6 (some .long) 7 155 [.ref (ad 0)] w (some (.long r)) w' := by
  refine m_enter hA (by decide) (Nat.le_of_ble_eq_true rfl) ?_
  intro p e s m args below meth c ls G hI hl
  replace hl : lv_has ls 6 [(0, .ref (ad 0))] := hl
  replace G : Mx n D cA ad A sa p s m args meth c RX6 cX6_digest 6 (some .long) := G
  obtain ⟨hx, hb, -, -, hown, hg, -⟩ := id G
  unfold F_X6_digest at hF
  refine lv_ldc2 hx hb hown (hg _ kc_X6_272) dX6_digest_0 ?_
  refine lv_lstore_n (lv' := [(1, .long (2069 : Int64)), (0, .ref (ad 0))]) hx hb dX6_digest_3 rfl hl (by decide) rfl (fun ls hl => ?_)
  refine lv_iconst (v := (0 : Int32)) hx hb dX6_digest_4 (by decide) ?_
  refine lv_istore_n (lv' := [(3, .int (0 : Int32)), (1, .long (2069 : Int64)), (0, .ref (ad 0))]) hx hb dX6_digest_5 rfl hl (by decide) rfl (fun ls hl => ?_)
  refine l_X6_digest_6 G h0 (fun x7 w6 H locs ls hF hI hl => ?_) _ _ _ _ _ _ _ hF hI (lv_sub hl [2, 1, 0] rfl)
  refine lv_aload_n hx hb dX6_digest_31 rfl (lv_at hl 0 rfl) ?_
  obtain ⟨r9, w8, z10, hF⟩ := bd_some hF
  refine n_Vr (rest := []) G hI (c_X6_planNow hA h0 z10) my_X6_planNow kl_X6_108 (isX6.lt h0) (isX6.sh h0) rfl ⟨Nat.le_of_ble_eq_true rfl, Nat.le_of_ble_eq_true rfl⟩ rfl hl.1 rfl (Nat.le_of_ble_eq_true rfl) dX6_digest_32 (fun H locs hI => ?_)
  refine lv_astore_n (lv' := [(3, .ref (ad 9)), (0, .ref (ad 0)), (1, .long x7)]) hx hb dX6_digest_35 rfl hl (by decide) rfl (fun ls hl => ?_)
  refine lv_iconst (v := (0 : Int32)) hx hb dX6_digest_36 (by decide) ?_
  refine lv_istore (lv' := [(4, .int (0 : Int32)), (3, .ref (ad 9)), (0, .ref (ad 0)), (1, .long x7)]) hx hb dX6_digest_37 hl (by decide) rfl (fun ls hl => ?_)
  refine l_X6_digest_39 G h0 (isX0.plan (isX6.drive h0)) (fun x27 w26 H locs ls hF hI hl => ?_) _ _ _ _ _ _ _ hF hI (lv_sub hl [2, 3, 1, 0] rfl)
  refine lv_iconst (v := (0 : Int32)) hx hb dX6_digest_152 (by decide) ?_
  refine lv_istore (lv' := [(4, .int (0 : Int32)), (0, .ref (ad 0)), (1, .long x27), (3, .ref (ad 9))]) hx hb dX6_digest_153 hl (by decide) rfl (fun ls hl => ?_)
  refine l_X6_digest_155 G h0 (isX0.plan (isX6.drive h0)) (fun x37 w36 H locs ls hF hI hl => ?_) _ _ _ _ _ _ _ hF hI (lv_sub hl [1, 2, 3, 0] rfl)
  refine lv_ldc2 hx hb hown (hg _ kc_X6_274) dX6_digest_214 ?_
  refine lv_lload_n hx hb dX6_digest_217 rfl (lv_at hl 1 rfl) ?_
  refine lv_lmul hx hb dX6_digest_218 ?_
  refine lv_aload_n hx hb dX6_digest_219 rfl (lv_at hl 2 rfl) ?_
  refine gf_X6_112 G hI (isX0.plan (isX6.drive h0)) dX6_digest_220 ?_
  refine lv_i2l hx hb dX6_digest_223 rfl ?_
  refine lv_ladd hx hb dX6_digest_224 ?_
  obtain ⟨x38, ex38, hF⟩ := lt_some hF
  refine W.eq (g2 := F0 m 225 ls [.long x38]) (by rw [ex38]) ?_
  refine lv_lstore_n (lv' := [(1, .long x38), (0, .ref (ad 0)), (3, .ref (ad 9))]) hx hb dX6_digest_225 rfl hl (by decide) rfl (fun ls hl => ?_)
  refine lv_ldc2 hx hb hown (hg _ kc_X6_274) dX6_digest_226 ?_
  refine lv_lload_n hx hb dX6_digest_229 rfl (lv_at hl 0 rfl) ?_
  refine lv_lmul hx hb dX6_digest_230 ?_
  refine lv_aload_n hx hb dX6_digest_231 rfl (lv_at hl 1 rfl) ?_
  obtain ⟨r40, w39, z41, hF⟩ := bd_some hF
  refine n_Vr (rest := [.long ((31 : Int64) * x38)]) G hI (c_X6_runsNow hA h0 z41) my_X6_runsNow kl_X6_121 (isX6.lt h0) (isX6.sh h0) rfl ⟨Nat.le_of_ble_eq_true rfl, Nat.le_of_ble_eq_true rfl⟩ rfl hl.1 rfl (Nat.le_of_ble_eq_true rfl) dX6_digest_232 (fun H locs hI => ?_)
  refine gf_X6_129 G hI (isX6.runs h0) dX6_digest_235 ?_
  refine gf_X6_132 G hI (isX2.rows (isX6.runs h0)) dX6_digest_238 ?_
  refine lv_i2l hx hb dX6_digest_241 rfl ?_
  refine lv_ladd hx hb dX6_digest_242 ?_
  exact n_lret G hI hF rfl dX6_digest_243
end WK7
