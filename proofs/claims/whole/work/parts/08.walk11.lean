/-! walks, by program (wip/gen/walk.py): X7_both, X7_off, X7_dies, X7_comesEvent, X7_setEvents, X7_event, X7_events, X7_mayShift, X7_tries -/
section WK11
variable {n : Nat} {sh : Nat → Shp} {D : va_G} {cA : ClassId} {ad : Nat → Nat} {A : Nat → Prop} {sa : Nat → Nat} {l : Launch}
set_option maxHeartbeats 4000000 in
theorem l_X7_both_15 {p : Program} {e : Env} {s : State} {m : MethodId} {args : Array Value} {below : List Frame} {meth : Method} {c : Code} (G : Mx n D cA ad A sa p s m args meth c RX7 cX7_both 4 (some .int)) {a2 : Int32} (h0 : isX7 n sh 0) {k : Int32 → Mem → Option (Int32 × Mem)} {r : Int32} {w' : Mem}
    (hk : ∀ (v1 : Int32) (w : Mem) (H : Heap) (locs : List Loc) (ls : Array Slot), k v1 w = some (r, w') → Iv n sh D cA ad A s.heap w H locs → lv_has ls 4 [(0, .ref (ad 0)), (1, .int v1), (2, .int a2)] → W p l e ({ frames := 3, cells := 0, slots := 0, locals := 68 } : Room) s m args below meth c H locs 0 0 (QM n sh D cA ad A below args s (some (.int r)) w') (F0 m 57 ls [])) :
    ∀ (N : Nat) (v1 : Int32) (v3 : Int32) (w : Mem) (H : Heap) (locs : List Loc) (ls : Array Slot), L_X7_both_15 a2 k N v1 v3 w = some (r, w') → Iv n sh D cA ad A s.heap w H locs → lv_has ls 4 [(0, .ref (ad 0)), (1, .int v1), (2, .int a2), (3, .int v3)] → W p l e ({ frames := 3, cells := 0, slots := 0, locals := 68 } : Room) s m args below meth c H locs 0 0 (QM n sh D cA ad A below args s (some (.int r)) w') (F0 m 15 ls []) := by
  obtain ⟨hx, hb, -, -, hown, hg, -, -, -, -, hA⟩ := id G
  intro N
  induction N with
  | zero =>
    intro v1 v3 w H locs ls hF hI hl
    cases hF
  | succ N ih =>
    intro v1 v3 w H locs ls hF hI hl
    rw [L_X7_both_15] at hF
    refine lv_iload_n hx hb dX7_both_15 rfl (lv_at hl 3 rfl) ?_
    refine lv_aload_n hx hb dX7_both_16 rfl (lv_at hl 0 rfl) ?_
    refine gf_X7_13 G hI h0 dX7_both_17 ?_
    refine lv_iconst (v := (0 : Int32)) hx hb dX7_both_20 (by decide) ?_
    refine n_ald G hI (isX7.told h0) (by decide) dX7_both_21 ?_
    refine W.eq (g2 := F0 m 22 ls [.int (w 2 0), .int v3]) rfl ?_
    refine lv_icmp_ge (tgt := 57) hx hb dX7_both_22 (by decide) (fun c12 => ?_) (fun c12 => ?_)
    · replace hF := itp c12 hF
      exact hk _ _ _ _ _ hF hI (lv_sub hl [0, 1, 2] rfl)
    · replace hF := itn c12 hF
      refine lv_iload_n hx hb dX7_both_25 rfl (lv_at hl 1 rfl) ?_
      refine lv_aload_n hx hb dX7_both_26 rfl (lv_at hl 0 rfl) ?_
      refine lv_iload_n hx hb dX7_both_27 rfl (lv_at hl 2 rfl) ?_
      refine lv_iload_n hx hb dX7_both_28 rfl (lv_at hl 3 rfl) ?_
      obtain ⟨r5, w4, z6, hF⟩ := bd_some hF
      refine n_Vi (rest := [.int v1]) G hI (c_X7_upper hA h0 z6) my_X7_upper kl_X7_166 (isX7.lt h0) (isX7.sh h0) rfl ⟨Nat.le_of_ble_eq_true rfl, Nat.le_of_ble_eq_true rfl⟩ rfl hl.1 rfl (Nat.le_of_ble_eq_true rfl) dX7_both_29 (fun H locs hI => ?_)
      refine lv_if_eq (tgt := 48) hx hb dX7_both_32 (by decide) (fun c11 => ?_) (fun c11 => ?_)
      · replace hF := itp c11 hF
        refine lv_iconst (v := (0 : Int32)) hx hb dX7_both_48 (by decide) ?_
        refine lv_ior hx hb dX7_both_49 ?_
        refine lv_istore_n (lv' := [(1, .int (v1 ||| (0 : Int32))), (0, .ref (ad 0)), (2, .int a2), (3, .int v3)]) hx hb dX7_both_50 rfl hl (by decide) rfl (fun ls hl => ?_)
        refine lv_iinc (v := (v3 + (1 : Int32))) (lv' := [(3, .int (v3 + (1 : Int32))), (1, .int (v1 ||| (0 : Int32))), (0, .ref (ad 0)), (2, .int a2)]) hx hb dX7_both_51 hl (k := 3) rfl rfl (by decide) rfl (fun ls hl => ?_)
        refine lv_goto (tgt := 15) hx hb dX7_both_54 (by decide) ?_
        exact ih _ _ _ _ _ _ hF hI (lv_sub hl [2, 1, 3, 0] rfl)
      · replace hF := itn c11 hF
        refine lv_aload_n hx hb dX7_both_35 rfl (lv_at hl 0 rfl) ?_
        refine lv_iload_n hx hb dX7_both_36 rfl (lv_at hl 2 rfl) ?_
        refine lv_iload_n hx hb dX7_both_37 rfl (lv_at hl 3 rfl) ?_
        obtain ⟨r8, w7, z9, hF⟩ := bd_some hF
        refine n_Vi (rest := [.int v1]) G hI (c_X7_lower hA h0 z9) my_X7_lower kl_X7_169 (isX7.lt h0) (isX7.sh h0) rfl ⟨Nat.le_of_ble_eq_true rfl, Nat.le_of_ble_eq_true rfl⟩ rfl hl.1 rfl (Nat.le_of_ble_eq_true rfl) dX7_both_38 (fun H locs hI => ?_)
        refine lv_if_eq (tgt := 48) hx hb dX7_both_41 (by decide) (fun c10 => ?_) (fun c10 => ?_)
        · replace hF := itp c10 hF
          refine lv_iconst (v := (0 : Int32)) hx hb dX7_both_48 (by decide) ?_
          refine lv_ior hx hb dX7_both_49 ?_
          refine lv_istore_n (lv' := [(1, .int (v1 ||| (0 : Int32))), (0, .ref (ad 0)), (2, .int a2), (3, .int v3)]) hx hb dX7_both_50 rfl hl (by decide) rfl (fun ls hl => ?_)
          refine lv_iinc (v := (v3 + (1 : Int32))) (lv' := [(3, .int (v3 + (1 : Int32))), (1, .int (v1 ||| (0 : Int32))), (0, .ref (ad 0)), (2, .int a2)]) hx hb dX7_both_51 hl (k := 3) rfl rfl (by decide) rfl (fun ls hl => ?_)
          refine lv_goto (tgt := 15) hx hb dX7_both_54 (by decide) ?_
          exact ih _ _ _ _ _ _ hF hI (lv_sub hl [2, 1, 3, 0] rfl)
        · replace hF := itn c10 hF
          refine lv_iconst (v := (1 : Int32)) hx hb dX7_both_44 (by decide) ?_
          refine lv_goto (tgt := 49) hx hb dX7_both_45 (by decide) ?_
          refine lv_ior hx hb dX7_both_49 ?_
          refine lv_istore_n (lv' := [(1, .int (v1 ||| (1 : Int32))), (0, .ref (ad 0)), (2, .int a2), (3, .int v3)]) hx hb dX7_both_50 rfl hl (by decide) rfl (fun ls hl => ?_)
          refine lv_iinc (v := (v3 + (1 : Int32))) (lv' := [(3, .int (v3 + (1 : Int32))), (1, .int (v1 ||| (1 : Int32))), (0, .ref (ad 0)), (2, .int a2)]) hx hb dX7_both_51 hl (k := 3) rfl rfl (by decide) rfl (fun ls hl => ?_)
          refine lv_goto (tgt := 15) hx hb dX7_both_54 (by decide) ?_
          exact ih _ _ _ _ _ _ hF hI (lv_sub hl [2, 1, 3, 0] rfl)
set_option maxHeartbeats 4000000 in
theorem l_X7_both_8 {p : Program} {e : Env} {s : State} {m : MethodId} {args : Array Value} {below : List Frame} {meth : Method} {c : Code} (G : Mx n D cA ad A sa p s m args meth c RX7 cX7_both 4 (some .int))  (h0 : isX7 n sh 0) {k : Int32 → Mem → Option (Int32 × Mem)} {r : Int32} {w' : Mem}
    (hk : ∀ (v1 : Int32) (w : Mem) (H : Heap) (locs : List Loc) (ls : Array Slot), k v1 w = some (r, w') → Iv n sh D cA ad A s.heap w H locs → lv_has ls 4 [(1, .int v1)] → W p l e ({ frames := 3, cells := 0, slots := 0, locals := 68 } : Room) s m args below meth c H locs 0 0 (QM n sh D cA ad A below args s (some (.int r)) w') (F0 m 63 ls [])) :
    ∀ (N : Nat) (v1 : Int32) (v2 : Int32) (w : Mem) (H : Heap) (locs : List Loc) (ls : Array Slot), L_X7_both_8  k N v1 v2 w = some (r, w') → Iv n sh D cA ad A s.heap w H locs → lv_has ls 4 [(0, .ref (ad 0)), (1, .int v1), (2, .int v2)] → W p l e ({ frames := 3, cells := 0, slots := 0, locals := 68 } : Room) s m args below meth c H locs 0 0 (QM n sh D cA ad A below args s (some (.int r)) w') (F0 m 8 ls []) := by
  obtain ⟨hx, hb, -, -, hown, hg, -, -, -, -, hA⟩ := id G
  intro N
  induction N with
  | zero =>
    intro v1 v2 w H locs ls hF hI hl
    cases hF
  | succ N ih =>
    intro v1 v2 w H locs ls hF hI hl
    rw [L_X7_both_8] at hF
    refine lv_iload_n hx hb dX7_both_8 rfl (lv_at hl 2 rfl) ?_
    refine lv_iconst (v := (3 : Int32)) hx hb dX7_both_9 (by decide) ?_
    refine lv_icmp_ge (tgt := 63) hx hb dX7_both_10 (by decide) (fun c15 => ?_) (fun c15 => ?_)
    · replace hF := itp c15 hF
      exact hk _ _ _ _ _ hF hI (lv_sub hl [1] rfl)
    · replace hF := itn c15 hF
      refine lv_iconst (v := (0 : Int32)) hx hb dX7_both_13 (by decide) ?_
      refine lv_istore_n (lv' := [(3, .int (0 : Int32)), (0, .ref (ad 0)), (1, .int v1), (2, .int v2)]) hx hb dX7_both_14 rfl hl (by decide) rfl (fun ls hl => ?_)
      refine l_X7_both_15 G h0 (fun x14 w13 H locs ls hF hI hl => ?_) _ _ _ _ _ _ _ hF hI (lv_sub hl [1, 2, 3, 0] rfl)
      refine lv_iinc (v := (v2 + (1 : Int32))) (lv' := [(2, .int (v2 + (1 : Int32))), (0, .ref (ad 0)), (1, .int x14)]) hx hb dX7_both_57 hl (k := 2) rfl rfl (by decide) rfl (fun ls hl => ?_)
      refine lv_goto (tgt := 8) hx hb dX7_both_60 (by decide) ?_
      exact ih _ _ _ _ _ _ hF hI (lv_sub hl [1, 2, 0] rfl)
set_option maxHeartbeats 4000000 in
theorem c_X7_both (hA : AdOk n ad A) (h0 : isX7 n sh 0) {w w' : Mem} {r : Int32} (hF : F_X7_both  w = some (r, w')) : Ctr l n sh D cA ad A sa yX7_both cX7_both 4 (some .int) 3 68 [.ref (ad 0)] w (some (.int r)) w' := by
  refine m_enter hA (by decide) (Nat.le_of_ble_eq_true rfl) ?_
  intro p e s m args below meth c ls G hI hl
  replace hl : lv_has ls 4 [(0, .ref (ad 0))] := hl
  replace G : Mx n D cA ad A sa p s m args meth c RX7 cX7_both 4 (some .int) := G
  obtain ⟨hx, hb, -, -, hown, hg, -⟩ := id G
  unfold F_X7_both at hF
  refine lv_aload_n hx hb dX7_both_0 rfl (lv_at hl 0 rfl) ?_
  obtain ⟨r2, w1, z3, hF⟩ := bd_some hF
  refine n_Vv (rest := []) G hI (c_X7_setPlan hA h0 z3) my_X7_setPlan kl_X7_117 (isX7.lt h0) (isX7.sh h0) rfl ⟨Nat.le_of_ble_eq_true rfl, Nat.le_of_ble_eq_true rfl⟩ rfl hl.1 rfl (Nat.le_of_ble_eq_true rfl) dX7_both_1 (fun H locs hI => ?_)
  refine lv_iconst (v := (0 : Int32)) hx hb dX7_both_4 (by decide) ?_
  refine lv_istore_n (lv' := [(1, .int (0 : Int32)), (0, .ref (ad 0))]) hx hb dX7_both_5 rfl hl (by decide) rfl (fun ls hl => ?_)
  refine lv_iconst (v := (0 : Int32)) hx hb dX7_both_6 (by decide) ?_
  refine lv_istore_n (lv' := [(2, .int (0 : Int32)), (1, .int (0 : Int32)), (0, .ref (ad 0))]) hx hb dX7_both_7 rfl hl (by decide) rfl (fun ls hl => ?_)
  refine l_X7_both_8 G h0 (fun x17 w16 H locs ls hF hI hl => ?_) _ _ _ _ _ _ _ hF hI (lv_sub hl [2, 1, 0] rfl)
  refine lv_iload_n hx hb dX7_both_63 rfl (lv_at hl 0 rfl) ?_
  exact n_iret G hI hF rfl dX7_both_64
set_option maxHeartbeats 4000000 in
theorem c_X7_off (hA : AdOk n ad A) (h0 : isX7 n sh 0) {a1 : Int32} {w w' : Mem} {r : Int32} (hF : F_X7_off a1 w = some (r, w')) : Ctr l n sh D cA ad A sa yX7_off cX7_off 2 (some .int) 4 92 [.ref (ad 0), .int a1] w (some (.int r)) w' := by
  refine m_enter hA (by decide) (Nat.le_of_ble_eq_true rfl) ?_
  intro p e s m args below meth c ls G hI hl
  replace hl : lv_has ls 2 [(0, .ref (ad 0)), (1, .int a1)] := hl
  replace G : Mx n D cA ad A sa p s m args meth c RX7 cX7_off 2 (some .int) := G
  obtain ⟨hx, hb, -, -, hown, hg, -⟩ := id G
  unfold F_X7_off at hF
  refine lv_iload_n hx hb dX7_off_0 rfl (lv_at hl 1 rfl) ?_
  obtain ⟨r2, w1, z3, hF⟩ := bd_some hF
  refine n_Si (rest := []) G hI (c_X7_isLeg hA  z3) my_X7_isLeg kl_X7_98 ⟨Nat.le_of_ble_eq_true rfl, Nat.le_of_ble_eq_true rfl⟩ rfl hl.1 rfl (Nat.le_of_ble_eq_true rfl) dX7_off_1 (fun H locs hI => ?_)
  refine lv_if_ne (tgt := 12) hx hb dX7_off_4 (by decide) (fun c14 => ?_) (fun c14 => ?_)
  · replace hF := itn c14 hF
    refine lv_aload_n hx hb dX7_off_12 rfl (lv_at hl 0 rfl) ?_
    obtain ⟨r5, w4, z6, hF⟩ := bd_some hF
    refine n_Vv (rest := []) G hI (c_X7_setPlan hA h0 z6) my_X7_setPlan kl_X7_117 (isX7.lt h0) (isX7.sh h0) rfl ⟨Nat.le_of_ble_eq_true rfl, Nat.le_of_ble_eq_true rfl⟩ rfl hl.1 rfl (Nat.le_of_ble_eq_true rfl) dX7_off_13 (fun H locs hI => ?_)
    refine lv_aload_n hx hb dX7_off_16 rfl (lv_at hl 0 rfl) ?_
    refine lv_iload_n hx hb dX7_off_17 rfl (lv_at hl 1 rfl) ?_
    obtain ⟨r8, w7, z9, hF⟩ := bd_some hF
    refine n_Vi (rest := []) G hI (c_X7_meanOf hA h0 z9) my_X7_meanOf kl_X7_172 (isX7.lt h0) (isX7.sh h0) rfl ⟨Nat.le_of_ble_eq_true rfl, Nat.le_of_ble_eq_true rfl⟩ rfl hl.1 rfl (Nat.le_of_ble_eq_true rfl) dX7_off_18 (fun H locs hI => ?_)
    refine lv_aload_n hx hb dX7_off_21 rfl (lv_at hl 0 rfl) ?_
    refine gf_X7_40 G hI h0 dX7_off_22 ?_
    refine lv_iload_n hx hb dX7_off_25 rfl (lv_at hl 1 rfl) ?_
    obtain ⟨g10, hF⟩ := gd_some hF
    refine n_ald G hI (isX7.plain h0) g10 dX7_off_26 ?_
    refine lv_isub hx hb dX7_off_27 ?_
    exact n_iret G hI hF rfl dX7_off_28
  · replace hF := itp c14 hF
    refine lv_aload_n hx hb dX7_off_7 rfl (lv_at hl 0 rfl) ?_
    obtain ⟨r12, w11, z13, hF⟩ := bd_some hF
    refine n_Vi (rest := []) G hI (c_X7_bad hA h0 z13) my_X7_bad kl_X7_94 (isX7.lt h0) (isX7.sh h0) rfl ⟨Nat.le_of_ble_eq_true rfl, Nat.le_of_ble_eq_true rfl⟩ rfl hl.1 rfl (Nat.le_of_ble_eq_true rfl) dX7_off_8 (fun H locs hI => ?_)
    exact n_iret G hI hF rfl dX7_off_11
set_option maxHeartbeats 4000000 in
theorem l_X7_dies_24 {p : Program} {e : Env} {s : State} {m : MethodId} {args : Array Value} {below : List Frame} {meth : Method} {c : Code} (G : Mx n D cA ad A sa p s m args meth c RX7 cX7_dies 6 (some .int)) {a1 : Int32} {a2 : Int32} (h0 : isX7 n sh 0) {k : Int32 → Mem → Option (Int32 × Mem)} {r : Int32} {w' : Mem}
    (hk : ∀ (v3 : Int32) (w : Mem) (H : Heap) (locs : List Loc) (ls : Array Slot), k v3 w = some (r, w') → Iv n sh D cA ad A s.heap w H locs → lv_has ls 6 [(0, .ref (ad 0)), (2, .int a2), (3, .int v3)] → W p l e ({ frames := 4, cells := 0, slots := 0, locals := 96 } : Room) s m args below meth c H locs 0 0 (QM n sh D cA ad A below args s (some (.int r)) w') (F0 m 89 ls [])) :
    ∀ (N : Nat) (v3 : Int32) (v4 : Int32) (w : Mem) (H : Heap) (locs : List Loc) (ls : Array Slot), L_X7_dies_24 a1 a2 k N v3 v4 w = some (r, w') → Iv n sh D cA ad A s.heap w H locs → lv_has ls 6 [(0, .ref (ad 0)), (1, .int a1), (2, .int a2), (3, .int v3), (4, .int v4)] → W p l e ({ frames := 4, cells := 0, slots := 0, locals := 96 } : Room) s m args below meth c H locs 0 0 (QM n sh D cA ad A below args s (some (.int r)) w') (F0 m 24 ls []) := by
  obtain ⟨hx, hb, -, -, hown, hg, -, -, -, -, hA⟩ := id G
  intro N
  induction N with
  | zero =>
    intro v3 v4 w H locs ls hF hI hl
    cases hF
  | succ N ih =>
    intro v3 v4 w H locs ls hF hI hl
    rw [L_X7_dies_24] at hF
    refine lv_iload hx hb dX7_dies_24 (lv_at hl 4 rfl) ?_
    refine lv_if_lt (tgt := 89) hx hb dX7_dies_26 (by decide) (fun c17 => ?_) (fun c17 => ?_)
    · replace hF := itp c17 hF
      exact hk _ _ _ _ _ hF hI (lv_sub hl [0, 2, 3] rfl)
    · replace hF := itn c17 hF
      refine lv_aload_n hx hb dX7_dies_29 rfl (lv_at hl 0 rfl) ?_
      refine gf_X7_13 G hI h0 dX7_dies_30 ?_
      refine lv_iconst (v := (1 : Int32)) hx hb dX7_dies_33 (by decide) ?_
      refine lv_iload hx hb dX7_dies_34 (lv_at hl 4 rfl) ?_
      obtain ⟨w4, ew4, hF⟩ := lt_some hF
      refine n_ast G hI (isX7.told h0) (by decide) dX7_dies_36 (fun H locs hI => ?_)
      replace hI : Iv n sh D cA ad A s.heap w4 H locs := by rw [ew4]; exact hI
      refine lv_aload_n hx hb dX7_dies_37 rfl (lv_at hl 0 rfl) ?_
      obtain ⟨r6, w5, z7, hF⟩ := bd_some hF
      refine n_Vv (rest := []) G hI (c_X7_setPlan hA h0 z7) my_X7_setPlan kl_X7_117 (isX7.lt h0) (isX7.sh h0) rfl ⟨Nat.le_of_ble_eq_true rfl, Nat.le_of_ble_eq_true rfl⟩ rfl hl.1 rfl (Nat.le_of_ble_eq_true rfl) dX7_dies_38 (fun H locs hI => ?_)
      refine lv_aload_n hx hb dX7_dies_41 rfl (lv_at hl 0 rfl) ?_
      refine lv_iload_n hx hb dX7_dies_42 rfl (lv_at hl 1 rfl) ?_
      refine lv_iconst (v := (0 : Int32)) hx hb dX7_dies_43 (by decide) ?_
      obtain ⟨r9, w8, z10, hF⟩ := bd_some hF
      refine n_Vi (rest := []) G hI (c_X7_gateMany hA h0 z10) my_X7_gateMany kl_X7_175 (isX7.lt h0) (isX7.sh h0) rfl ⟨Nat.le_of_ble_eq_true rfl, Nat.le_of_ble_eq_true rfl⟩ rfl hl.1 rfl (Nat.le_of_ble_eq_true rfl) dX7_dies_44 (fun H locs hI => ?_)
      obtain ⟨k11, ek11, hF⟩ := jn_some hF
      have hJ11 : ∀ (x12 : Int32) (H : Heap) (locs : List Loc) (ls : Array Slot), k11 x12 = some (r, w') → Iv n sh D cA ad A s.heap w8 H locs → lv_has ls 6 [(0, .ref (ad 0)), (1, .int a1), (2, .int a2), (3, .int v3), (4, .int v4)] → W p l e ({ frames := 4, cells := 0, slots := 0, locals := 96 } : Room) s m args below meth c H locs 0 0 (QM n sh D cA ad A below args s (some (.int r)) w') (F0 m 55 ls [.int x12]) := by
        intro x12 H locs ls hF hI hl
        replace hF := (congrFun ek11 x12).symm.trans hF
        refine lv_istore (lv' := [(5, .int x12), (0, .ref (ad 0)), (1, .int a1), (2, .int a2), (3, .int v3), (4, .int v4)]) hx hb dX7_dies_55 hl (by decide) rfl (fun ls hl => ?_)
        refine lv_iload hx hb dX7_dies_57 (lv_at hl 0 rfl) ?_
        refine lv_if_eq (tgt := 81) hx hb dX7_dies_59 (by decide) (fun c15 => ?_) (fun c15 => ?_)
        · replace hF := itp c15 hF
          refine lv_iload_n hx hb dX7_dies_81 rfl (lv_at hl 4 rfl) ?_
          refine lv_istore_n (lv' := [(3, .int v3), (5, .int x12), (0, .ref (ad 0)), (1, .int a1), (2, .int a2), (4, .int v4)]) hx hb dX7_dies_82 rfl hl (by decide) rfl (fun ls hl => ?_)
          refine lv_iinc (v := (v4 + (-1 : Int32))) (lv' := [(4, .int (v4 + (-1 : Int32))), (3, .int v3), (5, .int x12), (0, .ref (ad 0)), (1, .int a1), (2, .int a2)]) hx hb dX7_dies_83 hl (k := 5) rfl rfl (by decide) rfl (fun ls hl => ?_)
          refine lv_goto (tgt := 24) hx hb dX7_dies_86 (by decide) ?_
          exact ih _ _ _ _ _ _ hF hI (lv_sub hl [3, 4, 5, 1, 0] rfl)
        · replace hF := itn c15 hF
          refine lv_iload hx hb dX7_dies_62 (lv_at hl 5 rfl) ?_
          refine lv_iconst (v := (5 : Int32)) hx hb dX7_dies_64 (by decide) ?_
          refine lv_icmp_eq (tgt := 76) hx hb dX7_dies_65 (by decide) (fun c14 => ?_) (fun c14 => ?_)
          · replace hF := itp c14 hF
            refine lv_iload hx hb dX7_dies_76 (lv_at hl 5 rfl) ?_
            refine lv_goto (tgt := 82) hx hb dX7_dies_78 (by decide) ?_
            refine lv_istore_n (lv' := [(3, .int v4), (5, .int x12), (0, .ref (ad 0)), (1, .int a1), (2, .int a2), (4, .int v4)]) hx hb dX7_dies_82 rfl hl (by decide) rfl (fun ls hl => ?_)
            refine lv_iinc (v := (v4 + (-1 : Int32))) (lv' := [(4, .int (v4 + (-1 : Int32))), (3, .int v4), (5, .int x12), (0, .ref (ad 0)), (1, .int a1), (2, .int a2)]) hx hb dX7_dies_83 hl (k := 5) rfl rfl (by decide) rfl (fun ls hl => ?_)
            refine lv_goto (tgt := 24) hx hb dX7_dies_86 (by decide) ?_
            exact ih _ _ _ _ _ _ hF hI (lv_sub hl [3, 4, 5, 1, 0] rfl)
          · replace hF := itn c14 hF
            refine lv_iload_n hx hb dX7_dies_68 rfl (lv_at hl 4 rfl) ?_
            refine lv_iload hx hb dX7_dies_69 (lv_at hl 5 rfl) ?_
            refine lv_iconst (v := (1 : Int32)) hx hb dX7_dies_71 (by decide) ?_
            refine lv_iadd hx hb dX7_dies_72 ?_
            refine lv_icmp_ne (tgt := 81) hx hb dX7_dies_73 (by decide) (fun c13 => ?_) (fun c13 => ?_)
            · replace hF := itn c13 hF
              refine lv_iload_n hx hb dX7_dies_81 rfl (lv_at hl 4 rfl) ?_
              refine lv_istore_n (lv' := [(3, .int v3), (5, .int x12), (0, .ref (ad 0)), (1, .int a1), (2, .int a2), (4, .int v4)]) hx hb dX7_dies_82 rfl hl (by decide) rfl (fun ls hl => ?_)
              refine lv_iinc (v := (v4 + (-1 : Int32))) (lv' := [(4, .int (v4 + (-1 : Int32))), (3, .int v3), (5, .int x12), (0, .ref (ad 0)), (1, .int a1), (2, .int a2)]) hx hb dX7_dies_83 hl (k := 5) rfl rfl (by decide) rfl (fun ls hl => ?_)
              refine lv_goto (tgt := 24) hx hb dX7_dies_86 (by decide) ?_
              exact ih _ _ _ _ _ _ hF hI (lv_sub hl [3, 4, 5, 1, 0] rfl)
            · replace hF := itp c13 hF
              refine lv_iload hx hb dX7_dies_76 (lv_at hl 5 rfl) ?_
              refine lv_goto (tgt := 82) hx hb dX7_dies_78 (by decide) ?_
              refine lv_istore_n (lv' := [(3, .int v4), (5, .int x12), (0, .ref (ad 0)), (1, .int a1), (2, .int a2), (4, .int v4)]) hx hb dX7_dies_82 rfl hl (by decide) rfl (fun ls hl => ?_)
              refine lv_iinc (v := (v4 + (-1 : Int32))) (lv' := [(4, .int (v4 + (-1 : Int32))), (3, .int v4), (5, .int x12), (0, .ref (ad 0)), (1, .int a1), (2, .int a2)]) hx hb dX7_dies_83 hl (k := 5) rfl rfl (by decide) rfl (fun ls hl => ?_)
              refine lv_goto (tgt := 24) hx hb dX7_dies_86 (by decide) ?_
              exact ih _ _ _ _ _ _ hF hI (lv_sub hl [3, 4, 5, 1, 0] rfl)
      refine lv_if_ne (tgt := 54) hx hb dX7_dies_47 (by decide) (fun c16 => ?_) (fun c16 => ?_)
      · replace hF := itn c16 hF
        refine lv_iconst (v := (0 : Int32)) hx hb dX7_dies_54 (by decide) ?_
        exact hJ11 _ _ _ _ hF hI (lv_sub hl [0, 1, 2, 3, 4] rfl)
      · replace hF := itp c16 hF
        refine lv_iconst (v := (1 : Int32)) hx hb dX7_dies_50 (by decide) ?_
        refine lv_goto (tgt := 55) hx hb dX7_dies_51 (by decide) ?_
        exact hJ11 _ _ _ _ hF hI (lv_sub hl [0, 1, 2, 3, 4] rfl)
set_option maxHeartbeats 4000000 in
theorem c_X7_dies (hA : AdOk n ad A) (h0 : isX7 n sh 0) {a1 : Int32} {w w' : Mem} {r : Int32} (hF : F_X7_dies a1 w = some (r, w')) : Ctr l n sh D cA ad A sa yX7_dies cX7_dies 6 (some .int) 4 96 [.ref (ad 0), .int a1] w (some (.int r)) w' := by
  refine m_enter hA (by decide) (Nat.le_of_ble_eq_true rfl) ?_
  intro p e s m args below meth c ls G hI hl
  replace hl : lv_has ls 6 [(0, .ref (ad 0)), (1, .int a1)] := hl
  replace G : Mx n D cA ad A sa p s m args meth c RX7 cX7_dies 6 (some .int) := G
  obtain ⟨hx, hb, -, -, hown, hg, -⟩ := id G
  unfold F_X7_dies at hF
  refine lv_iload_n hx hb dX7_dies_0 rfl (lv_at hl 1 rfl) ?_
  obtain ⟨r2, w1, z3, hF⟩ := bd_some hF
  refine n_Si (rest := []) G hI (c_X7_isLeg hA  z3) my_X7_isLeg kl_X7_98 ⟨Nat.le_of_ble_eq_true rfl, Nat.le_of_ble_eq_true rfl⟩ rfl hl.1 rfl (Nat.le_of_ble_eq_true rfl) dX7_dies_1 (fun H locs hI => ?_)
  refine lv_if_ne (tgt := 12) hx hb dX7_dies_4 (by decide) (fun c24 => ?_) (fun c24 => ?_)
  · replace hF := itn c24 hF
    refine lv_aload_n hx hb dX7_dies_12 rfl (lv_at hl 0 rfl) ?_
    refine gf_X7_13 G hI h0 dX7_dies_13 ?_
    refine lv_iconst (v := (1 : Int32)) hx hb dX7_dies_16 (by decide) ?_
    refine n_ald G hI (isX7.told h0) (by decide) dX7_dies_17 ?_
    refine W.eq (g2 := F0 m 18 ls [.int (w1 2 1)]) rfl ?_
    refine lv_istore_n (lv' := [(2, .int (w1 2 1)), (0, .ref (ad 0)), (1, .int a1)]) hx hb dX7_dies_18 rfl hl (by decide) rfl (fun ls hl => ?_)
    refine lv_iconst (v := (-1 : Int32)) hx hb dX7_dies_19 (by decide) ?_
    refine lv_istore_n (lv' := [(3, .int (-1 : Int32)), (2, .int (w1 2 1)), (0, .ref (ad 0)), (1, .int a1)]) hx hb dX7_dies_20 rfl hl (by decide) rfl (fun ls hl => ?_)
    refine lv_iconst (v := (5 : Int32)) hx hb dX7_dies_21 (by decide) ?_
    refine lv_istore (lv' := [(4, .int (5 : Int32)), (3, .int (-1 : Int32)), (2, .int (w1 2 1)), (0, .ref (ad 0)), (1, .int a1)]) hx hb dX7_dies_22 hl (by decide) rfl (fun ls hl => ?_)
    refine l_X7_dies_24 G h0 (fun x19 w18 H locs ls hF hI hl => ?_) _ _ _ _ _ _ _ hF hI (lv_sub hl [3, 4, 2, 1, 0] rfl)
    refine lv_aload_n hx hb dX7_dies_89 rfl (lv_at hl 0 rfl) ?_
    refine gf_X7_13 G hI h0 dX7_dies_90 ?_
    refine lv_iconst (v := (1 : Int32)) hx hb dX7_dies_93 (by decide) ?_
    refine lv_iload_n hx hb dX7_dies_94 rfl (lv_at hl 1 rfl) ?_
    obtain ⟨w20, ew20, hF⟩ := lt_some hF
    refine n_ast G hI (isX7.told h0) (by decide) dX7_dies_95 (fun H locs hI => ?_)
    replace hI : Iv n sh D cA ad A s.heap w20 H locs := by rw [ew20]; exact hI
    refine lv_iload_n hx hb dX7_dies_96 rfl (lv_at hl 2 rfl) ?_
    exact n_iret G hI hF rfl dX7_dies_97
  · replace hF := itp c24 hF
    refine lv_aload_n hx hb dX7_dies_7 rfl (lv_at hl 0 rfl) ?_
    obtain ⟨r22, w21, z23, hF⟩ := bd_some hF
    refine n_Vi (rest := []) G hI (c_X7_bad hA h0 z23) my_X7_bad kl_X7_94 (isX7.lt h0) (isX7.sh h0) rfl ⟨Nat.le_of_ble_eq_true rfl, Nat.le_of_ble_eq_true rfl⟩ rfl hl.1 rfl (Nat.le_of_ble_eq_true rfl) dX7_dies_8 (fun H locs hI => ?_)
    exact n_iret G hI hF rfl dX7_dies_11
set_option maxHeartbeats 4000000 in
theorem c_X7_comesEvent (hA : AdOk n ad A) (h0 : isX7 n sh 0) {a1 : Int32} {a2 : Int32} {a3 : Int32} {a4 : Int32} {a5 : Int32} {a6 : Int32} {w w' : Mem} {r : Unit} (hF : F_X7_comesEvent a1 a2 a3 a4 a5 a6 w = some (r, w')) : Ctr l n sh D cA ad A sa yX7_comesEvent cX7_comesEvent 7 none 0 0 [.ref (ad 0), .int a1, .int a2, .int a3, .int a4, .int a5, .int a6] w none w' := by
  refine m_enter hA (by decide) (Nat.le_of_ble_eq_true rfl) ?_
  intro p e s m args below meth c ls G hI hl
  replace hl : lv_has ls 7 [(0, .ref (ad 0)), (1, .int a1), (2, .int a2), (3, .int a3), (4, .int a4), (5, .int a5), (6, .int a6)] := hl
  replace G : Mx n D cA ad A sa p s m args meth c RX7 cX7_comesEvent 7 none := G
  obtain ⟨hx, hb, -, -, hown, hg, -⟩ := id G
  unfold F_X7_comesEvent at hF
  refine lv_iload hx hb dX7_comesEvent_0 (lv_at hl 5 rfl) ?_
  refine lv_iload hx hb dX7_comesEvent_2 (lv_at hl 6 rfl) ?_
  refine lv_icmp_eq (tgt := 55) hx hb dX7_comesEvent_4 (by decide) (fun c11 => ?_) (fun c11 => ?_)
  · replace hF := itp c11 hF
    exact n_vret G hI hF rfl dX7_comesEvent_55
  · replace hF := itn c11 hF
    refine lv_aload_n hx hb dX7_comesEvent_7 rfl (lv_at hl 0 rfl) ?_
    refine gf_X7_187 G hI h0 dX7_comesEvent_8 ?_
    refine lv_iload_n hx hb dX7_comesEvent_11 rfl (lv_at hl 1 rfl) ?_
    refine lv_icmp_ne (tgt := 45) hx hb dX7_comesEvent_12 (by decide) (fun c10 => ?_) (fun c10 => ?_)
    · replace hF := itn c10 hF
      refine lv_aload_n hx hb dX7_comesEvent_45 rfl (lv_at hl 0 rfl) ?_
      refine lv_dup hx hb dX7_comesEvent_46 rfl ?_
      refine gf_X7_187 G hI h0 dX7_comesEvent_47 ?_
      refine lv_iconst (v := (1 : Int32)) hx hb dX7_comesEvent_50 (by decide) ?_
      refine lv_iadd hx hb dX7_comesEvent_51 ?_
      obtain ⟨w1, ew1, hF⟩ := lt_some hF
      refine pf_X7_187 G hI h0 dX7_comesEvent_52 (fun H locs hI => ?_)
      replace hI : Iv n sh D cA ad A s.heap w1 H locs := by rw [ew1]; exact hI
      exact n_vret G hI hF rfl dX7_comesEvent_55
    · replace hF := itp c10 hF
      refine lv_aload_n hx hb dX7_comesEvent_15 rfl (lv_at hl 0 rfl) ?_
      refine lv_iload_n hx hb dX7_comesEvent_16 rfl (lv_at hl 2 rfl) ?_
      obtain ⟨w2, ew2, hF⟩ := lt_some hF
      refine pf_X7_190 G hI h0 dX7_comesEvent_17 (fun H locs hI => ?_)
      replace hI : Iv n sh D cA ad A s.heap w2 H locs := by rw [ew2]; exact hI
      refine lv_aload_n hx hb dX7_comesEvent_20 rfl (lv_at hl 0 rfl) ?_
      refine lv_iload_n hx hb dX7_comesEvent_21 rfl (lv_at hl 3 rfl) ?_
      obtain ⟨w3, ew3, hF⟩ := lt_some hF
      refine pf_X7_193 G hI h0 dX7_comesEvent_22 (fun H locs hI => ?_)
      replace hI : Iv n sh D cA ad A s.heap w3 H locs := by rw [ew3]; exact hI
      refine lv_aload_n hx hb dX7_comesEvent_25 rfl (lv_at hl 0 rfl) ?_
      refine lv_iload hx hb dX7_comesEvent_26 (lv_at hl 4 rfl) ?_
      obtain ⟨w4, ew4, hF⟩ := lt_some hF
      refine pf_X7_196 G hI h0 dX7_comesEvent_28 (fun H locs hI => ?_)
      replace hI : Iv n sh D cA ad A s.heap w4 H locs := by rw [ew4]; exact hI
      refine lv_aload_n hx hb dX7_comesEvent_31 rfl (lv_at hl 0 rfl) ?_
      refine lv_iload hx hb dX7_comesEvent_32 (lv_at hl 5 rfl) ?_
      refine lv_if_eq (tgt := 41) hx hb dX7_comesEvent_34 (by decide) (fun c9 => ?_) (fun c9 => ?_)
      · replace hF := itp c9 hF
        refine lv_iconst (v := (0 : Int32)) hx hb dX7_comesEvent_41 (by decide) ?_
        obtain ⟨w5, ew5, hF⟩ := lt_some hF
        refine pf_X7_199 G hI h0 dX7_comesEvent_42 (fun H locs hI => ?_)
        replace hI : Iv n sh D cA ad A s.heap w5 H locs := by rw [ew5]; exact hI
        refine lv_aload_n hx hb dX7_comesEvent_45 rfl (lv_at hl 0 rfl) ?_
        refine lv_dup hx hb dX7_comesEvent_46 rfl ?_
        refine gf_X7_187 G hI h0 dX7_comesEvent_47 ?_
        refine lv_iconst (v := (1 : Int32)) hx hb dX7_comesEvent_50 (by decide) ?_
        refine lv_iadd hx hb dX7_comesEvent_51 ?_
        obtain ⟨w6, ew6, hF⟩ := lt_some hF
        refine pf_X7_187 G hI h0 dX7_comesEvent_52 (fun H locs hI => ?_)
        replace hI : Iv n sh D cA ad A s.heap w6 H locs := by rw [ew6]; exact hI
        exact n_vret G hI hF rfl dX7_comesEvent_55
      · replace hF := itn c9 hF
        refine lv_iconst (v := (1 : Int32)) hx hb dX7_comesEvent_37 (by decide) ?_
        refine lv_goto (tgt := 42) hx hb dX7_comesEvent_38 (by decide) ?_
        obtain ⟨w7, ew7, hF⟩ := lt_some hF
        refine pf_X7_199 G hI h0 dX7_comesEvent_42 (fun H locs hI => ?_)
        replace hI : Iv n sh D cA ad A s.heap w7 H locs := by rw [ew7]; exact hI
        refine lv_aload_n hx hb dX7_comesEvent_45 rfl (lv_at hl 0 rfl) ?_
        refine lv_dup hx hb dX7_comesEvent_46 rfl ?_
        refine gf_X7_187 G hI h0 dX7_comesEvent_47 ?_
        refine lv_iconst (v := (1 : Int32)) hx hb dX7_comesEvent_50 (by decide) ?_
        refine lv_iadd hx hb dX7_comesEvent_51 ?_
        obtain ⟨w8, ew8, hF⟩ := lt_some hF
        refine pf_X7_187 G hI h0 dX7_comesEvent_52 (fun H locs hI => ?_)
        replace hI : Iv n sh D cA ad A s.heap w8 H locs := by rw [ew8]; exact hI
        exact n_vret G hI hF rfl dX7_comesEvent_55
set_option maxHeartbeats 4000000 in
theorem l_X7_setEvents_42 {p : Program} {e : Env} {s : State} {m : MethodId} {args : Array Value} {below : List Frame} {meth : Method} {c : Code} (G : Mx n D cA ad A sa p s m args meth c RX7 cX7_setEvents 5 none) {a1 : Int32} {a2 : Int32} {a3 : Int32} (h0 : isX7 n sh 0) {k : Mem → Option (Unit × Mem)} {r : Unit} {w' : Mem}
    (hk : ∀  (w : Mem) (H : Heap) (locs : List Loc) (ls : Array Slot), k  w = some (r, w') → Iv n sh D cA ad A s.heap w H locs → lv_has ls 5 [(0, .ref (ad 0)), (1, .int a1), (2, .int a2)] → W p l e ({ frames := 3, cells := 0, slots := 0, locals := 68 } : Room) s m args below meth c H locs 0 0 (QM n sh D cA ad A below args s none w') (F0 m 100 ls [])) :
    ∀ (N : Nat) (v4 : Int32) (w : Mem) (H : Heap) (locs : List Loc) (ls : Array Slot), L_X7_setEvents_42 a1 a2 a3 k N v4 w = some (r, w') → Iv n sh D cA ad A s.heap w H locs → lv_has ls 5 [(0, .ref (ad 0)), (1, .int a1), (2, .int a2), (3, .int a3), (4, .int v4)] → W p l e ({ frames := 3, cells := 0, slots := 0, locals := 68 } : Room) s m args below meth c H locs 0 0 (QM n sh D cA ad A below args s none w') (F0 m 42 ls []) := by
  obtain ⟨hx, hb, -, -, hown, hg, -, -, -, -, hA⟩ := id G
  intro N
  induction N with
  | zero =>
    intro v4 w H locs ls hF hI hl
    cases hF
  | succ N ih =>
    intro v4 w H locs ls hF hI hl
    rw [L_X7_setEvents_42] at hF
    refine lv_iload hx hb dX7_setEvents_42 (lv_at hl 4 rfl) ?_
    refine lv_iconst (v := (3 : Int32)) hx hb dX7_setEvents_44 (by decide) ?_
    refine lv_icmp_ge (tgt := 100) hx hb dX7_setEvents_45 (by decide) (fun c25 => ?_) (fun c25 => ?_)
    · replace hF := itp c25 hF
      exact hk _ _ _ _ hF hI (lv_sub hl [0, 1, 2] rfl)
    · replace hF := itn c25 hF
      refine lv_aload_n hx hb dX7_setEvents_48 rfl (lv_at hl 0 rfl) ?_
      refine lv_iload_n hx hb dX7_setEvents_49 rfl (lv_at hl 1 rfl) ?_
      refine lv_iload_n hx hb dX7_setEvents_50 rfl (lv_at hl 2 rfl) ?_
      refine lv_iload hx hb dX7_setEvents_51 (lv_at hl 4 rfl) ?_
      refine lv_iconst (v := (0 : Int32)) hx hb dX7_setEvents_53 (by decide) ?_
      refine lv_aload_n hx hb dX7_setEvents_54 rfl (lv_at hl 0 rfl) ?_
      refine lv_iload hx hb dX7_setEvents_55 (lv_at hl 4 rfl) ?_
      refine lv_iload_n hx hb dX7_setEvents_57 rfl (lv_at hl 2 rfl) ?_
      obtain ⟨r8, w7, z9, hF⟩ := bd_some hF
      refine n_Vi (rest := [.int (0 : Int32), .int v4, .int a2, .int a1, .ref (ad 0)]) G hI (c_X7_upper hA h0 z9) my_X7_upper kl_X7_166 (isX7.lt h0) (isX7.sh h0) rfl ⟨Nat.le_of_ble_eq_true rfl, Nat.le_of_ble_eq_true rfl⟩ rfl hl.1 rfl (Nat.le_of_ble_eq_true rfl) dX7_setEvents_58 (fun H locs hI => ?_)
      refine lv_aload_n hx hb dX7_setEvents_61 rfl (lv_at hl 0 rfl) ?_
      refine lv_iload hx hb dX7_setEvents_62 (lv_at hl 4 rfl) ?_
      refine lv_iload_n hx hb dX7_setEvents_64 rfl (lv_at hl 3 rfl) ?_
      obtain ⟨r11, w10, z12, hF⟩ := bd_some hF
      refine n_Vi (rest := [.int r8, .int (0 : Int32), .int v4, .int a2, .int a1, .ref (ad 0)]) G hI (c_X7_upper hA h0 z12) my_X7_upper kl_X7_166 (isX7.lt h0) (isX7.sh h0) rfl ⟨Nat.le_of_ble_eq_true rfl, Nat.le_of_ble_eq_true rfl⟩ rfl hl.1 rfl (Nat.le_of_ble_eq_true rfl) dX7_setEvents_65 (fun H locs hI => ?_)
      obtain ⟨r14, w13, z15, hF⟩ := bd_some hF
      refine n_Vv (rest := []) G hI (c_X7_comesEvent hA h0 z15) my_X7_comesEvent kl_X7_202 (isX7.lt h0) (isX7.sh h0) rfl ⟨Nat.le_of_ble_eq_true rfl, Nat.le_of_ble_eq_true rfl⟩ rfl hl.1 rfl (Nat.le_of_ble_eq_true rfl) dX7_setEvents_68 (fun H locs hI => ?_)
      refine lv_aload_n hx hb dX7_setEvents_71 rfl (lv_at hl 0 rfl) ?_
      refine lv_iload_n hx hb dX7_setEvents_72 rfl (lv_at hl 1 rfl) ?_
      refine lv_iload_n hx hb dX7_setEvents_73 rfl (lv_at hl 2 rfl) ?_
      refine lv_iload hx hb dX7_setEvents_74 (lv_at hl 4 rfl) ?_
      refine lv_iconst (v := (1 : Int32)) hx hb dX7_setEvents_76 (by decide) ?_
      refine lv_aload_n hx hb dX7_setEvents_77 rfl (lv_at hl 0 rfl) ?_
      refine lv_iload hx hb dX7_setEvents_78 (lv_at hl 4 rfl) ?_
      refine lv_iload_n hx hb dX7_setEvents_80 rfl (lv_at hl 2 rfl) ?_
      obtain ⟨r17, w16, z18, hF⟩ := bd_some hF
      refine n_Vi (rest := [.int (1 : Int32), .int v4, .int a2, .int a1, .ref (ad 0)]) G hI (c_X7_lower hA h0 z18) my_X7_lower kl_X7_169 (isX7.lt h0) (isX7.sh h0) rfl ⟨Nat.le_of_ble_eq_true rfl, Nat.le_of_ble_eq_true rfl⟩ rfl hl.1 rfl (Nat.le_of_ble_eq_true rfl) dX7_setEvents_81 (fun H locs hI => ?_)
      refine lv_aload_n hx hb dX7_setEvents_84 rfl (lv_at hl 0 rfl) ?_
      refine lv_iload hx hb dX7_setEvents_85 (lv_at hl 4 rfl) ?_
      refine lv_iload_n hx hb dX7_setEvents_87 rfl (lv_at hl 3 rfl) ?_
      obtain ⟨r20, w19, z21, hF⟩ := bd_some hF
      refine n_Vi (rest := [.int r17, .int (1 : Int32), .int v4, .int a2, .int a1, .ref (ad 0)]) G hI (c_X7_lower hA h0 z21) my_X7_lower kl_X7_169 (isX7.lt h0) (isX7.sh h0) rfl ⟨Nat.le_of_ble_eq_true rfl, Nat.le_of_ble_eq_true rfl⟩ rfl hl.1 rfl (Nat.le_of_ble_eq_true rfl) dX7_setEvents_88 (fun H locs hI => ?_)
      obtain ⟨r23, w22, z24, hF⟩ := bd_some hF
      refine n_Vv (rest := []) G hI (c_X7_comesEvent hA h0 z24) my_X7_comesEvent kl_X7_202 (isX7.lt h0) (isX7.sh h0) rfl ⟨Nat.le_of_ble_eq_true rfl, Nat.le_of_ble_eq_true rfl⟩ rfl hl.1 rfl (Nat.le_of_ble_eq_true rfl) dX7_setEvents_91 (fun H locs hI => ?_)
      refine lv_iinc (v := (v4 + (1 : Int32))) (lv' := [(4, .int (v4 + (1 : Int32))), (0, .ref (ad 0)), (1, .int a1), (2, .int a2), (3, .int a3)]) hx hb dX7_setEvents_94 hl (k := 4) rfl rfl (by decide) rfl (fun ls hl => ?_)
      refine lv_goto (tgt := 42) hx hb dX7_setEvents_97 (by decide) ?_
      exact ih _ _ _ _ _ hF hI (lv_sub hl [1, 2, 3, 4, 0] rfl)
set_option maxHeartbeats 4000000 in
theorem l_X7_setEvents_11 {p : Program} {e : Env} {s : State} {m : MethodId} {args : Array Value} {below : List Frame} {meth : Method} {c : Code} (G : Mx n D cA ad A sa p s m args meth c RX7 cX7_setEvents 5 none) {a1 : Int32} (h0 : isX7 n sh 0) {k : Mem → Option (Unit × Mem)} {r : Unit} {w' : Mem}
    (hk : ∀  (w : Mem) (H : Heap) (locs : List Loc) (ls : Array Slot), k  w = some (r, w') → Iv n sh D cA ad A s.heap w H locs → lv_has ls 5 [] → W p l e ({ frames := 3, cells := 0, slots := 0, locals := 68 } : Room) s m args below meth c H locs 0 0 (QM n sh D cA ad A below args s none w') (F0 m 106 ls [])) :
    ∀ (N : Nat) (v2 : Int32) (w : Mem) (H : Heap) (locs : List Loc) (ls : Array Slot), L_X7_setEvents_11 a1 k N v2 w = some (r, w') → Iv n sh D cA ad A s.heap w H locs → lv_has ls 5 [(0, .ref (ad 0)), (1, .int a1), (2, .int v2)] → W p l e ({ frames := 3, cells := 0, slots := 0, locals := 68 } : Room) s m args below meth c H locs 0 0 (QM n sh D cA ad A below args s none w') (F0 m 11 ls []) := by
  obtain ⟨hx, hb, -, -, hown, hg, -, -, -, -, hA⟩ := id G
  intro N
  induction N with
  | zero =>
    intro v2 w H locs ls hF hI hl
    cases hF
  | succ N ih =>
    intro v2 w H locs ls hF hI hl
    rw [L_X7_setEvents_11] at hF
    refine lv_iload_n hx hb dX7_setEvents_11 rfl (lv_at hl 2 rfl) ?_
    refine lv_aload_n hx hb dX7_setEvents_12 rfl (lv_at hl 0 rfl) ?_
    refine gf_X7_13 G hI h0 dX7_setEvents_13 ?_
    refine lv_iconst (v := (0 : Int32)) hx hb dX7_setEvents_16 (by decide) ?_
    refine n_ald G hI (isX7.told h0) (by decide) dX7_setEvents_17 ?_
    refine W.eq (g2 := F0 m 18 ls [.int (w 2 0), .int v2]) rfl ?_
    refine lv_icmp_ge (tgt := 106) hx hb dX7_setEvents_18 (by decide) (fun c27 => ?_) (fun c27 => ?_)
    · replace hF := itp c27 hF
      exact hk _ _ _ _ hF hI (lv_sub hl [] rfl)
    · replace hF := itn c27 hF
      refine lv_iload_n hx hb dX7_setEvents_21 rfl (lv_at hl 2 rfl) ?_
      refine lv_aload_n hx hb dX7_setEvents_22 rfl (lv_at hl 0 rfl) ?_
      refine gf_X7_13 G hI h0 dX7_setEvents_23 ?_
      refine lv_iconst (v := (0 : Int32)) hx hb dX7_setEvents_26 (by decide) ?_
      refine n_ald G hI (isX7.told h0) (by decide) dX7_setEvents_27 ?_
      refine W.eq (g2 := F0 m 28 ls [.int (w 2 0), .int v2]) rfl ?_
      refine lv_iadd hx hb dX7_setEvents_28 ?_
      refine lv_iconst (v := (1 : Int32)) hx hb dX7_setEvents_29 (by decide) ?_
      refine lv_isub hx hb dX7_setEvents_30 ?_
      refine lv_aload_n hx hb dX7_setEvents_31 rfl (lv_at hl 0 rfl) ?_
      refine gf_X7_13 G hI h0 dX7_setEvents_32 ?_
      refine lv_iconst (v := (0 : Int32)) hx hb dX7_setEvents_35 (by decide) ?_
      refine n_ald G hI (isX7.told h0) (by decide) dX7_setEvents_36 ?_
      refine W.eq (g2 := F0 m 37 ls [.int (w 2 0), .int ((v2 + (w 2 0)) - (1 : Int32))]) rfl ?_
      obtain ⟨g5, hF⟩ := gd_some hF
      refine n_irem G g5 dX7_setEvents_37 ?_
      obtain ⟨x6, ex6, hF⟩ := lt_some hF
      refine W.eq (g2 := F0 m 38 ls [.int x6]) (by rw [ex6]) ?_
      refine lv_istore_n (lv' := [(3, .int x6), (0, .ref (ad 0)), (1, .int a1), (2, .int v2)]) hx hb dX7_setEvents_38 rfl hl (by decide) rfl (fun ls hl => ?_)
      refine lv_iconst (v := (0 : Int32)) hx hb dX7_setEvents_39 (by decide) ?_
      refine lv_istore (lv' := [(4, .int (0 : Int32)), (3, .int x6), (0, .ref (ad 0)), (1, .int a1), (2, .int v2)]) hx hb dX7_setEvents_40 hl (by decide) rfl (fun ls hl => ?_)
      refine l_X7_setEvents_42 G h0 (fun w26 H locs ls hF hI hl => ?_) _ _ _ _ _ _ hF hI (lv_sub hl [2, 3, 4, 1, 0] rfl)
      refine lv_iinc (v := (v2 + (1 : Int32))) (lv' := [(2, .int (v2 + (1 : Int32))), (0, .ref (ad 0)), (1, .int a1)]) hx hb dX7_setEvents_100 hl (k := 2) rfl rfl (by decide) rfl (fun ls hl => ?_)
      refine lv_goto (tgt := 11) hx hb dX7_setEvents_103 (by decide) ?_
      exact ih _ _ _ _ _ hF hI (lv_sub hl [1, 2, 0] rfl)
set_option maxHeartbeats 4000000 in
theorem c_X7_setEvents (hA : AdOk n ad A) (h0 : isX7 n sh 0) {a1 : Int32} {w w' : Mem} {r : Unit} (hF : F_X7_setEvents a1 w = some (r, w')) : Ctr l n sh D cA ad A sa yX7_setEvents cX7_setEvents 5 none 3 68 [.ref (ad 0), .int a1] w none w' := by
  refine m_enter hA (by decide) (Nat.le_of_ble_eq_true rfl) ?_
  intro p e s m args below meth c ls G hI hl
  replace hl : lv_has ls 5 [(0, .ref (ad 0)), (1, .int a1)] := hl
  replace G : Mx n D cA ad A sa p s m args meth c RX7 cX7_setEvents 5 none := G
  obtain ⟨hx, hb, -, -, hown, hg, -⟩ := id G
  unfold F_X7_setEvents at hF
  refine lv_aload_n hx hb dX7_setEvents_0 rfl (lv_at hl 0 rfl) ?_
  obtain ⟨r2, w1, z3, hF⟩ := bd_some hF
  refine n_Vv (rest := []) G hI (c_X7_setPlan hA h0 z3) my_X7_setPlan kl_X7_117 (isX7.lt h0) (isX7.sh h0) rfl ⟨Nat.le_of_ble_eq_true rfl, Nat.le_of_ble_eq_true rfl⟩ rfl hl.1 rfl (Nat.le_of_ble_eq_true rfl) dX7_setEvents_1 (fun H locs hI => ?_)
  refine lv_aload_n hx hb dX7_setEvents_4 rfl (lv_at hl 0 rfl) ?_
  refine lv_iconst (v := (0 : Int32)) hx hb dX7_setEvents_5 (by decide) ?_
  obtain ⟨w4, ew4, hF⟩ := lt_some hF
  refine pf_X7_187 G hI h0 dX7_setEvents_6 (fun H locs hI => ?_)
  replace hI : Iv n sh D cA ad A s.heap w4 H locs := by rw [ew4]; exact hI
  refine lv_iconst (v := (0 : Int32)) hx hb dX7_setEvents_9 (by decide) ?_
  refine lv_istore_n (lv' := [(2, .int (0 : Int32)), (0, .ref (ad 0)), (1, .int a1)]) hx hb dX7_setEvents_10 rfl hl (by decide) rfl (fun ls hl => ?_)
  refine l_X7_setEvents_11 G h0 (fun w28 H locs ls hF hI hl => ?_) _ _ _ _ _ _ hF hI (lv_sub hl [1, 2, 0] rfl)
  exact n_vret G hI hF rfl dX7_setEvents_106
set_option maxHeartbeats 4000000 in
theorem c_X7_event (hA : AdOk n ad A) (h0 : isX7 n sh 0) {a1 : Int32} {a2 : Int32} {w w' : Mem} {r : Int32} (hF : F_X7_event a1 a2 w = some (r, w')) : Ctr l n sh D cA ad A sa yX7_event cX7_event 3 (some .int) 4 92 [.ref (ad 0), .int a1, .int a2] w (some (.int r)) w' := by
  refine m_enter hA (by decide) (Nat.le_of_ble_eq_true rfl) ?_
  intro p e s m args below meth c ls G hI hl
  replace hl : lv_has ls 3 [(0, .ref (ad 0)), (1, .int a1), (2, .int a2)] := hl
  replace G : Mx n D cA ad A sa p s m args meth c RX7 cX7_event 3 (some .int) := G
  obtain ⟨hx, hb, -, -, hown, hg, -⟩ := id G
  unfold F_X7_event at hF
  refine lv_iload_n hx hb dX7_event_0 rfl (lv_at hl 1 rfl) ?_
  refine lv_if_lt (tgt := 13) hx hb dX7_event_1 (by decide) (fun c18 => ?_) (fun c18 => ?_)
  · replace hF := itp c18 hF
    refine lv_aload_n hx hb dX7_event_13 rfl (lv_at hl 0 rfl) ?_
    obtain ⟨r2, w1, z3, hF⟩ := bd_some hF
    refine n_Vi (rest := []) G hI (c_X7_bad hA h0 z3) my_X7_bad kl_X7_94 (isX7.lt h0) (isX7.sh h0) rfl ⟨Nat.le_of_ble_eq_true rfl, Nat.le_of_ble_eq_true rfl⟩ rfl hl.1 rfl (Nat.le_of_ble_eq_true rfl) dX7_event_14 (fun H locs hI => ?_)
    exact n_iret G hI hF rfl dX7_event_17
  · replace hF := itn c18 hF
    refine lv_iload_n hx hb dX7_event_4 rfl (lv_at hl 2 rfl) ?_
    refine lv_iconst (v := (0 : Int32)) hx hb dX7_event_5 (by decide) ?_
    refine lv_iconst (v := (3 : Int32)) hx hb dX7_event_6 (by decide) ?_
    obtain ⟨r5, w4, z6, hF⟩ := bd_some hF
    refine n_Si (rest := []) G hI (c_X7_in hA  z6) my_X7_in kl_X7_86 ⟨Nat.le_of_ble_eq_true rfl, Nat.le_of_ble_eq_true rfl⟩ rfl hl.1 rfl (Nat.le_of_ble_eq_true rfl) dX7_event_7 (fun H locs hI => ?_)
    refine lv_if_ne (tgt := 18) hx hb dX7_event_10 (by decide) (fun c17 => ?_) (fun c17 => ?_)
    · replace hF := itn c17 hF
      refine lv_aload_n hx hb dX7_event_18 rfl (lv_at hl 0 rfl) ?_
      refine lv_iload_n hx hb dX7_event_19 rfl (lv_at hl 1 rfl) ?_
      obtain ⟨r8, w7, z9, hF⟩ := bd_some hF
      refine n_Vv (rest := []) G hI (c_X7_setEvents hA h0 z9) my_X7_setEvents kl_X7_206 (isX7.lt h0) (isX7.sh h0) rfl ⟨Nat.le_of_ble_eq_true rfl, Nat.le_of_ble_eq_true rfl⟩ rfl hl.1 rfl (Nat.le_of_ble_eq_true rfl) dX7_event_20 (fun H locs hI => ?_)
      refine lv_iload_n hx hb dX7_event_23 rfl (lv_at hl 1 rfl) ?_
      refine lv_aload_n hx hb dX7_event_24 rfl (lv_at hl 0 rfl) ?_
      refine gf_X7_187 G hI h0 dX7_event_25 ?_
      refine lv_icmp_lt (tgt := 33) hx hb dX7_event_28 (by decide) (fun c13 => ?_) (fun c13 => ?_)
      · replace hF := itp c13 hF
        refine lv_iload_n hx hb dX7_event_33 rfl (lv_at hl 2 rfl) ?_
        refine lv_if_ne (tgt := 44) hx hb dX7_event_34 (by decide) (fun c12 => ?_) (fun c12 => ?_)
        · replace hF := itn c12 hF
          refine lv_iload_n hx hb dX7_event_44 rfl (lv_at hl 2 rfl) ?_
          refine lv_iconst (v := (1 : Int32)) hx hb dX7_event_45 (by decide) ?_
          refine lv_icmp_ne (tgt := 56) hx hb dX7_event_46 (by decide) (fun c11 => ?_) (fun c11 => ?_)
          · replace hF := itn c11 hF
            refine lv_iload_n hx hb dX7_event_56 rfl (lv_at hl 2 rfl) ?_
            refine lv_iconst (v := (2 : Int32)) hx hb dX7_event_57 (by decide) ?_
            refine lv_icmp_ne (tgt := 68) hx hb dX7_event_58 (by decide) (fun c10 => ?_) (fun c10 => ?_)
            · replace hF := itn c10 hF
              refine lv_aload_n hx hb dX7_event_68 rfl (lv_at hl 0 rfl) ?_
              refine gf_X7_199 G hI h0 dX7_event_69 ?_
              exact n_iret G hI hF rfl dX7_event_72
            · replace hF := itp c10 hF
              refine lv_aload_n hx hb dX7_event_61 rfl (lv_at hl 0 rfl) ?_
              refine gf_X7_196 G hI h0 dX7_event_62 ?_
              refine lv_goto (tgt := 72) hx hb dX7_event_65 (by decide) ?_
              exact n_iret G hI hF rfl dX7_event_72
          · replace hF := itp c11 hF
            refine lv_aload_n hx hb dX7_event_49 rfl (lv_at hl 0 rfl) ?_
            refine gf_X7_193 G hI h0 dX7_event_50 ?_
            refine lv_goto (tgt := 72) hx hb dX7_event_53 (by decide) ?_
            exact n_iret G hI hF rfl dX7_event_72
        · replace hF := itp c12 hF
          refine lv_aload_n hx hb dX7_event_37 rfl (lv_at hl 0 rfl) ?_
          refine gf_X7_190 G hI h0 dX7_event_38 ?_
          refine lv_goto (tgt := 72) hx hb dX7_event_41 (by decide) ?_
          exact n_iret G hI hF rfl dX7_event_72
      · replace hF := itn c13 hF
        refine lv_iconst (v := (-1 : Int32)) hx hb dX7_event_31 (by decide) ?_
        exact n_iret G hI hF rfl dX7_event_32
    · replace hF := itp c17 hF
      refine lv_aload_n hx hb dX7_event_13 rfl (lv_at hl 0 rfl) ?_
      obtain ⟨r15, w14, z16, hF⟩ := bd_some hF
      refine n_Vi (rest := []) G hI (c_X7_bad hA h0 z16) my_X7_bad kl_X7_94 (isX7.lt h0) (isX7.sh h0) rfl ⟨Nat.le_of_ble_eq_true rfl, Nat.le_of_ble_eq_true rfl⟩ rfl hl.1 rfl (Nat.le_of_ble_eq_true rfl) dX7_event_14 (fun H locs hI => ?_)
      exact n_iret G hI hF rfl dX7_event_17
set_option maxHeartbeats 4000000 in
theorem c_X7_events (hA : AdOk n ad A) (h0 : isX7 n sh 0) {w w' : Mem} {r : Int32} (hF : F_X7_events  w = some (r, w')) : Ctr l n sh D cA ad A sa yX7_events cX7_events 1 (some .int) 4 92 [.ref (ad 0)] w (some (.int r)) w' := by
  refine m_enter hA (by decide) (Nat.le_of_ble_eq_true rfl) ?_
  intro p e s m args below meth c ls G hI hl
  replace hl : lv_has ls 1 [(0, .ref (ad 0))] := hl
  replace G : Mx n D cA ad A sa p s m args meth c RX7 cX7_events 1 (some .int) := G
  obtain ⟨hx, hb, -, -, hown, hg, -⟩ := id G
  unfold F_X7_events at hF
  refine lv_aload_n hx hb dX7_events_0 rfl (lv_at hl 0 rfl) ?_
  refine lv_iconst (v := (-1 : Int32)) hx hb dX7_events_1 (by decide) ?_
  obtain ⟨r2, w1, z3, hF⟩ := bd_some hF
  refine n_Vv (rest := []) G hI (c_X7_setEvents hA h0 z3) my_X7_setEvents kl_X7_206 (isX7.lt h0) (isX7.sh h0) rfl ⟨Nat.le_of_ble_eq_true rfl, Nat.le_of_ble_eq_true rfl⟩ rfl hl.1 rfl (Nat.le_of_ble_eq_true rfl) dX7_events_2 (fun H locs hI => ?_)
  refine lv_aload_n hx hb dX7_events_5 rfl (lv_at hl 0 rfl) ?_
  refine gf_X7_187 G hI h0 dX7_events_6 ?_
  exact n_iret G hI hF rfl dX7_events_9
set_option maxHeartbeats 4000000 in
theorem c_X7_mayShift (hA : AdOk n ad A) (h0 : isX7 n sh 0) {a1 : Int32} {a2 : Int32} {w w' : Mem} {r : Int32} (hF : F_X7_mayShift a1 a2 w = some (r, w')) : Ctr l n sh D cA ad A sa yX7_mayShift cX7_mayShift 3 (some .boolean) 0 0 [.ref (ad 0), .int a1, .int a2] w (some (.int r)) w' := by
  refine m_enter hA (by decide) (Nat.le_of_ble_eq_true rfl) ?_
  intro p e s m args below meth c ls G hI hl
  replace hl : lv_has ls 3 [(0, .ref (ad 0)), (1, .int a1), (2, .int a2)] := hl
  replace G : Mx n D cA ad A sa p s m args meth c RX7 cX7_mayShift 3 (some .boolean) := G
  obtain ⟨hx, hb, -, -, hown, hg, -⟩ := id G
  unfold F_X7_mayShift at hF
  refine lv_aload_n hx hb dX7_mayShift_0 rfl (lv_at hl 0 rfl) ?_
  refine gf_X7_43 G hI h0 dX7_mayShift_1 ?_
  refine lv_iload_n hx hb dX7_mayShift_4 rfl (lv_at hl 1 rfl) ?_
  obtain ⟨g1, hF⟩ := gd_some hF
  refine n_ald G hI (isX7.high h0) g1 dX7_mayShift_5 ?_
  refine lv_if_ne (tgt := 21) hx hb dX7_mayShift_6 (by decide) (fun c8 => ?_) (fun c8 => ?_)
  · replace hF := itn c8 hF
    refine lv_aload_n hx hb dX7_mayShift_21 rfl (lv_at hl 0 rfl) ?_
    refine gf_X7_61 G hI h0 dX7_mayShift_22 ?_
    refine lv_iload_n hx hb dX7_mayShift_25 rfl (lv_at hl 1 rfl) ?_
    obtain ⟨g2, hF⟩ := gd_some hF
    refine n_ald G hI (isX7.first h0) g2 dX7_mayShift_26 ?_
    refine lv_iload_n hx hb dX7_mayShift_27 rfl (lv_at hl 2 rfl) ?_
    refine lv_iadd hx hb dX7_mayShift_28 ?_
    refine lv_if_lt (tgt := 60) hx hb dX7_mayShift_29 (by decide) (fun c6 => ?_) (fun c6 => ?_)
    · replace hF := itp c6 hF
      refine lv_iconst (v := (0 : Int32)) hx hb dX7_mayShift_60 (by decide) ?_
      exact n_zret G hI (by decide) hF rfl dX7_mayShift_61
    · replace hF := itn c6 hF
      refine lv_aload_n hx hb dX7_mayShift_32 rfl (lv_at hl 0 rfl) ?_
      refine gf_X7_61 G hI h0 dX7_mayShift_33 ?_
      refine lv_iload_n hx hb dX7_mayShift_36 rfl (lv_at hl 1 rfl) ?_
      obtain ⟨g3, hF⟩ := gd_some hF
      refine n_ald G hI (isX7.first h0) g3 dX7_mayShift_37 ?_
      refine lv_iload_n hx hb dX7_mayShift_38 rfl (lv_at hl 2 rfl) ?_
      refine lv_iadd hx hb dX7_mayShift_39 ?_
      refine lv_aload_n hx hb dX7_mayShift_40 rfl (lv_at hl 0 rfl) ?_
      refine gf_X7_43 G hI h0 dX7_mayShift_41 ?_
      refine lv_iload_n hx hb dX7_mayShift_44 rfl (lv_at hl 1 rfl) ?_
      obtain ⟨g4, hF⟩ := gd_some hF
      refine n_ald G hI (isX7.high h0) g4 dX7_mayShift_45 ?_
      refine lv_iadd hx hb dX7_mayShift_46 ?_
      refine lv_aload_n hx hb dX7_mayShift_47 rfl (lv_at hl 0 rfl) ?_
      refine gf_X7_13 G hI h0 dX7_mayShift_48 ?_
      refine lv_iconst (v := (0 : Int32)) hx hb dX7_mayShift_51 (by decide) ?_
      refine n_ald G hI (isX7.told h0) (by decide) dX7_mayShift_52 ?_
      refine W.eq (g2 := F0 m 53 ls [.int (w 2 0), .int (((w 18 (ix a1)) + a2) + (w 12 (ix a1)))]) rfl ?_
      refine lv_icmp_gt (tgt := 60) hx hb dX7_mayShift_53 (by decide) (fun c5 => ?_) (fun c5 => ?_)
      · replace hF := itp c5 hF
        refine lv_iconst (v := (0 : Int32)) hx hb dX7_mayShift_60 (by decide) ?_
        exact n_zret G hI (by decide) hF rfl dX7_mayShift_61
      · replace hF := itn c5 hF
        refine lv_iconst (v := (1 : Int32)) hx hb dX7_mayShift_56 (by decide) ?_
        refine lv_goto (tgt := 61) hx hb dX7_mayShift_57 (by decide) ?_
        exact n_zret G hI (by decide) hF rfl dX7_mayShift_61
  · replace hF := itp c8 hF
    refine lv_iload_n hx hb dX7_mayShift_9 rfl (lv_at hl 2 rfl) ?_
    refine lv_if_ne (tgt := 17) hx hb dX7_mayShift_10 (by decide) (fun c7 => ?_) (fun c7 => ?_)
    · replace hF := itn c7 hF
      refine lv_iconst (v := (0 : Int32)) hx hb dX7_mayShift_17 (by decide) ?_
      refine lv_goto (tgt := 61) hx hb dX7_mayShift_18 (by decide) ?_
      exact n_zret G hI (by decide) hF rfl dX7_mayShift_61
    · replace hF := itp c7 hF
      refine lv_iconst (v := (1 : Int32)) hx hb dX7_mayShift_13 (by decide) ?_
      refine lv_goto (tgt := 61) hx hb dX7_mayShift_14 (by decide) ?_
      exact n_zret G hI (by decide) hF rfl dX7_mayShift_61
set_option maxHeartbeats 4000000 in
theorem c_X7_tries (hA : AdOk n ad A) (h0 : isX7 n sh 0) {a1 : Int32} {a2 : Int32} {a3 : Int32} {w w' : Mem} {r : Unit} (hF : F_X7_tries a1 a2 a3 w = some (r, w')) : Ctr l n sh D cA ad A sa yX7_tries cX7_tries 5 none 4 88 [.ref (ad 0), .int a1, .int a2, .int a3] w none w' := by
  refine m_enter hA (by decide) (Nat.le_of_ble_eq_true rfl) ?_
  intro p e s m args below meth c ls G hI hl
  replace hl : lv_has ls 5 [(0, .ref (ad 0)), (1, .int a1), (2, .int a2), (3, .int a3)] := hl
  replace G : Mx n D cA ad A sa p s m args meth c RX7 cX7_tries 5 none := G
  obtain ⟨hx, hb, -, -, hown, hg, -⟩ := id G
  unfold F_X7_tries at hF
  refine lv_aload_n hx hb dX7_tries_0 rfl (lv_at hl 0 rfl) ?_
  refine lv_iconst (v := (0 : Int32)) hx hb dX7_tries_1 (by decide) ?_
  refine lv_iload_n hx hb dX7_tries_2 rfl (lv_at hl 1 rfl) ?_
  obtain ⟨r2, w1, z3, hF⟩ := bd_some hF
  refine n_Vi (rest := []) G hI (c_X7_mayShift hA h0 z3) my_X7_mayShift kl_X7_210 (isX7.lt h0) (isX7.sh h0) rfl ⟨Nat.le_of_ble_eq_true rfl, Nat.le_of_ble_eq_true rfl⟩ rfl hl.1 rfl (Nat.le_of_ble_eq_true rfl) dX7_tries_3 (fun H locs hI => ?_)
  refine lv_if_eq (tgt := 27) hx hb dX7_tries_6 (by decide) (fun c40 => ?_) (fun c40 => ?_)
  · replace hF := itp c40 hF
    exact n_vret G hI hF rfl dX7_tries_27
  · replace hF := itn c40 hF
    refine lv_aload_n hx hb dX7_tries_9 rfl (lv_at hl 0 rfl) ?_
    refine lv_iconst (v := (1 : Int32)) hx hb dX7_tries_10 (by decide) ?_
    refine lv_iload_n hx hb dX7_tries_11 rfl (lv_at hl 2 rfl) ?_
    obtain ⟨r5, w4, z6, hF⟩ := bd_some hF
    refine n_Vi (rest := []) G hI (c_X7_mayShift hA h0 z6) my_X7_mayShift kl_X7_210 (isX7.lt h0) (isX7.sh h0) rfl ⟨Nat.le_of_ble_eq_true rfl, Nat.le_of_ble_eq_true rfl⟩ rfl hl.1 rfl (Nat.le_of_ble_eq_true rfl) dX7_tries_12 (fun H locs hI => ?_)
    refine lv_if_eq (tgt := 27) hx hb dX7_tries_15 (by decide) (fun c39 => ?_) (fun c39 => ?_)
    · replace hF := itp c39 hF
      exact n_vret G hI hF rfl dX7_tries_27
    · replace hF := itn c39 hF
      refine lv_aload_n hx hb dX7_tries_18 rfl (lv_at hl 0 rfl) ?_
      refine lv_iconst (v := (2 : Int32)) hx hb dX7_tries_19 (by decide) ?_
      refine lv_iload_n hx hb dX7_tries_20 rfl (lv_at hl 3 rfl) ?_
      obtain ⟨r8, w7, z9, hF⟩ := bd_some hF
      refine n_Vi (rest := []) G hI (c_X7_mayShift hA h0 z9) my_X7_mayShift kl_X7_210 (isX7.lt h0) (isX7.sh h0) rfl ⟨Nat.le_of_ble_eq_true rfl, Nat.le_of_ble_eq_true rfl⟩ rfl hl.1 rfl (Nat.le_of_ble_eq_true rfl) dX7_tries_21 (fun H locs hI => ?_)
      refine lv_if_ne (tgt := 28) hx hb dX7_tries_24 (by decide) (fun c38 => ?_) (fun c38 => ?_)
      · replace hF := itn c38 hF
        refine lv_aload_n hx hb dX7_tries_28 rfl (lv_at hl 0 rfl) ?_
        refine gf_X7_46 G hI h0 dX7_tries_29 ?_
        refine lv_iconst (v := (0 : Int32)) hx hb dX7_tries_32 (by decide) ?_
        refine lv_aload_n hx hb dX7_tries_33 rfl (lv_at hl 0 rfl) ?_
        refine gf_X7_61 G hI h0 dX7_tries_34 ?_
        refine lv_iconst (v := (0 : Int32)) hx hb dX7_tries_37 (by decide) ?_
        refine n_ald G hI (isX7.first h0) (by decide) dX7_tries_38 ?_
        refine W.eq (g2 := F0 m 39 ls [.int (w7 18 0), .int (0 : Int32), .ref (ad 13)]) rfl ?_
        refine lv_iload_n hx hb dX7_tries_39 rfl (lv_at hl 1 rfl) ?_
        refine lv_iadd hx hb dX7_tries_40 ?_
        obtain ⟨w10, ew10, hF⟩ := lt_some hF
        refine n_ast G hI (isX7.start h0) (by decide) dX7_tries_41 (fun H locs hI => ?_)
        replace hI : Iv n sh D cA ad A s.heap w10 H locs := by rw [ew10]; exact hI
        refine lv_aload_n hx hb dX7_tries_42 rfl (lv_at hl 0 rfl) ?_
        refine gf_X7_46 G hI h0 dX7_tries_43 ?_
        refine lv_iconst (v := (1 : Int32)) hx hb dX7_tries_46 (by decide) ?_
        refine lv_aload_n hx hb dX7_tries_47 rfl (lv_at hl 0 rfl) ?_
        refine gf_X7_61 G hI h0 dX7_tries_48 ?_
        refine lv_iconst (v := (1 : Int32)) hx hb dX7_tries_51 (by decide) ?_
        refine n_ald G hI (isX7.first h0) (by decide) dX7_tries_52 ?_
        refine W.eq (g2 := F0 m 53 ls [.int (w10 18 1), .int (1 : Int32), .ref (ad 13)]) rfl ?_
        refine lv_iload_n hx hb dX7_tries_53 rfl (lv_at hl 2 rfl) ?_
        refine lv_iadd hx hb dX7_tries_54 ?_
        obtain ⟨w11, ew11, hF⟩ := lt_some hF
        refine n_ast G hI (isX7.start h0) (by decide) dX7_tries_55 (fun H locs hI => ?_)
        replace hI : Iv n sh D cA ad A s.heap w11 H locs := by rw [ew11]; exact hI
        refine lv_aload_n hx hb dX7_tries_56 rfl (lv_at hl 0 rfl) ?_
        refine gf_X7_46 G hI h0 dX7_tries_57 ?_
        refine lv_iconst (v := (2 : Int32)) hx hb dX7_tries_60 (by decide) ?_
        refine lv_aload_n hx hb dX7_tries_61 rfl (lv_at hl 0 rfl) ?_
        refine gf_X7_61 G hI h0 dX7_tries_62 ?_
        refine lv_iconst (v := (2 : Int32)) hx hb dX7_tries_65 (by decide) ?_
        refine n_ald G hI (isX7.first h0) (by decide) dX7_tries_66 ?_
        refine W.eq (g2 := F0 m 67 ls [.int (w11 18 2), .int (2 : Int32), .ref (ad 13)]) rfl ?_
        refine lv_iload_n hx hb dX7_tries_67 rfl (lv_at hl 3 rfl) ?_
        refine lv_iadd hx hb dX7_tries_68 ?_
        obtain ⟨w12, ew12, hF⟩ := lt_some hF
        refine n_ast G hI (isX7.start h0) (by decide) dX7_tries_69 (fun H locs hI => ?_)
        replace hI : Iv n sh D cA ad A s.heap w12 H locs := by rw [ew12]; exact hI
        refine lv_iload_n hx hb dX7_tries_70 rfl (lv_at hl 1 rfl) ?_
        obtain ⟨r14, w13, z15, hF⟩ := bd_some hF
        refine n_Si (rest := []) G hI (c_X7_far hA  z15) my_X7_far kl_X7_213 ⟨Nat.le_of_ble_eq_true rfl, Nat.le_of_ble_eq_true rfl⟩ rfl hl.1 rfl (Nat.le_of_ble_eq_true rfl) dX7_tries_71 (fun H locs hI => ?_)
        refine lv_iload_n hx hb dX7_tries_74 rfl (lv_at hl 2 rfl) ?_
        obtain ⟨r17, w16, z18, hF⟩ := bd_some hF
        refine n_Si (rest := [.int r14]) G hI (c_X7_far hA  z18) my_X7_far kl_X7_213 ⟨Nat.le_of_ble_eq_true rfl, Nat.le_of_ble_eq_true rfl⟩ rfl hl.1 rfl (Nat.le_of_ble_eq_true rfl) dX7_tries_75 (fun H locs hI => ?_)
        refine lv_iadd hx hb dX7_tries_78 ?_
        refine lv_iload_n hx hb dX7_tries_79 rfl (lv_at hl 3 rfl) ?_
        obtain ⟨r20, w19, z21, hF⟩ := bd_some hF
        refine n_Si (rest := [.int (r14 + r17)]) G hI (c_X7_far hA  z21) my_X7_far kl_X7_213 ⟨Nat.le_of_ble_eq_true rfl, Nat.le_of_ble_eq_true rfl⟩ rfl hl.1 rfl (Nat.le_of_ble_eq_true rfl) dX7_tries_80 (fun H locs hI => ?_)
        refine lv_iadd hx hb dX7_tries_83 ?_
        refine lv_istore (lv' := [(4, .int ((r14 + r17) + r20)), (0, .ref (ad 0)), (1, .int a1), (2, .int a2), (3, .int a3)]) hx hb dX7_tries_84 hl (by decide) rfl (fun ls hl => ?_)
        refine lv_iload hx hb dX7_tries_86 (lv_at hl 0 rfl) ?_
        refine lv_aload_n hx hb dX7_tries_88 rfl (lv_at hl 1 rfl) ?_
        refine gf_X7_58 G hI h0 dX7_tries_89 ?_
        refine lv_iconst (v := (3 : Int32)) hx hb dX7_tries_92 (by decide) ?_
        refine n_ald G hI (isX7.best h0) (by decide) dX7_tries_93 ?_
        refine W.eq (g2 := F0 m 94 ls [.int (w19 17 3), .int ((r14 + r17) + r20)]) rfl ?_
        refine lv_icmp_gt (tgt := 108) hx hb dX7_tries_94 (by decide) (fun c37 => ?_) (fun c37 => ?_)
        · replace hF := itp c37 hF
          exact n_vret G hI hF rfl dX7_tries_108
        · replace hF := itn c37 hF
          refine lv_aload_n hx hb dX7_tries_97 rfl (lv_at hl 1 rfl) ?_
          obtain ⟨r23, w22, z24, hF⟩ := bd_some hF
          refine n_Vi (rest := []) G hI (c_X7_seenSet hA h0 z24) my_X7_seenSet kl_X7_181 (isX7.lt h0) (isX7.sh h0) rfl ⟨Nat.le_of_ble_eq_true rfl, Nat.le_of_ble_eq_true rfl⟩ rfl hl.1 rfl (Nat.le_of_ble_eq_true rfl) dX7_tries_98 (fun H locs hI => ?_)
          obtain ⟨r26, w25, z27, hF⟩ := bd_some hF
          refine n_Si (rest := []) G hI (c_X7_bits hA  z27) my_X7_bits kl_X7_184 ⟨Nat.le_of_ble_eq_true rfl, Nat.le_of_ble_eq_true rfl⟩ rfl hl.1 rfl (Nat.le_of_ble_eq_true rfl) dX7_tries_101 (fun H locs hI => ?_)
          refine lv_iconst (v := (2 : Int32)) hx hb dX7_tries_104 (by decide) ?_
          refine lv_icmp_ge (tgt := 109) hx hb dX7_tries_105 (by decide) (fun c36 => ?_) (fun c36 => ?_)
          · replace hF := itp c36 hF
            refine lv_iload hx hb dX7_tries_109 (lv_at hl 0 rfl) ?_
            refine lv_aload_n hx hb dX7_tries_111 rfl (lv_at hl 1 rfl) ?_
            refine gf_X7_58 G hI h0 dX7_tries_112 ?_
            refine lv_iconst (v := (3 : Int32)) hx hb dX7_tries_115 (by decide) ?_
            refine n_ald G hI (isX7.best h0) (by decide) dX7_tries_116 ?_
            refine W.eq (g2 := F0 m 117 ls [.int (w25 17 3), .int ((r14 + r17) + r20)]) rfl ?_
            refine lv_icmp_ge (tgt := 156) hx hb dX7_tries_117 (by decide) (fun c35 => ?_) (fun c35 => ?_)
            · replace hF := itp c35 hF
              refine lv_aload_n hx hb dX7_tries_156 rfl (lv_at hl 1 rfl) ?_
              refine gf_X7_58 G hI h0 dX7_tries_157 ?_
              refine lv_iconst (v := (4 : Int32)) hx hb dX7_tries_160 (by decide) ?_
              refine lv_dup2_11 hx hb dX7_tries_161 rfl rfl ?_
              refine n_ald G hI (isX7.best h0) (by decide) dX7_tries_162 ?_
              refine W.eq (g2 := F0 m 163 ls [.int (w25 17 4), .int (4 : Int32), .ref (ad 17)]) rfl ?_
              refine lv_iconst (v := (1 : Int32)) hx hb dX7_tries_163 (by decide) ?_
              refine lv_iadd hx hb dX7_tries_164 ?_
              obtain ⟨w28, ew28, hF⟩ := lt_some hF
              refine n_ast G hI (isX7.best h0) (by decide) dX7_tries_165 (fun H locs hI => ?_)
              replace hI : Iv n sh D cA ad A s.heap w28 H locs := by rw [ew28]; exact hI
              exact n_vret G hI hF rfl dX7_tries_166
            · replace hF := itn c35 hF
              refine lv_aload_n hx hb dX7_tries_120 rfl (lv_at hl 1 rfl) ?_
              refine gf_X7_58 G hI h0 dX7_tries_121 ?_
              refine lv_iconst (v := (0 : Int32)) hx hb dX7_tries_124 (by decide) ?_
              refine lv_iload_n hx hb dX7_tries_125 rfl (lv_at hl 2 rfl) ?_
              obtain ⟨w29, ew29, hF⟩ := lt_some hF
              refine n_ast G hI (isX7.best h0) (by decide) dX7_tries_126 (fun H locs hI => ?_)
              replace hI : Iv n sh D cA ad A s.heap w29 H locs := by rw [ew29]; exact hI
              refine lv_aload_n hx hb dX7_tries_127 rfl (lv_at hl 1 rfl) ?_
              refine gf_X7_58 G hI h0 dX7_tries_128 ?_
              refine lv_iconst (v := (1 : Int32)) hx hb dX7_tries_131 (by decide) ?_
              refine lv_iload_n hx hb dX7_tries_132 rfl (lv_at hl 3 rfl) ?_
              obtain ⟨w30, ew30, hF⟩ := lt_some hF
              refine n_ast G hI (isX7.best h0) (by decide) dX7_tries_133 (fun H locs hI => ?_)
              replace hI : Iv n sh D cA ad A s.heap w30 H locs := by rw [ew30]; exact hI
              refine lv_aload_n hx hb dX7_tries_134 rfl (lv_at hl 1 rfl) ?_
              refine gf_X7_58 G hI h0 dX7_tries_135 ?_
              refine lv_iconst (v := (2 : Int32)) hx hb dX7_tries_138 (by decide) ?_
              refine lv_iload_n hx hb dX7_tries_139 rfl (lv_at hl 4 rfl) ?_
              obtain ⟨w31, ew31, hF⟩ := lt_some hF
              refine n_ast G hI (isX7.best h0) (by decide) dX7_tries_140 (fun H locs hI => ?_)
              replace hI : Iv n sh D cA ad A s.heap w31 H locs := by rw [ew31]; exact hI
              refine lv_aload_n hx hb dX7_tries_141 rfl (lv_at hl 1 rfl) ?_
              refine gf_X7_58 G hI h0 dX7_tries_142 ?_
              refine lv_iconst (v := (3 : Int32)) hx hb dX7_tries_145 (by decide) ?_
              refine lv_iload hx hb dX7_tries_146 (lv_at hl 0 rfl) ?_
              obtain ⟨w32, ew32, hF⟩ := lt_some hF
              refine n_ast G hI (isX7.best h0) (by decide) dX7_tries_148 (fun H locs hI => ?_)
              replace hI : Iv n sh D cA ad A s.heap w32 H locs := by rw [ew32]; exact hI
              refine lv_aload_n hx hb dX7_tries_149 rfl (lv_at hl 1 rfl) ?_
              refine gf_X7_58 G hI h0 dX7_tries_150 ?_
              refine lv_iconst (v := (4 : Int32)) hx hb dX7_tries_153 (by decide) ?_
              refine lv_iconst (v := (0 : Int32)) hx hb dX7_tries_154 (by decide) ?_
              obtain ⟨w33, ew33, hF⟩ := lt_some hF
              refine n_ast G hI (isX7.best h0) (by decide) dX7_tries_155 (fun H locs hI => ?_)
              replace hI : Iv n sh D cA ad A s.heap w33 H locs := by rw [ew33]; exact hI
              refine lv_aload_n hx hb dX7_tries_156 rfl (lv_at hl 1 rfl) ?_
              refine gf_X7_58 G hI h0 dX7_tries_157 ?_
              refine lv_iconst (v := (4 : Int32)) hx hb dX7_tries_160 (by decide) ?_
              refine lv_dup2_11 hx hb dX7_tries_161 rfl rfl ?_
              refine n_ald G hI (isX7.best h0) (by decide) dX7_tries_162 ?_
              refine W.eq (g2 := F0 m 163 ls [.int (w33 17 4), .int (4 : Int32), .ref (ad 17)]) rfl ?_
              refine lv_iconst (v := (1 : Int32)) hx hb dX7_tries_163 (by decide) ?_
              refine lv_iadd hx hb dX7_tries_164 ?_
              obtain ⟨w34, ew34, hF⟩ := lt_some hF
              refine n_ast G hI (isX7.best h0) (by decide) dX7_tries_165 (fun H locs hI => ?_)
              replace hI : Iv n sh D cA ad A s.heap w34 H locs := by rw [ew34]; exact hI
              exact n_vret G hI hF rfl dX7_tries_166
          · replace hF := itn c36 hF
            exact n_vret G hI hF rfl dX7_tries_108
      · replace hF := itp c38 hF
        exact n_vret G hI hF rfl dX7_tries_27
end WK11
