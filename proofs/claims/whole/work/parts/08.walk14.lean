/-! walks, by program (wip/gen/walk.py): X7_isNear, X7_settlesIn, X7_settles, X7_tunes, X7_stateBy, X7_state, X7_memory, X7_over, X7_type, X7_clear, X7_here, X7_skips -/
section WK14
variable {n : Nat} {sh : Nat → Shp} {D : va_G} {cA : ClassId} {ad : Nat → Nat} {A : Nat → Prop} {sa : Nat → Nat} {l : Launch}
set_option maxHeartbeats 4000000 in
theorem l_X7_isNear_15 {p : Program} {e : Env} {s : State} {m : MethodId} {args : Array Value} {below : List Frame} {meth : Method} {c : Code} (G : Mx n D cA ad A sa p s m args meth c RX7 cX7_isNear 4 (some .boolean)) {a1 : Int32} (h0 : isX7 n sh 0) {k : Int32 → Mem → Option (Int32 × Mem)} {r : Int32} {w' : Mem}
    (hk : ∀ (v2 : Int32) (w : Mem) (H : Heap) (locs : List Loc) (ls : Array Slot), k v2 w = some (r, w') → Iv n sh D cA ad A s.heap w H locs → lv_has ls 4 [(2, .int v2)] → W p l e ({ frames := 1, cells := 0, slots := 0, locals := 20 } : Room) s m args below meth c H locs 0 0 (QM n sh D cA ad A below args s (some (.int r)) w') (F0 m 56 ls [])) :
    ∀ (N : Nat) (v2 : Int32) (v3 : Int32) (w : Mem) (H : Heap) (locs : List Loc) (ls : Array Slot), L_X7_isNear_15 a1 k N v2 v3 w = some (r, w') → Iv n sh D cA ad A s.heap w H locs → lv_has ls 4 [(0, .ref (ad 0)), (1, .int a1), (2, .int v2), (3, .int v3)] → W p l e ({ frames := 1, cells := 0, slots := 0, locals := 20 } : Room) s m args below meth c H locs 0 0 (QM n sh D cA ad A below args s (some (.int r)) w') (F0 m 15 ls []) := by
  obtain ⟨hx, hb, -, -, hown, hg, -, -, -, -, hA⟩ := id G
  intro N
  induction N with
  | zero =>
    intro v2 v3 w H locs ls hF hI hl
    cases hF
  | succ N ih =>
    intro v2 v3 w H locs ls hF hI hl
    rw [L_X7_isNear_15] at hF
    refine lv_iload_n hx hb dX7_isNear_15 rfl (lv_at hl 3 rfl) ?_
    refine lv_iconst (v := (3 : Int32)) hx hb dX7_isNear_16 (by decide) ?_
    refine lv_icmp_ge (tgt := 56) hx hb dX7_isNear_17 (by decide) (fun c10 => ?_) (fun c10 => ?_)
    · replace hF := itp c10 hF
      exact hk _ _ _ _ _ hF hI (lv_sub hl [2] rfl)
    · replace hF := itn c10 hF
      refine lv_iload_n hx hb dX7_isNear_20 rfl (lv_at hl 2 rfl) ?_
      refine lv_if_eq (tgt := 48) hx hb dX7_isNear_21 (by decide) (fun c9 => ?_) (fun c9 => ?_)
      · replace hF := itp c9 hF
        refine lv_iconst (v := (0 : Int32)) hx hb dX7_isNear_48 (by decide) ?_
        refine lv_istore_n (lv' := [(2, .int (0 : Int32)), (0, .ref (ad 0)), (1, .int a1), (3, .int v3)]) hx hb dX7_isNear_49 rfl hl (by decide) rfl (fun ls hl => ?_)
        refine lv_iinc (v := (v3 + (1 : Int32))) (lv' := [(3, .int (v3 + (1 : Int32))), (2, .int (0 : Int32)), (0, .ref (ad 0)), (1, .int a1)]) hx hb dX7_isNear_50 hl (k := 3) rfl rfl (by decide) rfl (fun ls hl => ?_)
        refine lv_goto (tgt := 15) hx hb dX7_isNear_53 (by decide) ?_
        exact ih _ _ _ _ _ _ hF hI (lv_sub hl [2, 3, 1, 0] rfl)
      · replace hF := itn c9 hF
        refine lv_aload_n hx hb dX7_isNear_24 rfl (lv_at hl 0 rfl) ?_
        refine gf_X7_16 G hI h0 dX7_isNear_25 ?_
        refine lv_iload_n hx hb dX7_isNear_28 rfl (lv_at hl 3 rfl) ?_
        obtain ⟨g3, hF⟩ := gd_some hF
        refine n_ald G hI (isX7.current h0) g3 dX7_isNear_29 ?_
        refine lv_aload_n hx hb dX7_isNear_30 rfl (lv_at hl 0 rfl) ?_
        refine gf_X7_22 G hI h0 dX7_isNear_31 ?_
        refine lv_iload_n hx hb dX7_isNear_34 rfl (lv_at hl 3 rfl) ?_
        obtain ⟨g4, hF⟩ := gd_some hF
        refine n_ald G hI (isX7.want h0) g4 dX7_isNear_35 ?_
        refine lv_isub hx hb dX7_isNear_36 ?_
        obtain ⟨r6, w5, z7, hF⟩ := bd_some hF
        refine n_Si (rest := []) G hI (c_X7_far hA  z7) my_X7_far kl_X7_213 ⟨Nat.le_of_ble_eq_true rfl, Nat.le_of_ble_eq_true rfl⟩ rfl hl.1 rfl (Nat.le_of_ble_eq_true rfl) dX7_isNear_37 (fun H locs hI => ?_)
        refine lv_iload_n hx hb dX7_isNear_40 rfl (lv_at hl 1 rfl) ?_
        refine lv_icmp_gt (tgt := 48) hx hb dX7_isNear_41 (by decide) (fun c8 => ?_) (fun c8 => ?_)
        · replace hF := itp c8 hF
          refine lv_iconst (v := (0 : Int32)) hx hb dX7_isNear_48 (by decide) ?_
          refine lv_istore_n (lv' := [(2, .int (0 : Int32)), (0, .ref (ad 0)), (1, .int a1), (3, .int v3)]) hx hb dX7_isNear_49 rfl hl (by decide) rfl (fun ls hl => ?_)
          refine lv_iinc (v := (v3 + (1 : Int32))) (lv' := [(3, .int (v3 + (1 : Int32))), (2, .int (0 : Int32)), (0, .ref (ad 0)), (1, .int a1)]) hx hb dX7_isNear_50 hl (k := 3) rfl rfl (by decide) rfl (fun ls hl => ?_)
          refine lv_goto (tgt := 15) hx hb dX7_isNear_53 (by decide) ?_
          exact ih _ _ _ _ _ _ hF hI (lv_sub hl [2, 3, 1, 0] rfl)
        · replace hF := itn c8 hF
          refine lv_iconst (v := (1 : Int32)) hx hb dX7_isNear_44 (by decide) ?_
          refine lv_goto (tgt := 49) hx hb dX7_isNear_45 (by decide) ?_
          refine lv_istore_n (lv' := [(2, .int (1 : Int32)), (0, .ref (ad 0)), (1, .int a1), (3, .int v3)]) hx hb dX7_isNear_49 rfl hl (by decide) rfl (fun ls hl => ?_)
          refine lv_iinc (v := (v3 + (1 : Int32))) (lv' := [(3, .int (v3 + (1 : Int32))), (2, .int (1 : Int32)), (0, .ref (ad 0)), (1, .int a1)]) hx hb dX7_isNear_50 hl (k := 3) rfl rfl (by decide) rfl (fun ls hl => ?_)
          refine lv_goto (tgt := 15) hx hb dX7_isNear_53 (by decide) ?_
          exact ih _ _ _ _ _ _ hF hI (lv_sub hl [2, 3, 1, 0] rfl)
set_option maxHeartbeats 4000000 in
theorem c_X7_isNear (hA : AdOk n ad A) (h0 : isX7 n sh 0) {a1 : Int32} {w w' : Mem} {r : Int32} (hF : F_X7_isNear a1 w = some (r, w')) : Ctr l n sh D cA ad A sa yX7_isNear cX7_isNear 4 (some .boolean) 1 20 [.ref (ad 0), .int a1] w (some (.int r)) w' := by
  refine m_enter hA (by decide) (Nat.le_of_ble_eq_true rfl) ?_
  intro p e s m args below meth c ls G hI hl
  replace hl : lv_has ls 4 [(0, .ref (ad 0)), (1, .int a1)] := hl
  replace G : Mx n D cA ad A sa p s m args meth c RX7 cX7_isNear 4 (some .boolean) := G
  obtain ⟨hx, hb, -, -, hown, hg, -⟩ := id G
  unfold F_X7_isNear at hF
  refine lv_aload_n hx hb dX7_isNear_0 rfl (lv_at hl 0 rfl) ?_
  refine gf_X7_80 G hI h0 dX7_isNear_1 ?_
  obtain ⟨k1, ek1, hF⟩ := jn_some hF
  have hJ1 : ∀ (x2 : Int32) (H : Heap) (locs : List Loc) (ls : Array Slot), k1 x2 = some (r, w') → Iv n sh D cA ad A s.heap w H locs → lv_has ls 4 [(0, .ref (ad 0)), (1, .int a1)] → W p l e ({ frames := 1, cells := 0, slots := 0, locals := 20 } : Room) s m args below meth c H locs 0 0 (QM n sh D cA ad A below args s (some (.int r)) w') (F0 m 12 ls [.int x2]) := by
    intro x2 H locs ls hF hI hl
    replace hF := (congrFun ek1 x2).symm.trans hF
    refine lv_istore_n (lv' := [(2, .int x2), (0, .ref (ad 0)), (1, .int a1)]) hx hb dX7_isNear_12 rfl hl (by decide) rfl (fun ls hl => ?_)
    refine lv_iconst (v := (0 : Int32)) hx hb dX7_isNear_13 (by decide) ?_
    refine lv_istore_n (lv' := [(3, .int (0 : Int32)), (2, .int x2), (0, .ref (ad 0)), (1, .int a1)]) hx hb dX7_isNear_14 rfl hl (by decide) rfl (fun ls hl => ?_)
    refine l_X7_isNear_15 G h0 (fun x12 w11 H locs ls hF hI hl => ?_) _ _ _ _ _ _ _ hF hI (lv_sub hl [2, 3, 1, 0] rfl)
    refine lv_iload_n hx hb dX7_isNear_56 rfl (lv_at hl 0 rfl) ?_
    obtain ⟨g13, hF⟩ := gd_some hF
    exact n_zret G hI g13 hF rfl dX7_isNear_57
  refine lv_if_ne (tgt := 11) hx hb dX7_isNear_4 (by decide) (fun c14 => ?_) (fun c14 => ?_)
  · replace hF := itn c14 hF
    refine lv_iconst (v := (0 : Int32)) hx hb dX7_isNear_11 (by decide) ?_
    exact hJ1 _ _ _ _ hF hI (lv_sub hl [0, 1] rfl)
  · replace hF := itp c14 hF
    refine lv_iconst (v := (1 : Int32)) hx hb dX7_isNear_7 (by decide) ?_
    refine lv_goto (tgt := 12) hx hb dX7_isNear_8 (by decide) ?_
    exact hJ1 _ _ _ _ hF hI (lv_sub hl [0, 1] rfl)
set_option maxHeartbeats 4000000 in
theorem l_X7_settlesIn_6 {p : Program} {e : Env} {s : State} {m : MethodId} {args : Array Value} {below : List Frame} {meth : Method} {c : Code} (G : Mx n D cA ad A sa p s m args meth c RX7 cX7_settlesIn 3 (some .int)) {a1 : Int32} (h0 : isX7 n sh 0) {k : Int32 → Mem → Option (Int32 × Mem)} {r : Int32} {w' : Mem}
    (hk : ∀ (v2 : Int32) (w : Mem) (H : Heap) (locs : List Loc) (ls : Array Slot), k v2 w = some (r, w') → Iv n sh D cA ad A s.heap w H locs → lv_has ls 3 [(0, .ref (ad 0)), (2, .int v2)] → W p l e ({ frames := 5, cells := 0, slots := 0, locals := 115 } : Room) s m args below meth c H locs 0 0 (QM n sh D cA ad A below args s (some (.int r)) w') (F0 m 31 ls [])) :
    ∀ (N : Nat) (v2 : Int32) (w : Mem) (H : Heap) (locs : List Loc) (ls : Array Slot), L_X7_settlesIn_6 a1 k N v2 w = some (r, w') → Iv n sh D cA ad A s.heap w H locs → lv_has ls 3 [(0, .ref (ad 0)), (1, .int a1), (2, .int v2)] → W p l e ({ frames := 5, cells := 0, slots := 0, locals := 115 } : Room) s m args below meth c H locs 0 0 (QM n sh D cA ad A below args s (some (.int r)) w') (F0 m 6 ls []) := by
  obtain ⟨hx, hb, -, -, hown, hg, -, -, -, -, hA⟩ := id G
  intro N
  induction N with
  | zero =>
    intro v2 w H locs ls hF hI hl
    cases hF
  | succ N ih =>
    intro v2 w H locs ls hF hI hl
    rw [L_X7_settlesIn_6] at hF
    refine lv_iload_n hx hb dX7_settlesIn_6 rfl (lv_at hl 2 rfl) ?_
    refine lv_bipush (v := (60 : Int32)) hx hb dX7_settlesIn_7 (by decide) ?_
    refine lv_icmp_gt (tgt := 31) hx hb dX7_settlesIn_9 (by decide) (fun c11 => ?_) (fun c11 => ?_)
    · replace hF := itp c11 hF
      exact hk _ _ _ _ _ hF hI (lv_sub hl [0, 2] rfl)
    · replace hF := itn c11 hF
      refine lv_aload_n hx hb dX7_settlesIn_12 rfl (lv_at hl 0 rfl) ?_
      refine lv_iload_n hx hb dX7_settlesIn_13 rfl (lv_at hl 1 rfl) ?_
      obtain ⟨r5, w4, z6, hF⟩ := bd_some hF
      refine n_Vi (rest := []) G hI (c_X7_isNear hA h0 z6) my_X7_isNear kl_X7_250 (isX7.lt h0) (isX7.sh h0) rfl ⟨Nat.le_of_ble_eq_true rfl, Nat.le_of_ble_eq_true rfl⟩ rfl hl.1 rfl (Nat.le_of_ble_eq_true rfl) dX7_settlesIn_14 (fun H locs hI => ?_)
      refine lv_if_ne (tgt := 31) hx hb dX7_settlesIn_17 (by decide) (fun c10 => ?_) (fun c10 => ?_)
      · replace hF := itn c10 hF
        exact hk _ _ _ _ _ hF hI (lv_sub hl [0, 2] rfl)
      · replace hF := itp c10 hF
        refine lv_aload_n hx hb dX7_settlesIn_20 rfl (lv_at hl 0 rfl) ?_
        obtain ⟨r8, w7, z9, hF⟩ := bd_some hF
        refine n_Vi (rest := []) G hI (c_X7_goes hA h0 z9) my_X7_goes kl_X7_239 (isX7.lt h0) (isX7.sh h0) rfl ⟨Nat.le_of_ble_eq_true rfl, Nat.le_of_ble_eq_true rfl⟩ rfl hl.1 rfl (Nat.le_of_ble_eq_true rfl) dX7_settlesIn_21 (fun H locs hI => ?_)
        refine lv_pop hx hb dX7_settlesIn_24 rfl ?_
        refine lv_iinc (v := (v2 + (1 : Int32))) (lv' := [(2, .int (v2 + (1 : Int32))), (0, .ref (ad 0)), (1, .int a1)]) hx hb dX7_settlesIn_25 hl (k := 2) rfl rfl (by decide) rfl (fun ls hl => ?_)
        refine lv_goto (tgt := 6) hx hb dX7_settlesIn_28 (by decide) ?_
        exact ih _ _ _ _ _ hF hI (lv_sub hl [1, 2, 0] rfl)
set_option maxHeartbeats 4000000 in
theorem c_X7_settlesIn (hA : AdOk n ad A) (h0 : isX7 n sh 0) {a1 : Int32} {w w' : Mem} {r : Int32} (hF : F_X7_settlesIn a1 w = some (r, w')) : Ctr l n sh D cA ad A sa yX7_settlesIn cX7_settlesIn 3 (some .int) 5 115 [.ref (ad 0), .int a1] w (some (.int r)) w' := by
  refine m_enter hA (by decide) (Nat.le_of_ble_eq_true rfl) ?_
  intro p e s m args below meth c ls G hI hl
  replace hl : lv_has ls 3 [(0, .ref (ad 0)), (1, .int a1)] := hl
  replace G : Mx n D cA ad A sa p s m args meth c RX7 cX7_settlesIn 3 (some .int) := G
  obtain ⟨hx, hb, -, -, hown, hg, -⟩ := id G
  unfold F_X7_settlesIn at hF
  refine lv_aload_n hx hb dX7_settlesIn_0 rfl (lv_at hl 0 rfl) ?_
  obtain ⟨r2, w1, z3, hF⟩ := bd_some hF
  refine n_Vv (rest := []) G hI (c_X7_lays hA h0 z3) my_X7_lays kl_X7_247 (isX7.lt h0) (isX7.sh h0) rfl ⟨Nat.le_of_ble_eq_true rfl, Nat.le_of_ble_eq_true rfl⟩ rfl hl.1 rfl (Nat.le_of_ble_eq_true rfl) dX7_settlesIn_1 (fun H locs hI => ?_)
  refine lv_iconst (v := (0 : Int32)) hx hb dX7_settlesIn_4 (by decide) ?_
  refine lv_istore_n (lv' := [(2, .int (0 : Int32)), (0, .ref (ad 0)), (1, .int a1)]) hx hb dX7_settlesIn_5 rfl hl (by decide) rfl (fun ls hl => ?_)
  refine l_X7_settlesIn_6 G h0 (fun x13 w12 H locs ls hF hI hl => ?_) _ _ _ _ _ _ hF hI (lv_sub hl [1, 2, 0] rfl)
  refine lv_aload_n hx hb dX7_settlesIn_31 rfl (lv_at hl 0 rfl) ?_
  obtain ⟨r15, w14, z16, hF⟩ := bd_some hF
  refine n_Vv (rest := []) G hI (c_X7_takes hA h0 z16) my_X7_takes kl_X7_253 (isX7.lt h0) (isX7.sh h0) rfl ⟨Nat.le_of_ble_eq_true rfl, Nat.le_of_ble_eq_true rfl⟩ rfl hl.1 rfl (Nat.le_of_ble_eq_true rfl) dX7_settlesIn_32 (fun H locs hI => ?_)
  refine lv_iload_n hx hb dX7_settlesIn_35 rfl (lv_at hl 1 rfl) ?_
  refine lv_bipush (v := (60 : Int32)) hx hb dX7_settlesIn_36 (by decide) ?_
  refine lv_icmp_gt (tgt := 45) hx hb dX7_settlesIn_38 (by decide) (fun c17 => ?_) (fun c17 => ?_)
  · replace hF := itp c17 hF
    refine lv_iconst (v := (-1 : Int32)) hx hb dX7_settlesIn_45 (by decide) ?_
    exact n_iret G hI hF rfl dX7_settlesIn_46
  · replace hF := itn c17 hF
    refine lv_iload_n hx hb dX7_settlesIn_41 rfl (lv_at hl 1 rfl) ?_
    refine lv_goto (tgt := 46) hx hb dX7_settlesIn_42 (by decide) ?_
    exact n_iret G hI hF rfl dX7_settlesIn_46
set_option maxHeartbeats 4000000 in
theorem c_X7_settles (hA : AdOk n ad A) (h0 : isX7 n sh 0) {a1 : Int32} {w w' : Mem} {r : Int32} (hF : F_X7_settles a1 w = some (r, w')) : Ctr l n sh D cA ad A sa yX7_settles cX7_settles 2 (some .int) 6 137 [.ref (ad 0), .int a1] w (some (.int r)) w' := by
  refine m_enter hA (by decide) (Nat.le_of_ble_eq_true rfl) ?_
  intro p e s m args below meth c ls G hI hl
  replace hl : lv_has ls 2 [(0, .ref (ad 0)), (1, .int a1)] := hl
  replace G : Mx n D cA ad A sa p s m args meth c RX7 cX7_settles 2 (some .int) := G
  obtain ⟨hx, hb, -, -, hown, hg, -⟩ := id G
  unfold F_X7_settles at hF
  refine lv_iload_n hx hb dX7_settles_0 rfl (lv_at hl 1 rfl) ?_
  refine lv_iconst (v := (0 : Int32)) hx hb dX7_settles_1 (by decide) ?_
  refine lv_sipush (v := (500 : Int32)) hx hb dX7_settles_2 (by decide) ?_
  obtain ⟨r2, w1, z3, hF⟩ := bd_some hF
  refine n_Si (rest := []) G hI (c_X7_in hA  z3) my_X7_in kl_X7_86 ⟨Nat.le_of_ble_eq_true rfl, Nat.le_of_ble_eq_true rfl⟩ rfl hl.1 rfl (Nat.le_of_ble_eq_true rfl) dX7_settles_5 (fun H locs hI => ?_)
  refine lv_if_eq (tgt := 19) hx hb dX7_settles_8 (by decide) (fun c10 => ?_) (fun c10 => ?_)
  · replace hF := itp c10 hF
    refine lv_aload_n hx hb dX7_settles_19 rfl (lv_at hl 0 rfl) ?_
    obtain ⟨r5, w4, z6, hF⟩ := bd_some hF
    refine n_Vi (rest := []) G hI (c_X7_bad hA h0 z6) my_X7_bad kl_X7_94 (isX7.lt h0) (isX7.sh h0) rfl ⟨Nat.le_of_ble_eq_true rfl, Nat.le_of_ble_eq_true rfl⟩ rfl hl.1 rfl (Nat.le_of_ble_eq_true rfl) dX7_settles_20 (fun H locs hI => ?_)
    exact n_iret G hI hF rfl dX7_settles_23
  · replace hF := itn c10 hF
    refine lv_aload_n hx hb dX7_settles_11 rfl (lv_at hl 0 rfl) ?_
    refine lv_iload_n hx hb dX7_settles_12 rfl (lv_at hl 1 rfl) ?_
    obtain ⟨r8, w7, z9, hF⟩ := bd_some hF
    refine n_Vi (rest := []) G hI (c_X7_settlesIn hA h0 z9) my_X7_settlesIn kl_X7_256 (isX7.lt h0) (isX7.sh h0) rfl ⟨Nat.le_of_ble_eq_true rfl, Nat.le_of_ble_eq_true rfl⟩ rfl hl.1 rfl (Nat.le_of_ble_eq_true rfl) dX7_settles_13 (fun H locs hI => ?_)
    refine lv_goto (tgt := 23) hx hb dX7_settles_16 (by decide) ?_
    exact n_iret G hI hF rfl dX7_settles_23
set_option maxHeartbeats 4000000 in
theorem l_X7_tunes_32 {p : Program} {e : Env} {s : State} {m : MethodId} {args : Array Value} {below : List Frame} {meth : Method} {c : Code} (G : Mx n D cA ad A sa p s m args meth c RX7 cX7_tunes 7 (some .int)) {a1 : Int32} {a2 : Int32} (h0 : isX7 n sh 0) {k : Int32 → Mem → Option (Int32 × Mem)} {r : Int32} {w' : Mem}
    (hk : ∀ (v3 : Int32) (w : Mem) (H : Heap) (locs : List Loc) (ls : Array Slot), k v3 w = some (r, w') → Iv n sh D cA ad A s.heap w H locs → lv_has ls 7 [(0, .ref (ad 0)), (2, .int a2), (3, .int v3)] → W p l e ({ frames := 6, cells := 0, slots := 0, locals := 137 } : Room) s m args below meth c H locs 0 0 (QM n sh D cA ad A below args s (some (.int r)) w') (F0 m 80 ls [])) :
    ∀ (N : Nat) (v3 : Int32) (v4 : Int32) (v5 : Int32) (w : Mem) (H : Heap) (locs : List Loc) (ls : Array Slot), L_X7_tunes_32 a1 a2 k N v3 v4 v5 w = some (r, w') → Iv n sh D cA ad A s.heap w H locs → lv_has ls 7 [(0, .ref (ad 0)), (1, .int a1), (2, .int a2), (3, .int v3), (4, .int v4), (5, .int v5)] → W p l e ({ frames := 6, cells := 0, slots := 0, locals := 137 } : Room) s m args below meth c H locs 0 0 (QM n sh D cA ad A below args s (some (.int r)) w') (F0 m 32 ls []) := by
  obtain ⟨hx, hb, -, -, hown, hg, -, -, -, -, hA⟩ := id G
  intro N
  induction N with
  | zero =>
    intro v3 v4 v5 w H locs ls hF hI hl
    cases hF
  | succ N ih =>
    intro v3 v4 v5 w H locs ls hF hI hl
    rw [L_X7_tunes_32] at hF
    refine lv_iload hx hb dX7_tunes_32 (lv_at hl 5 rfl) ?_
    refine lv_bipush (v := (20 : Int32)) hx hb dX7_tunes_34 (by decide) ?_
    refine lv_icmp_gt (tgt := 80) hx hb dX7_tunes_36 (by decide) (fun c10 => ?_) (fun c10 => ?_)
    · replace hF := itp c10 hF
      exact hk _ _ _ _ _ hF hI (lv_sub hl [0, 2, 3] rfl)
    · replace hF := itn c10 hF
      refine lv_aload_n hx hb dX7_tunes_39 rfl (lv_at hl 0 rfl) ?_
      refine gf_X7_13 G hI h0 dX7_tunes_40 ?_
      refine lv_iconst (v := (4 : Int32)) hx hb dX7_tunes_43 (by decide) ?_
      refine lv_iload hx hb dX7_tunes_44 (lv_at hl 5 rfl) ?_
      obtain ⟨w4, ew4, hF⟩ := lt_some hF
      refine n_ast G hI (isX7.told h0) (by decide) dX7_tunes_46 (fun H locs hI => ?_)
      replace hI : Iv n sh D cA ad A s.heap w4 H locs := by rw [ew4]; exact hI
      refine lv_aload_n hx hb dX7_tunes_47 rfl (lv_at hl 0 rfl) ?_
      refine lv_iload_n hx hb dX7_tunes_48 rfl (lv_at hl 1 rfl) ?_
      obtain ⟨r6, w5, z7, hF⟩ := bd_some hF
      refine n_Vi (rest := []) G hI (c_X7_settlesIn hA h0 z7) my_X7_settlesIn kl_X7_256 (isX7.lt h0) (isX7.sh h0) rfl ⟨Nat.le_of_ble_eq_true rfl, Nat.le_of_ble_eq_true rfl⟩ rfl hl.1 rfl (Nat.le_of_ble_eq_true rfl) dX7_tunes_49 (fun H locs hI => ?_)
      refine lv_istore (lv' := [(6, .int r6), (0, .ref (ad 0)), (1, .int a1), (2, .int a2), (3, .int v3), (4, .int v4), (5, .int v5)]) hx hb dX7_tunes_52 hl (by decide) rfl (fun ls hl => ?_)
      refine lv_iload hx hb dX7_tunes_54 (lv_at hl 0 rfl) ?_
      refine lv_iconst (v := (-1 : Int32)) hx hb dX7_tunes_56 (by decide) ?_
      refine lv_icmp_eq (tgt := 74) hx hb dX7_tunes_57 (by decide) (fun c9 => ?_) (fun c9 => ?_)
      · replace hF := itp c9 hF
        refine lv_iinc (v := (v5 + (1 : Int32))) (lv' := [(5, .int (v5 + (1 : Int32))), (6, .int r6), (0, .ref (ad 0)), (1, .int a1), (2, .int a2), (3, .int v3), (4, .int v4)]) hx hb dX7_tunes_74 hl (k := 6) rfl rfl (by decide) rfl (fun ls hl => ?_)
        refine lv_goto (tgt := 32) hx hb dX7_tunes_77 (by decide) ?_
        exact ih _ _ _ _ _ _ _ hF hI (lv_sub hl [2, 3, 4, 5, 6, 0] rfl)
      · replace hF := itn c9 hF
        refine lv_iload hx hb dX7_tunes_60 (lv_at hl 0 rfl) ?_
        refine lv_iload hx hb dX7_tunes_62 (lv_at hl 5 rfl) ?_
        refine lv_icmp_ge (tgt := 74) hx hb dX7_tunes_64 (by decide) (fun c8 => ?_) (fun c8 => ?_)
        · replace hF := itp c8 hF
          refine lv_iinc (v := (v5 + (1 : Int32))) (lv' := [(5, .int (v5 + (1 : Int32))), (6, .int r6), (0, .ref (ad 0)), (1, .int a1), (2, .int a2), (3, .int v3), (4, .int v4)]) hx hb dX7_tunes_74 hl (k := 6) rfl rfl (by decide) rfl (fun ls hl => ?_)
          refine lv_goto (tgt := 32) hx hb dX7_tunes_77 (by decide) ?_
          exact ih _ _ _ _ _ _ _ hF hI (lv_sub hl [2, 3, 4, 5, 6, 0] rfl)
        · replace hF := itn c8 hF
          refine lv_iload hx hb dX7_tunes_67 (lv_at hl 0 rfl) ?_
          refine lv_istore (lv' := [(4, .int r6), (6, .int r6), (0, .ref (ad 0)), (1, .int a1), (2, .int a2), (3, .int v3), (5, .int v5)]) hx hb dX7_tunes_69 hl (by decide) rfl (fun ls hl => ?_)
          refine lv_iload hx hb dX7_tunes_71 (lv_at hl 6 rfl) ?_
          refine lv_istore_n (lv' := [(3, .int v5), (4, .int r6), (6, .int r6), (0, .ref (ad 0)), (1, .int a1), (2, .int a2), (5, .int v5)]) hx hb dX7_tunes_73 rfl hl (by decide) rfl (fun ls hl => ?_)
          refine lv_iinc (v := (v5 + (1 : Int32))) (lv' := [(5, .int (v5 + (1 : Int32))), (3, .int v5), (4, .int r6), (6, .int r6), (0, .ref (ad 0)), (1, .int a1), (2, .int a2)]) hx hb dX7_tunes_74 hl (k := 6) rfl rfl (by decide) rfl (fun ls hl => ?_)
          refine lv_goto (tgt := 32) hx hb dX7_tunes_77 (by decide) ?_
          exact ih _ _ _ _ _ _ _ hF hI (lv_sub hl [4, 5, 6, 1, 2, 0] rfl)
set_option maxHeartbeats 4000000 in
theorem c_X7_tunes (hA : AdOk n ad A) (h0 : isX7 n sh 0) {a1 : Int32} {w w' : Mem} {r : Int32} (hF : F_X7_tunes a1 w = some (r, w')) : Ctr l n sh D cA ad A sa yX7_tunes cX7_tunes 7 (some .int) 6 137 [.ref (ad 0), .int a1] w (some (.int r)) w' := by
  refine m_enter hA (by decide) (Nat.le_of_ble_eq_true rfl) ?_
  intro p e s m args below meth c ls G hI hl
  replace hl : lv_has ls 7 [(0, .ref (ad 0)), (1, .int a1)] := hl
  replace G : Mx n D cA ad A sa p s m args meth c RX7 cX7_tunes 7 (some .int) := G
  obtain ⟨hx, hb, -, -, hown, hg, -⟩ := id G
  unfold F_X7_tunes at hF
  refine lv_iload_n hx hb dX7_tunes_0 rfl (lv_at hl 1 rfl) ?_
  refine lv_iconst (v := (0 : Int32)) hx hb dX7_tunes_1 (by decide) ?_
  refine lv_sipush (v := (500 : Int32)) hx hb dX7_tunes_2 (by decide) ?_
  obtain ⟨r2, w1, z3, hF⟩ := bd_some hF
  refine n_Si (rest := []) G hI (c_X7_in hA  z3) my_X7_in kl_X7_86 ⟨Nat.le_of_ble_eq_true rfl, Nat.le_of_ble_eq_true rfl⟩ rfl hl.1 rfl (Nat.le_of_ble_eq_true rfl) dX7_tunes_5 (fun H locs hI => ?_)
  refine lv_if_ne (tgt := 16) hx hb dX7_tunes_8 (by decide) (fun c17 => ?_) (fun c17 => ?_)
  · replace hF := itn c17 hF
    refine lv_aload_n hx hb dX7_tunes_16 rfl (lv_at hl 0 rfl) ?_
    refine gf_X7_13 G hI h0 dX7_tunes_17 ?_
    refine lv_iconst (v := (4 : Int32)) hx hb dX7_tunes_20 (by decide) ?_
    refine n_ald G hI (isX7.told h0) (by decide) dX7_tunes_21 ?_
    refine W.eq (g2 := F0 m 22 ls [.int (w1 2 4)]) rfl ?_
    refine lv_istore_n (lv' := [(2, .int (w1 2 4)), (0, .ref (ad 0)), (1, .int a1)]) hx hb dX7_tunes_22 rfl hl (by decide) rfl (fun ls hl => ?_)
    refine lv_iconst (v := (-1 : Int32)) hx hb dX7_tunes_23 (by decide) ?_
    refine lv_istore_n (lv' := [(3, .int (-1 : Int32)), (2, .int (w1 2 4)), (0, .ref (ad 0)), (1, .int a1)]) hx hb dX7_tunes_24 rfl hl (by decide) rfl (fun ls hl => ?_)
    refine lv_ldc hx hb hown (hg _ kc_X7_216) dX7_tunes_25 ?_
    refine lv_istore (lv' := [(4, .int (268435456 : Int32)), (3, .int (-1 : Int32)), (2, .int (w1 2 4)), (0, .ref (ad 0)), (1, .int a1)]) hx hb dX7_tunes_27 hl (by decide) rfl (fun ls hl => ?_)
    refine lv_iconst (v := (0 : Int32)) hx hb dX7_tunes_29 (by decide) ?_
    refine lv_istore (lv' := [(5, .int (0 : Int32)), (4, .int (268435456 : Int32)), (3, .int (-1 : Int32)), (2, .int (w1 2 4)), (0, .ref (ad 0)), (1, .int a1)]) hx hb dX7_tunes_30 hl (by decide) rfl (fun ls hl => ?_)
    refine l_X7_tunes_32 G h0 (fun x12 w11 H locs ls hF hI hl => ?_) _ _ _ _ _ _ _ _ hF hI (lv_sub hl [4, 5, 3, 2, 1, 0] rfl)
    refine lv_aload_n hx hb dX7_tunes_80 rfl (lv_at hl 0 rfl) ?_
    refine gf_X7_13 G hI h0 dX7_tunes_81 ?_
    refine lv_iconst (v := (4 : Int32)) hx hb dX7_tunes_84 (by decide) ?_
    refine lv_iload_n hx hb dX7_tunes_85 rfl (lv_at hl 1 rfl) ?_
    obtain ⟨w13, ew13, hF⟩ := lt_some hF
    refine n_ast G hI (isX7.told h0) (by decide) dX7_tunes_86 (fun H locs hI => ?_)
    replace hI : Iv n sh D cA ad A s.heap w13 H locs := by rw [ew13]; exact hI
    refine lv_iload_n hx hb dX7_tunes_87 rfl (lv_at hl 2 rfl) ?_
    exact n_iret G hI hF rfl dX7_tunes_88
  · replace hF := itp c17 hF
    refine lv_aload_n hx hb dX7_tunes_11 rfl (lv_at hl 0 rfl) ?_
    obtain ⟨r15, w14, z16, hF⟩ := bd_some hF
    refine n_Vi (rest := []) G hI (c_X7_bad hA h0 z16) my_X7_bad kl_X7_94 (isX7.lt h0) (isX7.sh h0) rfl ⟨Nat.le_of_ble_eq_true rfl, Nat.le_of_ble_eq_true rfl⟩ rfl hl.1 rfl (Nat.le_of_ble_eq_true rfl) dX7_tunes_12 (fun H locs hI => ?_)
    exact n_iret G hI hF rfl dX7_tunes_15
set_option maxHeartbeats 4000000 in
theorem c_X7_stateBy (hA : AdOk n ad A) (h0 : isX7 n sh 0) {a1 : Int32} {a2 : Int32} {w w' : Mem} {r : Int32} (hF : F_X7_stateBy a1 a2 w = some (r, w')) : Ctr l n sh D cA ad A sa yX7_stateBy cX7_stateBy 3 (some .int) 0 0 [.ref (ad 0), .int a1, .int a2] w (some (.int r)) w' := by
  refine m_enter hA (by decide) (Nat.le_of_ble_eq_true rfl) ?_
  intro p e s m args below meth c ls G hI hl
  replace hl : lv_has ls 3 [(0, .ref (ad 0)), (1, .int a1), (2, .int a2)] := hl
  replace G : Mx n D cA ad A sa p s m args meth c RX7 cX7_stateBy 3 (some .int) := G
  obtain ⟨hx, hb, -, -, hown, hg, -⟩ := id G
  unfold F_X7_stateBy at hF
  refine lv_iload_n hx hb dX7_stateBy_0 rfl (lv_at hl 2 rfl) ?_
  refine lv_if_ne (tgt := 13) hx hb dX7_stateBy_1 (by decide) (fun c7 => ?_) (fun c7 => ?_)
  · replace hF := itn c7 hF
    refine lv_iload_n hx hb dX7_stateBy_13 rfl (lv_at hl 2 rfl) ?_
    refine lv_iconst (v := (1 : Int32)) hx hb dX7_stateBy_14 (by decide) ?_
    refine lv_icmp_ne (tgt := 27) hx hb dX7_stateBy_15 (by decide) (fun c5 => ?_) (fun c5 => ?_)
    · replace hF := itn c5 hF
      refine lv_iload_n hx hb dX7_stateBy_27 rfl (lv_at hl 2 rfl) ?_
      refine lv_iconst (v := (2 : Int32)) hx hb dX7_stateBy_28 (by decide) ?_
      refine lv_icmp_ne (tgt := 41) hx hb dX7_stateBy_29 (by decide) (fun c3 => ?_) (fun c3 => ?_)
      · replace hF := itn c3 hF
        refine lv_aload_n hx hb dX7_stateBy_41 rfl (lv_at hl 0 rfl) ?_
        refine gf_X7_25 G hI h0 dX7_stateBy_42 ?_
        refine lv_iload_n hx hb dX7_stateBy_45 rfl (lv_at hl 1 rfl) ?_
        obtain ⟨g1, hF⟩ := gd_some hF
        refine n_ald G hI (isX7.sum h0) g1 dX7_stateBy_46 ?_
        exact n_iret G hI hF rfl dX7_stateBy_47
      · replace hF := itp c3 hF
        refine lv_aload_n hx hb dX7_stateBy_32 rfl (lv_at hl 0 rfl) ?_
        refine gf_X7_22 G hI h0 dX7_stateBy_33 ?_
        refine lv_iload_n hx hb dX7_stateBy_36 rfl (lv_at hl 1 rfl) ?_
        obtain ⟨g2, hF⟩ := gd_some hF
        refine n_ald G hI (isX7.want h0) g2 dX7_stateBy_37 ?_
        refine lv_goto (tgt := 47) hx hb dX7_stateBy_38 (by decide) ?_
        exact n_iret G hI hF rfl dX7_stateBy_47
    · replace hF := itp c5 hF
      refine lv_aload_n hx hb dX7_stateBy_18 rfl (lv_at hl 0 rfl) ?_
      refine gf_X7_19 G hI h0 dX7_stateBy_19 ?_
      refine lv_iload_n hx hb dX7_stateBy_22 rfl (lv_at hl 1 rfl) ?_
      obtain ⟨g4, hF⟩ := gd_some hF
      refine n_ald G hI (isX7.demand h0) g4 dX7_stateBy_23 ?_
      refine lv_goto (tgt := 47) hx hb dX7_stateBy_24 (by decide) ?_
      exact n_iret G hI hF rfl dX7_stateBy_47
  · replace hF := itp c7 hF
    refine lv_aload_n hx hb dX7_stateBy_4 rfl (lv_at hl 0 rfl) ?_
    refine gf_X7_16 G hI h0 dX7_stateBy_5 ?_
    refine lv_iload_n hx hb dX7_stateBy_8 rfl (lv_at hl 1 rfl) ?_
    obtain ⟨g6, hF⟩ := gd_some hF
    refine n_ald G hI (isX7.current h0) g6 dX7_stateBy_9 ?_
    refine lv_goto (tgt := 47) hx hb dX7_stateBy_10 (by decide) ?_
    exact n_iret G hI hF rfl dX7_stateBy_47
set_option maxHeartbeats 4000000 in
theorem c_X7_state (hA : AdOk n ad A) (h0 : isX7 n sh 0) {a1 : Int32} {a2 : Int32} {w w' : Mem} {r : Int32} (hF : F_X7_state a1 a2 w = some (r, w')) : Ctr l n sh D cA ad A sa yX7_state cX7_state 3 (some .int) 2 42 [.ref (ad 0), .int a1, .int a2] w (some (.int r)) w' := by
  refine m_enter hA (by decide) (Nat.le_of_ble_eq_true rfl) ?_
  intro p e s m args below meth c ls G hI hl
  replace hl : lv_has ls 3 [(0, .ref (ad 0)), (1, .int a1), (2, .int a2)] := hl
  replace G : Mx n D cA ad A sa p s m args meth c RX7 cX7_state 3 (some .int) := G
  obtain ⟨hx, hb, -, -, hown, hg, -⟩ := id G
  unfold F_X7_state at hF
  refine lv_iload_n hx hb dX7_state_0 rfl (lv_at hl 1 rfl) ?_
  obtain ⟨r2, w1, z3, hF⟩ := bd_some hF
  refine n_Si (rest := []) G hI (c_X7_isLeg hA  z3) my_X7_isLeg kl_X7_98 ⟨Nat.le_of_ble_eq_true rfl, Nat.le_of_ble_eq_true rfl⟩ rfl hl.1 rfl (Nat.le_of_ble_eq_true rfl) dX7_state_1 (fun H locs hI => ?_)
  refine lv_if_eq (tgt := 25) hx hb dX7_state_4 (by decide) (fun c17 => ?_) (fun c17 => ?_)
  · replace hF := itp c17 hF
    refine lv_aload_n hx hb dX7_state_25 rfl (lv_at hl 0 rfl) ?_
    obtain ⟨r5, w4, z6, hF⟩ := bd_some hF
    refine n_Vi (rest := []) G hI (c_X7_bad hA h0 z6) my_X7_bad kl_X7_94 (isX7.lt h0) (isX7.sh h0) rfl ⟨Nat.le_of_ble_eq_true rfl, Nat.le_of_ble_eq_true rfl⟩ rfl hl.1 rfl (Nat.le_of_ble_eq_true rfl) dX7_state_26 (fun H locs hI => ?_)
    exact n_iret G hI hF rfl dX7_state_29
  · replace hF := itn c17 hF
    refine lv_iload_n hx hb dX7_state_7 rfl (lv_at hl 2 rfl) ?_
    refine lv_iconst (v := (0 : Int32)) hx hb dX7_state_8 (by decide) ?_
    refine lv_iconst (v := (3 : Int32)) hx hb dX7_state_9 (by decide) ?_
    obtain ⟨r8, w7, z9, hF⟩ := bd_some hF
    refine n_Si (rest := []) G hI (c_X7_in hA  z9) my_X7_in kl_X7_86 ⟨Nat.le_of_ble_eq_true rfl, Nat.le_of_ble_eq_true rfl⟩ rfl hl.1 rfl (Nat.le_of_ble_eq_true rfl) dX7_state_10 (fun H locs hI => ?_)
    refine lv_if_eq (tgt := 25) hx hb dX7_state_13 (by decide) (fun c16 => ?_) (fun c16 => ?_)
    · replace hF := itp c16 hF
      refine lv_aload_n hx hb dX7_state_25 rfl (lv_at hl 0 rfl) ?_
      obtain ⟨r11, w10, z12, hF⟩ := bd_some hF
      refine n_Vi (rest := []) G hI (c_X7_bad hA h0 z12) my_X7_bad kl_X7_94 (isX7.lt h0) (isX7.sh h0) rfl ⟨Nat.le_of_ble_eq_true rfl, Nat.le_of_ble_eq_true rfl⟩ rfl hl.1 rfl (Nat.le_of_ble_eq_true rfl) dX7_state_26 (fun H locs hI => ?_)
      exact n_iret G hI hF rfl dX7_state_29
    · replace hF := itn c16 hF
      refine lv_aload_n hx hb dX7_state_16 rfl (lv_at hl 0 rfl) ?_
      refine lv_iload_n hx hb dX7_state_17 rfl (lv_at hl 1 rfl) ?_
      refine lv_iload_n hx hb dX7_state_18 rfl (lv_at hl 2 rfl) ?_
      obtain ⟨r14, w13, z15, hF⟩ := bd_some hF
      refine n_Vi (rest := []) G hI (c_X7_stateBy hA h0 z15) my_X7_stateBy kl_X7_259 (isX7.lt h0) (isX7.sh h0) rfl ⟨Nat.le_of_ble_eq_true rfl, Nat.le_of_ble_eq_true rfl⟩ rfl hl.1 rfl (Nat.le_of_ble_eq_true rfl) dX7_state_19 (fun H locs hI => ?_)
      refine lv_goto (tgt := 29) hx hb dX7_state_22 (by decide) ?_
      exact n_iret G hI hF rfl dX7_state_29
set_option maxHeartbeats 4000000 in
theorem c_X7_memory (hA : AdOk n ad A) (h0 : isX7 n sh 0) {a1 : Int32} {a2 : Int32} {w w' : Mem} {r : Int32} (hF : F_X7_memory a1 a2 w = some (r, w')) : Ctr l n sh D cA ad A sa yX7_memory cX7_memory 3 (some .int) 1 22 [.ref (ad 0), .int a1, .int a2] w (some (.int r)) w' := by
  refine m_enter hA (by decide) (Nat.le_of_ble_eq_true rfl) ?_
  intro p e s m args below meth c ls G hI hl
  replace hl : lv_has ls 3 [(0, .ref (ad 0)), (1, .int a1), (2, .int a2)] := hl
  replace G : Mx n D cA ad A sa p s m args meth c RX7 cX7_memory 3 (some .int) := G
  obtain ⟨hx, hb, -, -, hown, hg, -⟩ := id G
  unfold F_X7_memory at hF
  refine lv_iload_n hx hb dX7_memory_0 rfl (lv_at hl 1 rfl) ?_
  refine lv_if_lt (tgt := 13) hx hb dX7_memory_1 (by decide) (fun c13 => ?_) (fun c13 => ?_)
  · replace hF := itp c13 hF
    refine lv_aload_n hx hb dX7_memory_13 rfl (lv_at hl 0 rfl) ?_
    obtain ⟨r2, w1, z3, hF⟩ := bd_some hF
    refine n_Vi (rest := []) G hI (c_X7_bad hA h0 z3) my_X7_bad kl_X7_94 (isX7.lt h0) (isX7.sh h0) rfl ⟨Nat.le_of_ble_eq_true rfl, Nat.le_of_ble_eq_true rfl⟩ rfl hl.1 rfl (Nat.le_of_ble_eq_true rfl) dX7_memory_14 (fun H locs hI => ?_)
    exact n_iret G hI hF rfl dX7_memory_17
  · replace hF := itn c13 hF
    refine lv_iload_n hx hb dX7_memory_4 rfl (lv_at hl 2 rfl) ?_
    refine lv_iconst (v := (0 : Int32)) hx hb dX7_memory_5 (by decide) ?_
    refine lv_iconst (v := (3 : Int32)) hx hb dX7_memory_6 (by decide) ?_
    obtain ⟨r5, w4, z6, hF⟩ := bd_some hF
    refine n_Si (rest := []) G hI (c_X7_in hA  z6) my_X7_in kl_X7_86 ⟨Nat.le_of_ble_eq_true rfl, Nat.le_of_ble_eq_true rfl⟩ rfl hl.1 rfl (Nat.le_of_ble_eq_true rfl) dX7_memory_7 (fun H locs hI => ?_)
    refine lv_if_ne (tgt := 18) hx hb dX7_memory_10 (by decide) (fun c12 => ?_) (fun c12 => ?_)
    · replace hF := itn c12 hF
      refine lv_iload_n hx hb dX7_memory_18 rfl (lv_at hl 1 rfl) ?_
      refine lv_aload_n hx hb dX7_memory_19 rfl (lv_at hl 0 rfl) ?_
      refine gf_X7_83 G hI h0 dX7_memory_20 ?_
      refine lv_icmp_ge (tgt := 39) hx hb dX7_memory_23 (by decide) (fun c8 => ?_) (fun c8 => ?_)
      · replace hF := itp c8 hF
        refine lv_sipush (v := (-1000 : Int32)) hx hb dX7_memory_39 (by decide) ?_
        exact n_iret G hI hF rfl dX7_memory_42
      · replace hF := itn c8 hF
        refine lv_aload_n hx hb dX7_memory_26 rfl (lv_at hl 0 rfl) ?_
        refine gf_X7_37 G hI h0 dX7_memory_27 ?_
        refine lv_iconst (v := (4 : Int32)) hx hb dX7_memory_30 (by decide) ?_
        refine lv_iload_n hx hb dX7_memory_31 rfl (lv_at hl 1 rfl) ?_
        refine lv_imul hx hb dX7_memory_32 ?_
        refine lv_iload_n hx hb dX7_memory_33 rfl (lv_at hl 2 rfl) ?_
        refine lv_iadd hx hb dX7_memory_34 ?_
        obtain ⟨g7, hF⟩ := gd_some hF
        refine n_ald G hI (isX7.memory h0) g7 dX7_memory_35 ?_
        refine lv_goto (tgt := 42) hx hb dX7_memory_36 (by decide) ?_
        exact n_iret G hI hF rfl dX7_memory_42
    · replace hF := itp c12 hF
      refine lv_aload_n hx hb dX7_memory_13 rfl (lv_at hl 0 rfl) ?_
      obtain ⟨r10, w9, z11, hF⟩ := bd_some hF
      refine n_Vi (rest := []) G hI (c_X7_bad hA h0 z11) my_X7_bad kl_X7_94 (isX7.lt h0) (isX7.sh h0) rfl ⟨Nat.le_of_ble_eq_true rfl, Nat.le_of_ble_eq_true rfl⟩ rfl hl.1 rfl (Nat.le_of_ble_eq_true rfl) dX7_memory_14 (fun H locs hI => ?_)
      exact n_iret G hI hF rfl dX7_memory_17
set_option maxHeartbeats 4000000 in
theorem l_X7_over_51 {p : Program} {e : Env} {s : State} {m : MethodId} {args : Array Value} {below : List Frame} {meth : Method} {c : Code} (G : Mx n D cA ad A sa p s m args meth c RX7 cX7_over 6 (some .int)) {a1 : Int32} {a2 : Int32} (h0 : isX7 n sh 0) {k : Int32 → Mem → Option (Int32 × Mem)} {r : Int32} {w' : Mem}
    (hk : ∀ (v3 : Int32) (w : Mem) (H : Heap) (locs : List Loc) (ls : Array Slot), k v3 w = some (r, w') → Iv n sh D cA ad A s.heap w H locs → lv_has ls 6 [(3, .int v3)] → W p l e ({ frames := 2, cells := 0, slots := 0, locals := 42 } : Room) s m args below meth c H locs 0 0 (QM n sh D cA ad A below args s (some (.int r)) w') (F0 m 132 ls [])) :
    ∀ (N : Nat) (v3 : Int32) (v4 : Int32) (w : Mem) (H : Heap) (locs : List Loc) (ls : Array Slot), L_X7_over_51 a1 a2 k N v3 v4 w = some (r, w') → Iv n sh D cA ad A s.heap w H locs → lv_has ls 6 [(0, .ref (ad 0)), (1, .int a1), (2, .int a2), (3, .int v3), (4, .int v4)] → W p l e ({ frames := 2, cells := 0, slots := 0, locals := 42 } : Room) s m args below meth c H locs 0 0 (QM n sh D cA ad A below args s (some (.int r)) w') (F0 m 51 ls []) := by
  obtain ⟨hx, hb, -, -, hown, hg, -, -, -, -, hA⟩ := id G
  intro N
  induction N with
  | zero =>
    intro v3 v4 w H locs ls hF hI hl
    cases hF
  | succ N ih =>
    intro v3 v4 w H locs ls hF hI hl
    rw [L_X7_over_51] at hF
    refine lv_iload hx hb dX7_over_51 (lv_at hl 4 rfl) ?_
    refine lv_aload_n hx hb dX7_over_53 rfl (lv_at hl 0 rfl) ?_
    refine gf_X7_83 G hI h0 dX7_over_54 ?_
    refine lv_icmp_ge (tgt := 132) hx hb dX7_over_57 (by decide) (fun c20 => ?_) (fun c20 => ?_)
    · replace hF := itp c20 hF
      exact hk _ _ _ _ _ hF hI (lv_sub hl [3] rfl)
    · replace hF := itn c20 hF
      refine lv_aload_n hx hb dX7_over_60 rfl (lv_at hl 0 rfl) ?_
      refine gf_X7_37 G hI h0 dX7_over_61 ?_
      refine lv_iconst (v := (4 : Int32)) hx hb dX7_over_64 (by decide) ?_
      refine lv_iload hx hb dX7_over_65 (lv_at hl 4 rfl) ?_
      refine lv_imul hx hb dX7_over_67 ?_
      refine lv_iload_n hx hb dX7_over_68 rfl (lv_at hl 1 rfl) ?_
      refine lv_iadd hx hb dX7_over_69 ?_
      obtain ⟨g12, hF⟩ := gd_some hF
      refine n_ald G hI (isX7.memory h0) g12 dX7_over_70 ?_
      obtain ⟨x13, ex13, hF⟩ := lt_some hF
      refine W.eq (g2 := F0 m 71 ls [.int x13]) (by rw [ex13]) ?_
      refine lv_istore (lv' := [(5, .int x13), (0, .ref (ad 0)), (1, .int a1), (2, .int a2), (3, .int v3), (4, .int v4)]) hx hb dX7_over_71 hl (by decide) rfl (fun ls hl => ?_)
      refine lv_iload_n hx hb dX7_over_73 rfl (lv_at hl 3 rfl) ?_
      refine lv_if_ne (tgt := 92) hx hb dX7_over_74 (by decide) (fun c19 => ?_) (fun c19 => ?_)
      · replace hF := itn c19 hF
        refine lv_iload_n hx hb dX7_over_92 rfl (lv_at hl 3 rfl) ?_
        refine lv_iconst (v := (1 : Int32)) hx hb dX7_over_93 (by decide) ?_
        refine lv_icmp_ne (tgt := 112) hx hb dX7_over_94 (by decide) (fun c17 => ?_) (fun c17 => ?_)
        · replace hF := itn c17 hF
          refine lv_iload_n hx hb dX7_over_112 rfl (lv_at hl 4 rfl) ?_
          refine lv_aload_n hx hb dX7_over_113 rfl (lv_at hl 1 rfl) ?_
          refine gf_X7_37 G hI h0 dX7_over_114 ?_
          refine lv_iconst (v := (4 : Int32)) hx hb dX7_over_117 (by decide) ?_
          refine lv_iload hx hb dX7_over_118 (lv_at hl 5 rfl) ?_
          refine lv_imul hx hb dX7_over_120 ?_
          refine lv_iconst (v := (3 : Int32)) hx hb dX7_over_121 (by decide) ?_
          refine lv_iadd hx hb dX7_over_122 ?_
          obtain ⟨g14, hF⟩ := gd_some hF
          refine n_ald G hI (isX7.memory h0) g14 dX7_over_123 ?_
          refine lv_iadd hx hb dX7_over_124 ?_
          obtain ⟨x15, ex15, hF⟩ := lt_some hF
          refine W.eq (g2 := F0 m 125 ls [.int x15]) (by rw [ex15]) ?_
          refine lv_istore_n (lv' := [(3, .int x15), (5, .int x13), (0, .ref (ad 0)), (1, .int a1), (2, .int a2), (4, .int v4)]) hx hb dX7_over_125 rfl hl (by decide) rfl (fun ls hl => ?_)
          refine lv_iinc (v := (v4 + (1 : Int32))) (lv' := [(4, .int (v4 + (1 : Int32))), (3, .int x15), (5, .int x13), (0, .ref (ad 0)), (1, .int a1), (2, .int a2)]) hx hb dX7_over_126 hl (k := 5) rfl rfl (by decide) rfl (fun ls hl => ?_)
          refine lv_goto (tgt := 51) hx hb dX7_over_129 (by decide) ?_
          exact ih _ _ _ _ _ _ hF hI (lv_sub hl [3, 4, 5, 1, 0] rfl)
        · replace hF := itp c17 hF
          refine lv_iload hx hb dX7_over_97 (lv_at hl 0 rfl) ?_
          refine lv_iload_n hx hb dX7_over_99 rfl (lv_at hl 4 rfl) ?_
          refine lv_icmp_ge (tgt := 108) hx hb dX7_over_100 (by decide) (fun c16 => ?_) (fun c16 => ?_)
          · replace hF := itp c16 hF
            refine lv_iload_n hx hb dX7_over_108 rfl (lv_at hl 4 rfl) ?_
            refine lv_goto (tgt := 125) hx hb dX7_over_109 (by decide) ?_
            refine lv_istore_n (lv' := [(3, .int v3), (5, .int x13), (0, .ref (ad 0)), (1, .int a1), (2, .int a2), (4, .int v4)]) hx hb dX7_over_125 rfl hl (by decide) rfl (fun ls hl => ?_)
            refine lv_iinc (v := (v4 + (1 : Int32))) (lv' := [(4, .int (v4 + (1 : Int32))), (3, .int v3), (5, .int x13), (0, .ref (ad 0)), (1, .int a1), (2, .int a2)]) hx hb dX7_over_126 hl (k := 5) rfl rfl (by decide) rfl (fun ls hl => ?_)
            refine lv_goto (tgt := 51) hx hb dX7_over_129 (by decide) ?_
            exact ih _ _ _ _ _ _ hF hI (lv_sub hl [3, 4, 5, 1, 0] rfl)
          · replace hF := itn c16 hF
            refine lv_iload hx hb dX7_over_103 (lv_at hl 0 rfl) ?_
            refine lv_goto (tgt := 125) hx hb dX7_over_105 (by decide) ?_
            refine lv_istore_n (lv' := [(3, .int x13), (5, .int x13), (0, .ref (ad 0)), (1, .int a1), (2, .int a2), (4, .int v4)]) hx hb dX7_over_125 rfl hl (by decide) rfl (fun ls hl => ?_)
            refine lv_iinc (v := (v4 + (1 : Int32))) (lv' := [(4, .int (v4 + (1 : Int32))), (3, .int x13), (5, .int x13), (0, .ref (ad 0)), (1, .int a1), (2, .int a2)]) hx hb dX7_over_126 hl (k := 5) rfl rfl (by decide) rfl (fun ls hl => ?_)
            refine lv_goto (tgt := 51) hx hb dX7_over_129 (by decide) ?_
            exact ih _ _ _ _ _ _ hF hI (lv_sub hl [3, 4, 5, 1, 0] rfl)
      · replace hF := itp c19 hF
        refine lv_iload hx hb dX7_over_77 (lv_at hl 0 rfl) ?_
        refine lv_iload_n hx hb dX7_over_79 rfl (lv_at hl 4 rfl) ?_
        refine lv_icmp_le (tgt := 88) hx hb dX7_over_80 (by decide) (fun c18 => ?_) (fun c18 => ?_)
        · replace hF := itp c18 hF
          refine lv_iload_n hx hb dX7_over_88 rfl (lv_at hl 4 rfl) ?_
          refine lv_goto (tgt := 125) hx hb dX7_over_89 (by decide) ?_
          refine lv_istore_n (lv' := [(3, .int v3), (5, .int x13), (0, .ref (ad 0)), (1, .int a1), (2, .int a2), (4, .int v4)]) hx hb dX7_over_125 rfl hl (by decide) rfl (fun ls hl => ?_)
          refine lv_iinc (v := (v4 + (1 : Int32))) (lv' := [(4, .int (v4 + (1 : Int32))), (3, .int v3), (5, .int x13), (0, .ref (ad 0)), (1, .int a1), (2, .int a2)]) hx hb dX7_over_126 hl (k := 5) rfl rfl (by decide) rfl (fun ls hl => ?_)
          refine lv_goto (tgt := 51) hx hb dX7_over_129 (by decide) ?_
          exact ih _ _ _ _ _ _ hF hI (lv_sub hl [3, 4, 5, 1, 0] rfl)
        · replace hF := itn c18 hF
          refine lv_iload hx hb dX7_over_83 (lv_at hl 0 rfl) ?_
          refine lv_goto (tgt := 125) hx hb dX7_over_85 (by decide) ?_
          refine lv_istore_n (lv' := [(3, .int x13), (5, .int x13), (0, .ref (ad 0)), (1, .int a1), (2, .int a2), (4, .int v4)]) hx hb dX7_over_125 rfl hl (by decide) rfl (fun ls hl => ?_)
          refine lv_iinc (v := (v4 + (1 : Int32))) (lv' := [(4, .int (v4 + (1 : Int32))), (3, .int x13), (5, .int x13), (0, .ref (ad 0)), (1, .int a1), (2, .int a2)]) hx hb dX7_over_126 hl (k := 5) rfl rfl (by decide) rfl (fun ls hl => ?_)
          refine lv_goto (tgt := 51) hx hb dX7_over_129 (by decide) ?_
          exact ih _ _ _ _ _ _ hF hI (lv_sub hl [3, 4, 5, 1, 0] rfl)
set_option maxHeartbeats 4000000 in
theorem c_X7_over (hA : AdOk n ad A) (h0 : isX7 n sh 0) {a1 : Int32} {a2 : Int32} {w w' : Mem} {r : Int32} (hF : F_X7_over a1 a2 w = some (r, w')) : Ctr l n sh D cA ad A sa yX7_over cX7_over 6 (some .int) 2 42 [.ref (ad 0), .int a1, .int a2] w (some (.int r)) w' := by
  refine m_enter hA (by decide) (Nat.le_of_ble_eq_true rfl) ?_
  intro p e s m args below meth c ls G hI hl
  replace hl : lv_has ls 6 [(0, .ref (ad 0)), (1, .int a1), (2, .int a2)] := hl
  replace G : Mx n D cA ad A sa p s m args meth c RX7 cX7_over 6 (some .int) := G
  obtain ⟨hx, hb, -, -, hown, hg, -⟩ := id G
  unfold F_X7_over at hF
  refine lv_iload_n hx hb dX7_over_0 rfl (lv_at hl 1 rfl) ?_
  obtain ⟨r2, w1, z3, hF⟩ := bd_some hF
  refine n_Si (rest := []) G hI (c_X7_isLeg hA  z3) my_X7_isLeg kl_X7_98 ⟨Nat.le_of_ble_eq_true rfl, Nat.le_of_ble_eq_true rfl⟩ rfl hl.1 rfl (Nat.le_of_ble_eq_true rfl) dX7_over_1 (fun H locs hI => ?_)
  refine lv_if_eq (tgt := 16) hx hb dX7_over_4 (by decide) (fun c30 => ?_) (fun c30 => ?_)
  · replace hF := itp c30 hF
    refine lv_aload_n hx hb dX7_over_16 rfl (lv_at hl 0 rfl) ?_
    obtain ⟨r5, w4, z6, hF⟩ := bd_some hF
    refine n_Vi (rest := []) G hI (c_X7_bad hA h0 z6) my_X7_bad kl_X7_94 (isX7.lt h0) (isX7.sh h0) rfl ⟨Nat.le_of_ble_eq_true rfl, Nat.le_of_ble_eq_true rfl⟩ rfl hl.1 rfl (Nat.le_of_ble_eq_true rfl) dX7_over_17 (fun H locs hI => ?_)
    exact n_iret G hI hF rfl dX7_over_20
  · replace hF := itn c30 hF
    refine lv_iload_n hx hb dX7_over_7 rfl (lv_at hl 2 rfl) ?_
    refine lv_iconst (v := (0 : Int32)) hx hb dX7_over_8 (by decide) ?_
    refine lv_iconst (v := (2 : Int32)) hx hb dX7_over_9 (by decide) ?_
    obtain ⟨r8, w7, z9, hF⟩ := bd_some hF
    refine n_Si (rest := []) G hI (c_X7_in hA  z9) my_X7_in kl_X7_86 ⟨Nat.le_of_ble_eq_true rfl, Nat.le_of_ble_eq_true rfl⟩ rfl hl.1 rfl (Nat.le_of_ble_eq_true rfl) dX7_over_10 (fun H locs hI => ?_)
    refine lv_if_ne (tgt := 21) hx hb dX7_over_13 (by decide) (fun c29 => ?_) (fun c29 => ?_)
    · replace hF := itn c29 hF
      refine lv_aload_n hx hb dX7_over_21 rfl (lv_at hl 0 rfl) ?_
      refine gf_X7_83 G hI h0 dX7_over_22 ?_
      refine lv_if_ne (tgt := 32) hx hb dX7_over_25 (by decide) (fun c25 => ?_) (fun c25 => ?_)
      · replace hF := itn c25 hF
        refine lv_iload_n hx hb dX7_over_32 rfl (lv_at hl 2 rfl) ?_
        refine lv_iconst (v := (2 : Int32)) hx hb dX7_over_33 (by decide) ?_
        obtain ⟨k10, ek10, hF⟩ := jn_some hF
        have hJ10 : ∀ (x11 : Int32) (H : Heap) (locs : List Loc) (ls : Array Slot), k10 x11 = some (r, w') → Iv n sh D cA ad A s.heap w7 H locs → lv_has ls 6 [(0, .ref (ad 0)), (1, .int a1), (2, .int a2)] → W p l e ({ frames := 2, cells := 0, slots := 0, locals := 42 } : Room) s m args below meth c H locs 0 0 (QM n sh D cA ad A below args s (some (.int r)) w') (F0 m 47 ls [.int x11]) := by
          intro x11 H locs ls hF hI hl
          replace hF := (congrFun ek10 x11).symm.trans hF
          refine lv_istore_n (lv' := [(3, .int x11), (0, .ref (ad 0)), (1, .int a1), (2, .int a2)]) hx hb dX7_over_47 rfl hl (by decide) rfl (fun ls hl => ?_)
          refine lv_iconst (v := (0 : Int32)) hx hb dX7_over_48 (by decide) ?_
          refine lv_istore (lv' := [(4, .int (0 : Int32)), (3, .int x11), (0, .ref (ad 0)), (1, .int a1), (2, .int a2)]) hx hb dX7_over_49 hl (by decide) rfl (fun ls hl => ?_)
          refine l_X7_over_51 G h0 (fun x22 w21 H locs ls hF hI hl => ?_) _ _ _ _ _ _ _ hF hI (lv_sub hl [2, 3, 4, 1, 0] rfl)
          refine lv_iload_n hx hb dX7_over_132 rfl (lv_at hl 0 rfl) ?_
          exact n_iret G hI hF rfl dX7_over_133
        refine lv_icmp_ne (tgt := 41) hx hb dX7_over_34 (by decide) (fun c24 => ?_) (fun c24 => ?_)
        · replace hF := itn c24 hF
          refine lv_aload_n hx hb dX7_over_41 rfl (lv_at hl 0 rfl) ?_
          refine gf_X7_37 G hI h0 dX7_over_42 ?_
          refine lv_iload_n hx hb dX7_over_45 rfl (lv_at hl 1 rfl) ?_
          obtain ⟨g23, hF⟩ := gd_some hF
          refine n_ald G hI (isX7.memory h0) g23 dX7_over_46 ?_
          exact hJ10 _ _ _ _ hF hI (lv_sub hl [0, 1, 2] rfl)
        · replace hF := itp c24 hF
          refine lv_iconst (v := (0 : Int32)) hx hb dX7_over_37 (by decide) ?_
          refine lv_goto (tgt := 47) hx hb dX7_over_38 (by decide) ?_
          exact hJ10 _ _ _ _ hF hI (lv_sub hl [0, 1, 2] rfl)
      · replace hF := itp c25 hF
        refine lv_sipush (v := (-1000 : Int32)) hx hb dX7_over_28 (by decide) ?_
        exact n_iret G hI hF rfl dX7_over_31
    · replace hF := itp c29 hF
      refine lv_aload_n hx hb dX7_over_16 rfl (lv_at hl 0 rfl) ?_
      obtain ⟨r27, w26, z28, hF⟩ := bd_some hF
      refine n_Vi (rest := []) G hI (c_X7_bad hA h0 z28) my_X7_bad kl_X7_94 (isX7.lt h0) (isX7.sh h0) rfl ⟨Nat.le_of_ble_eq_true rfl, Nat.le_of_ble_eq_true rfl⟩ rfl hl.1 rfl (Nat.le_of_ble_eq_true rfl) dX7_over_17 (fun H locs hI => ?_)
      exact n_iret G hI hF rfl dX7_over_20
set_option maxHeartbeats 4000000 in
theorem c_X7_type (hA : AdOk n ad A) (h0 : isX7 n sh 0) {a1 : Int32} {w w' : Mem} {r : Int32} (hF : F_X7_type a1 w = some (r, w')) : Ctr l n sh D cA ad A sa yX7_type cX7_type 2 (some .int) 1 22 [.ref (ad 0), .int a1] w (some (.int r)) w' := by
  refine m_enter hA (by decide) (Nat.le_of_ble_eq_true rfl) ?_
  intro p e s m args below meth c ls G hI hl
  replace hl : lv_has ls 2 [(0, .ref (ad 0)), (1, .int a1)] := hl
  replace G : Mx n D cA ad A sa p s m args meth c RX7 cX7_type 2 (some .int) := G
  obtain ⟨hx, hb, -, -, hown, hg, -⟩ := id G
  unfold F_X7_type at hF
  refine lv_iload_n hx hb dX7_type_0 rfl (lv_at hl 1 rfl) ?_
  refine lv_iconst (v := (0 : Int32)) hx hb dX7_type_1 (by decide) ?_
  refine lv_bipush (v := (127 : Int32)) hx hb dX7_type_2 (by decide) ?_
  obtain ⟨r2, w1, z3, hF⟩ := bd_some hF
  refine n_Si (rest := []) G hI (c_X7_in hA  z3) my_X7_in kl_X7_86 ⟨Nat.le_of_ble_eq_true rfl, Nat.le_of_ble_eq_true rfl⟩ rfl hl.1 rfl (Nat.le_of_ble_eq_true rfl) dX7_type_4 (fun H locs hI => ?_)
  refine lv_if_ne (tgt := 15) hx hb dX7_type_7 (by decide) (fun c14 => ?_) (fun c14 => ?_)
  · replace hF := itn c14 hF
    refine lv_aload_n hx hb dX7_type_15 rfl (lv_at hl 0 rfl) ?_
    refine gf_X7_262 G hI h0 dX7_type_16 ?_
    refine lv_bipush (v := (120 : Int32)) hx hb dX7_type_19 (by decide) ?_
    refine lv_icmp_ne (tgt := 29) hx hb dX7_type_21 (by decide) (fun c10 => ?_) (fun c10 => ?_)
    · replace hF := itn c10 hF
      refine lv_aload_n hx hb dX7_type_29 rfl (lv_at hl 0 rfl) ?_
      refine gf_X7_70 G hI h0 dX7_type_30 ?_
      refine lv_aload_n hx hb dX7_type_33 rfl (lv_at hl 0 rfl) ?_
      refine gf_X7_262 G hI h0 dX7_type_34 ?_
      refine lv_iload_n hx hb dX7_type_37 rfl (lv_at hl 1 rfl) ?_
      obtain ⟨g4, hF⟩ := gd_some hF
      obtain ⟨w5, ew5, hF⟩ := lt_some hF
      refine n_ast G hI (isX7.text h0) g4 dX7_type_38 (fun H locs hI => ?_)
      replace hI : Iv n sh D cA ad A s.heap w5 H locs := by rw [ew5]; exact hI
      refine lv_aload_n hx hb dX7_type_39 rfl (lv_at hl 0 rfl) ?_
      refine lv_dup hx hb dX7_type_40 rfl ?_
      refine gf_X7_262 G hI h0 dX7_type_41 ?_
      refine lv_iconst (v := (1 : Int32)) hx hb dX7_type_44 (by decide) ?_
      refine lv_iadd hx hb dX7_type_45 ?_
      obtain ⟨w6, ew6, hF⟩ := lt_some hF
      refine pf_X7_262 G hI h0 dX7_type_46 (fun H locs hI => ?_)
      replace hI : Iv n sh D cA ad A s.heap w6 H locs := by rw [ew6]; exact hI
      refine lv_aload_n hx hb dX7_type_49 rfl (lv_at hl 0 rfl) ?_
      refine gf_X7_262 G hI h0 dX7_type_50 ?_
      exact n_iret G hI hF rfl dX7_type_53
    · replace hF := itp c10 hF
      refine lv_aload_n hx hb dX7_type_24 rfl (lv_at hl 0 rfl) ?_
      obtain ⟨r8, w7, z9, hF⟩ := bd_some hF
      refine n_Vi (rest := []) G hI (c_X7_full hA h0 z9) my_X7_full kl_X7_221 (isX7.lt h0) (isX7.sh h0) rfl ⟨Nat.le_of_ble_eq_true rfl, Nat.le_of_ble_eq_true rfl⟩ rfl hl.1 rfl (Nat.le_of_ble_eq_true rfl) dX7_type_25 (fun H locs hI => ?_)
      exact n_iret G hI hF rfl dX7_type_28
  · replace hF := itp c14 hF
    refine lv_aload_n hx hb dX7_type_10 rfl (lv_at hl 0 rfl) ?_
    obtain ⟨r12, w11, z13, hF⟩ := bd_some hF
    refine n_Vi (rest := []) G hI (c_X7_bad hA h0 z13) my_X7_bad kl_X7_94 (isX7.lt h0) (isX7.sh h0) rfl ⟨Nat.le_of_ble_eq_true rfl, Nat.le_of_ble_eq_true rfl⟩ rfl hl.1 rfl (Nat.le_of_ble_eq_true rfl) dX7_type_11 (fun H locs hI => ?_)
    exact n_iret G hI hF rfl dX7_type_14
set_option maxHeartbeats 4000000 in
theorem c_X7_clear (hA : AdOk n ad A) (h0 : isX7 n sh 0) {w w' : Mem} {r : Int32} (hF : F_X7_clear  w = some (r, w')) : Ctr l n sh D cA ad A sa yX7_clear cX7_clear 2 (some .int) 0 0 [.ref (ad 0)] w (some (.int r)) w' := by
  refine m_enter hA (by decide) (Nat.le_of_ble_eq_true rfl) ?_
  intro p e s m args below meth c ls G hI hl
  replace hl : lv_has ls 2 [(0, .ref (ad 0))] := hl
  replace G : Mx n D cA ad A sa p s m args meth c RX7 cX7_clear 2 (some .int) := G
  obtain ⟨hx, hb, -, -, hown, hg, -⟩ := id G
  unfold F_X7_clear at hF
  refine lv_aload_n hx hb dX7_clear_0 rfl (lv_at hl 0 rfl) ?_
  refine gf_X7_262 G hI h0 dX7_clear_1 ?_
  refine lv_istore_n (lv' := [(1, .int (w 0 32)), (0, .ref (ad 0))]) hx hb dX7_clear_4 rfl hl (by decide) rfl (fun ls hl => ?_)
  refine lv_aload_n hx hb dX7_clear_5 rfl (lv_at hl 1 rfl) ?_
  refine lv_iconst (v := (0 : Int32)) hx hb dX7_clear_6 (by decide) ?_
  obtain ⟨w1, ew1, hF⟩ := lt_some hF
  refine pf_X7_262 G hI h0 dX7_clear_7 (fun H locs hI => ?_)
  replace hI : Iv n sh D cA ad A s.heap w1 H locs := by rw [ew1]; exact hI
  refine lv_iload_n hx hb dX7_clear_10 rfl (lv_at hl 0 rfl) ?_
  exact n_iret G hI hF rfl dX7_clear_11
set_option maxHeartbeats 4000000 in
theorem c_X7_here (hA : AdOk n ad A) (h0 : isX7 n sh 0) {w w' : Mem} {r : Int32} (hF : F_X7_here  w = some (r, w')) : Ctr l n sh D cA ad A sa yX7_here cX7_here 1 (some .int) 0 0 [.ref (ad 0)] w (some (.int r)) w' := by
  refine m_enter hA (by decide) (Nat.le_of_ble_eq_true rfl) ?_
  intro p e s m args below meth c ls G hI hl
  replace hl : lv_has ls 1 [(0, .ref (ad 0))] := hl
  replace G : Mx n D cA ad A sa p s m args meth c RX7 cX7_here 1 (some .int) := G
  obtain ⟨hx, hb, -, -, hown, hg, -⟩ := id G
  unfold F_X7_here at hF
  refine lv_aload_n hx hb dX7_here_0 rfl (lv_at hl 0 rfl) ?_
  refine gf_X7_265 G hI h0 dX7_here_1 ?_
  refine lv_aload_n hx hb dX7_here_4 rfl (lv_at hl 0 rfl) ?_
  refine gf_X7_262 G hI h0 dX7_here_5 ?_
  refine lv_icmp_ge (tgt := 23) hx hb dX7_here_8 (by decide) (fun c2 => ?_) (fun c2 => ?_)
  · replace hF := itp c2 hF
    refine lv_iconst (v := (-1 : Int32)) hx hb dX7_here_23 (by decide) ?_
    exact n_iret G hI hF rfl dX7_here_24
  · replace hF := itn c2 hF
    refine lv_aload_n hx hb dX7_here_11 rfl (lv_at hl 0 rfl) ?_
    refine gf_X7_70 G hI h0 dX7_here_12 ?_
    refine lv_aload_n hx hb dX7_here_15 rfl (lv_at hl 0 rfl) ?_
    refine gf_X7_265 G hI h0 dX7_here_16 ?_
    obtain ⟨g1, hF⟩ := gd_some hF
    refine n_ald G hI (isX7.text h0) g1 dX7_here_19 ?_
    refine lv_goto (tgt := 24) hx hb dX7_here_20 (by decide) ?_
    exact n_iret G hI hF rfl dX7_here_24
set_option maxHeartbeats 4000000 in
theorem l_X7_skips_0 {p : Program} {e : Env} {s : State} {m : MethodId} {args : Array Value} {below : List Frame} {meth : Method} {c : Code} (G : Mx n D cA ad A sa p s m args meth c RX7 cX7_skips 1 none)  (h0 : isX7 n sh 0) {k : Mem → Option (Unit × Mem)} {r : Unit} {w' : Mem}
    (hk : ∀  (w : Mem) (H : Heap) (locs : List Loc) (ls : Array Slot), k  w = some (r, w') → Iv n sh D cA ad A s.heap w H locs → lv_has ls 1 [(0, .ref (ad 0))] → W p l e ({ frames := 1, cells := 0, slots := 0, locals := 20 } : Room) s m args below meth c H locs 0 0 (QM n sh D cA ad A below args s none w') (F0 m 22 ls [])) :
    ∀ (N : Nat)  (w : Mem) (H : Heap) (locs : List Loc) (ls : Array Slot), L_X7_skips_0  k N  w = some (r, w') → Iv n sh D cA ad A s.heap w H locs → lv_has ls 1 [(0, .ref (ad 0))] → W p l e ({ frames := 1, cells := 0, slots := 0, locals := 20 } : Room) s m args below meth c H locs 0 0 (QM n sh D cA ad A below args s none w') (F0 m 0 ls []) := by
  obtain ⟨hx, hb, -, -, hown, hg, -, -, -, -, hA⟩ := id G
  intro N
  induction N with
  | zero =>
    intro  w H locs ls hF hI hl
    cases hF
  | succ N ih =>
    intro  w H locs ls hF hI hl
    rw [L_X7_skips_0] at hF
    refine lv_aload_n hx hb dX7_skips_0 rfl (lv_at hl 0 rfl) ?_
    obtain ⟨r2, w1, z3, hF⟩ := bd_some hF
    refine n_Vi (rest := []) G hI (c_X7_here hA h0 z3) my_X7_here kl_X7_268 (isX7.lt h0) (isX7.sh h0) rfl ⟨Nat.le_of_ble_eq_true rfl, Nat.le_of_ble_eq_true rfl⟩ rfl hl.1 rfl (Nat.le_of_ble_eq_true rfl) dX7_skips_1 (fun H locs hI => ?_)
    refine lv_bipush (v := (32 : Int32)) hx hb dX7_skips_4 (by decide) ?_
    refine lv_icmp_ne (tgt := 22) hx hb dX7_skips_6 (by decide) (fun c5 => ?_) (fun c5 => ?_)
    · replace hF := itn c5 hF
      exact hk _ _ _ _ hF hI (lv_sub hl [0] rfl)
    · replace hF := itp c5 hF
      refine lv_aload_n hx hb dX7_skips_9 rfl (lv_at hl 0 rfl) ?_
      refine lv_dup hx hb dX7_skips_10 rfl ?_
      refine gf_X7_265 G hI h0 dX7_skips_11 ?_
      refine lv_iconst (v := (1 : Int32)) hx hb dX7_skips_14 (by decide) ?_
      refine lv_iadd hx hb dX7_skips_15 ?_
      obtain ⟨w4, ew4, hF⟩ := lt_some hF
      refine pf_X7_265 G hI h0 dX7_skips_16 (fun H locs hI => ?_)
      replace hI : Iv n sh D cA ad A s.heap w4 H locs := by rw [ew4]; exact hI
      refine lv_goto (tgt := 0) hx hb dX7_skips_19 (by decide) ?_
      exact ih _ _ _ _ hF hI (lv_sub hl [0] rfl)
set_option maxHeartbeats 4000000 in
theorem c_X7_skips (hA : AdOk n ad A) (h0 : isX7 n sh 0) {w w' : Mem} {r : Unit} (hF : F_X7_skips  w = some (r, w')) : Ctr l n sh D cA ad A sa yX7_skips cX7_skips 1 none 1 20 [.ref (ad 0)] w none w' := by
  refine m_enter hA (by decide) (Nat.le_of_ble_eq_true rfl) ?_
  intro p e s m args below meth c ls G hI hl
  replace hl : lv_has ls 1 [(0, .ref (ad 0))] := hl
  replace G : Mx n D cA ad A sa p s m args meth c RX7 cX7_skips 1 none := G
  obtain ⟨hx, hb, -, -, hown, hg, -⟩ := id G
  unfold F_X7_skips at hF
  refine l_X7_skips_0 G h0 (fun w6 H locs ls hF hI hl => ?_) _ _ _ _ _ hF hI (lv_sub hl [0] rfl)
  refine lv_aload_n hx hb dX7_skips_22 rfl (lv_at hl 0 rfl) ?_
  refine lv_aload_n hx hb dX7_skips_23 rfl (lv_at hl 0 rfl) ?_
  refine gf_X7_265 G hI h0 dX7_skips_24 ?_
  obtain ⟨w7, ew7, hF⟩ := lt_some hF
  refine pf_X7_271 G hI h0 dX7_skips_27 (fun H locs hI => ?_)
  replace hI : Iv n sh D cA ad A s.heap w7 H locs := by rw [ew7]; exact hI
  exact n_vret G hI hF rfl dX7_skips_30
end WK14
