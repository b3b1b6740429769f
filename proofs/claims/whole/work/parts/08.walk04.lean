/-! walks, by program (wip/gen/walk.py): X4_dropFirst, X4_greatestOr, X4_leastOr, X4_totalOr, X5_append, X5_byteHere, X5_skipBlanks, X5_failAt, X5_readNumber, X5_readWant, X5_readPeriod, X5_readEnd, X5_readWish -/
section WK4
variable {n : Nat} {sh : Nat → Shp} {D : va_G} {cA : ClassId} {ad : Nat → Nat} {A : Nat → Prop} {sa : Nat → Nat} {l : Launch}
set_option maxHeartbeats 4000000 in
theorem l_X4_dropFirst_2 {p : Program} {e : Env} {s : State} {m : MethodId} {args : Array Value} {below : List Frame} {meth : Method} {c : Code} (G : Mx n D cA ad A sa p s m args meth c RX4 cX4_dropFirst 2 none) {q0 : Nat} (h0 : isX4 n sh q0) {k : Mem → Option (Unit × Mem)} {r : Unit} {w' : Mem}
    (hk : ∀  (w : Mem) (H : Heap) (locs : List Loc) (ls : Array Slot), k  w = some (r, w') → Iv n sh D cA ad A s.heap w H locs → lv_has ls 2 [(0, .ref (ad q0))] → W p l e ({ frames := 3, cells := 0, slots := 0, locals := 64 } : Room) s m args below meth c H locs 0 0 (QM n sh D cA ad A below args s none w') (F0 m 24 ls [])) :
    ∀ (N : Nat) (v1 : Int32) (w : Mem) (H : Heap) (locs : List Loc) (ls : Array Slot), L_X4_dropFirst_2 q0 k N v1 w = some (r, w') → Iv n sh D cA ad A s.heap w H locs → lv_has ls 2 [(0, .ref (ad q0)), (1, .int v1)] → W p l e ({ frames := 3, cells := 0, slots := 0, locals := 64 } : Room) s m args below meth c H locs 0 0 (QM n sh D cA ad A below args s none w') (F0 m 2 ls []) := by
  obtain ⟨hx, hb, -, -, hown, hg, -, -, -, -, hA⟩ := id G
  intro N
  induction N with
  | zero =>
    intro v1 w H locs ls hF hI hl
    cases hF
  | succ N ih =>
    intro v1 w H locs ls hF hI hl
    rw [L_X4_dropFirst_2] at hF
    refine lv_iload_n hx hb dX4_dropFirst_2 rfl (lv_at hl 1 rfl) ?_
    refine lv_aload_n hx hb dX4_dropFirst_3 rfl (lv_at hl 0 rfl) ?_
    refine gf_X4_25 G hI h0 dX4_dropFirst_4 ?_
    refine lv_icmp_ge (tgt := 24) hx hb dX4_dropFirst_7 (by decide) (fun c4 => ?_) (fun c4 => ?_)
    · replace hF := itp c4 hF
      exact hk _ _ _ _ hF hI (lv_sub hl [0] rfl)
    · replace hF := itn c4 hF
      refine lv_aload_n hx hb dX4_dropFirst_10 rfl (lv_at hl 0 rfl) ?_
      refine lv_iload_n hx hb dX4_dropFirst_11 rfl (lv_at hl 1 rfl) ?_
      refine lv_iload_n hx hb dX4_dropFirst_12 rfl (lv_at hl 1 rfl) ?_
      refine lv_iconst (v := (1 : Int32)) hx hb dX4_dropFirst_13 (by decide) ?_
      refine lv_isub hx hb dX4_dropFirst_14 ?_
      obtain ⟨r2, w1, z3, hF⟩ := bd_some hF
      refine n_Vv (rest := []) G hI (c_X4_moveRow hA h0 z3) my_X4_moveRow kl_X4_50 (isX4.lt h0) (isX4.sh h0) rfl ⟨Nat.le_of_ble_eq_true rfl, Nat.le_of_ble_eq_true rfl⟩ rfl hl.1 rfl (Nat.le_of_ble_eq_true rfl) dX4_dropFirst_15 (fun H locs hI => ?_)
      refine lv_iinc (v := (v1 + (1 : Int32))) (lv' := [(1, .int (v1 + (1 : Int32))), (0, .ref (ad q0))]) hx hb dX4_dropFirst_18 hl (k := 1) rfl rfl (by decide) rfl (fun ls hl => ?_)
      refine lv_goto (tgt := 2) hx hb dX4_dropFirst_21 (by decide) ?_
      exact ih _ _ _ _ _ hF hI (lv_sub hl [1, 0] rfl)
set_option maxHeartbeats 4000000 in
theorem c_X4_dropFirst (hA : AdOk n ad A) {q0 : Nat} (h0 : isX4 n sh q0) {w w' : Mem} {r : Unit} (hF : F_X4_dropFirst q0 w = some (r, w')) : Ctr l n sh D cA ad A sa yX4_dropFirst cX4_dropFirst 2 none 3 64 [.ref (ad q0)] w none w' := by
  refine m_enter hA (by decide) (Nat.le_of_ble_eq_true rfl) ?_
  intro p e s m args below meth c ls G hI hl
  replace hl : lv_has ls 2 [(0, .ref (ad q0))] := hl
  replace G : Mx n D cA ad A sa p s m args meth c RX4 cX4_dropFirst 2 none := G
  obtain ⟨hx, hb, -, -, hown, hg, -⟩ := id G
  unfold F_X4_dropFirst at hF
  refine lv_iconst (v := (1 : Int32)) hx hb dX4_dropFirst_0 (by decide) ?_
  refine lv_istore_n (lv' := [(1, .int (1 : Int32)), (0, .ref (ad q0))]) hx hb dX4_dropFirst_1 rfl hl (by decide) rfl (fun ls hl => ?_)
  refine l_X4_dropFirst_2 G h0 (fun w5 H locs ls hF hI hl => ?_) _ _ _ _ _ _ hF hI (lv_sub hl [1, 0] rfl)
  refine lv_aload_n hx hb dX4_dropFirst_24 rfl (lv_at hl 0 rfl) ?_
  refine lv_aload_n hx hb dX4_dropFirst_25 rfl (lv_at hl 0 rfl) ?_
  refine gf_X4_25 G hI h0 dX4_dropFirst_26 ?_
  refine lv_iconst (v := (1 : Int32)) hx hb dX4_dropFirst_29 (by decide) ?_
  refine lv_isub hx hb dX4_dropFirst_30 ?_
  obtain ⟨r7, w6, z8, hF⟩ := bd_some hF
  refine n_Vv (rest := []) G hI (c_X4_cutTo hA h0 z8) my_X4_cutTo kl_X4_54 (isX4.lt h0) (isX4.sh h0) rfl ⟨Nat.le_of_ble_eq_true rfl, Nat.le_of_ble_eq_true rfl⟩ rfl hl.1 rfl (Nat.le_of_ble_eq_true rfl) dX4_dropFirst_31 (fun H locs hI => ?_)
  exact n_vret G hI hF rfl dX4_dropFirst_34
set_option maxHeartbeats 4000000 in
theorem l_X4_greatestOr_11 {p : Program} {e : Env} {s : State} {m : MethodId} {args : Array Value} {below : List Frame} {meth : Method} {c : Code} (G : Mx n D cA ad A sa p s m args meth c RX4 cX4_greatestOr 5 (some .int)) {q0 : Nat} {a1 : Int32} {a2 : Int32} (h0 : isX4 n sh q0) {k : Int32 → Mem → Option (Int32 × Mem)} {r : Int32} {w' : Mem}
    (hk : ∀ (v3 : Int32) (w : Mem) (H : Heap) (locs : List Loc) (ls : Array Slot), k v3 w = some (r, w') → Iv n sh D cA ad A s.heap w H locs → lv_has ls 5 [(3, .int v3)] → W p l e ({ frames := 2, cells := 0, slots := 0, locals := 45 } : Room) s m args below meth c H locs 0 0 (QM n sh D cA ad A below args s (some (.int r)) w') (F0 m 39 ls [])) :
    ∀ (N : Nat) (v3 : Int32) (v4 : Int32) (w : Mem) (H : Heap) (locs : List Loc) (ls : Array Slot), L_X4_greatestOr_11 q0 a1 a2 k N v3 v4 w = some (r, w') → Iv n sh D cA ad A s.heap w H locs → lv_has ls 5 [(0, .ref (ad q0)), (1, .int a1), (2, .int a2), (3, .int v3), (4, .int v4)] → W p l e ({ frames := 2, cells := 0, slots := 0, locals := 45 } : Room) s m args below meth c H locs 0 0 (QM n sh D cA ad A below args s (some (.int r)) w') (F0 m 11 ls []) := by
  obtain ⟨hx, hb, -, -, hown, hg, -, -, -, -, hA⟩ := id G
  intro N
  induction N with
  | zero =>
    intro v3 v4 w H locs ls hF hI hl
    cases hF
  | succ N ih =>
    intro v3 v4 w H locs ls hF hI hl
    rw [L_X4_greatestOr_11] at hF
    refine lv_iload hx hb dX4_greatestOr_11 (lv_at hl 4 rfl) ?_
    refine lv_aload_n hx hb dX4_greatestOr_13 rfl (lv_at hl 0 rfl) ?_
    refine gf_X4_25 G hI h0 dX4_greatestOr_14 ?_
    refine lv_icmp_ge (tgt := 39) hx hb dX4_greatestOr_17 (by decide) (fun c7 => ?_) (fun c7 => ?_)
    · replace hF := itp c7 hF
      exact hk _ _ _ _ _ hF hI (lv_sub hl [3] rfl)
    · replace hF := itn c7 hF
      refine lv_iload_n hx hb dX4_greatestOr_20 rfl (lv_at hl 3 rfl) ?_
      refine lv_aload_n hx hb dX4_greatestOr_21 rfl (lv_at hl 0 rfl) ?_
      refine lv_iload_n hx hb dX4_greatestOr_22 rfl (lv_at hl 1 rfl) ?_
      refine lv_iload hx hb dX4_greatestOr_23 (lv_at hl 4 rfl) ?_
      refine lv_iload_n hx hb dX4_greatestOr_25 rfl (lv_at hl 2 rfl) ?_
      obtain ⟨r5, w4, z6, hF⟩ := bd_some hF
      refine n_Vi (rest := [.int v3]) G hI (c_X4_cellOr hA h0 z6) my_X4_cellOr kl_X4_58 (isX4.lt h0) (isX4.sh h0) rfl ⟨Nat.le_of_ble_eq_true rfl, Nat.le_of_ble_eq_true rfl⟩ rfl hl.1 rfl (Nat.le_of_ble_eq_true rfl) dX4_greatestOr_26 (fun H locs hI => ?_)
      refine n_max G kl_X4_9 (Nat.le_of_ble_eq_true rfl) (Nat.le_of_ble_eq_true rfl) hl.1 dX4_greatestOr_29 ?_
      refine lv_istore_n (lv' := [(3, .int (imax v3 r5)), (0, .ref (ad q0)), (1, .int a1), (2, .int a2), (4, .int v4)]) hx hb dX4_greatestOr_32 rfl hl (by decide) rfl (fun ls hl => ?_)
      refine lv_iinc (v := (v4 + (1 : Int32))) (lv' := [(4, .int (v4 + (1 : Int32))), (3, .int (imax v3 r5)), (0, .ref (ad q0)), (1, .int a1), (2, .int a2)]) hx hb dX4_greatestOr_33 hl (k := 4) rfl rfl (by decide) rfl (fun ls hl => ?_)
      refine lv_goto (tgt := 11) hx hb dX4_greatestOr_36 (by decide) ?_
      exact ih _ _ _ _ _ _ hF hI (lv_sub hl [2, 3, 4, 1, 0] rfl)
set_option maxHeartbeats 4000000 in
theorem c_X4_greatestOr (hA : AdOk n ad A) {q0 : Nat} (h0 : isX4 n sh q0) {a1 : Int32} {a2 : Int32} {w w' : Mem} {r : Int32} (hF : F_X4_greatestOr q0 a1 a2 w = some (r, w')) : Ctr l n sh D cA ad A sa yX4_greatestOr cX4_greatestOr 5 (some .int) 2 45 [.ref (ad q0), .int a1, .int a2] w (some (.int r)) w' := by
  refine m_enter hA (by decide) (Nat.le_of_ble_eq_true rfl) ?_
  intro p e s m args below meth c ls G hI hl
  replace hl : lv_has ls 5 [(0, .ref (ad q0)), (1, .int a1), (2, .int a2)] := hl
  replace G : Mx n D cA ad A sa p s m args meth c RX4 cX4_greatestOr 5 (some .int) := G
  obtain ⟨hx, hb, -, -, hown, hg, -⟩ := id G
  unfold F_X4_greatestOr at hF
  refine lv_aload_n hx hb dX4_greatestOr_0 rfl (lv_at hl 0 rfl) ?_
  refine lv_iload_n hx hb dX4_greatestOr_1 rfl (lv_at hl 1 rfl) ?_
  refine lv_iconst (v := (0 : Int32)) hx hb dX4_greatestOr_2 (by decide) ?_
  refine lv_iload_n hx hb dX4_greatestOr_3 rfl (lv_at hl 2 rfl) ?_
  obtain ⟨r2, w1, z3, hF⟩ := bd_some hF
  refine n_Vi (rest := []) G hI (c_X4_cellOr hA h0 z3) my_X4_cellOr kl_X4_58 (isX4.lt h0) (isX4.sh h0) rfl ⟨Nat.le_of_ble_eq_true rfl, Nat.le_of_ble_eq_true rfl⟩ rfl hl.1 rfl (Nat.le_of_ble_eq_true rfl) dX4_greatestOr_4 (fun H locs hI => ?_)
  refine lv_istore_n (lv' := [(3, .int r2), (0, .ref (ad q0)), (1, .int a1), (2, .int a2)]) hx hb dX4_greatestOr_7 rfl hl (by decide) rfl (fun ls hl => ?_)
  refine lv_iconst (v := (1 : Int32)) hx hb dX4_greatestOr_8 (by decide) ?_
  refine lv_istore (lv' := [(4, .int (1 : Int32)), (3, .int r2), (0, .ref (ad q0)), (1, .int a1), (2, .int a2)]) hx hb dX4_greatestOr_9 hl (by decide) rfl (fun ls hl => ?_)
  refine l_X4_greatestOr_11 G h0 (fun x9 w8 H locs ls hF hI hl => ?_) _ _ _ _ _ _ _ hF hI (lv_sub hl [2, 3, 4, 1, 0] rfl)
  refine lv_iload_n hx hb dX4_greatestOr_39 rfl (lv_at hl 0 rfl) ?_
  exact n_iret G hI hF rfl dX4_greatestOr_40
set_option maxHeartbeats 4000000 in
theorem l_X4_leastOr_11 {p : Program} {e : Env} {s : State} {m : MethodId} {args : Array Value} {below : List Frame} {meth : Method} {c : Code} (G : Mx n D cA ad A sa p s m args meth c RX4 cX4_leastOr 5 (some .int)) {q0 : Nat} {a1 : Int32} {a2 : Int32} (h0 : isX4 n sh q0) {k : Int32 → Mem → Option (Int32 × Mem)} {r : Int32} {w' : Mem}
    (hk : ∀ (v3 : Int32) (w : Mem) (H : Heap) (locs : List Loc) (ls : Array Slot), k v3 w = some (r, w') → Iv n sh D cA ad A s.heap w H locs → lv_has ls 5 [(3, .int v3)] → W p l e ({ frames := 2, cells := 0, slots := 0, locals := 45 } : Room) s m args below meth c H locs 0 0 (QM n sh D cA ad A below args s (some (.int r)) w') (F0 m 39 ls [])) :
    ∀ (N : Nat) (v3 : Int32) (v4 : Int32) (w : Mem) (H : Heap) (locs : List Loc) (ls : Array Slot), L_X4_leastOr_11 q0 a1 a2 k N v3 v4 w = some (r, w') → Iv n sh D cA ad A s.heap w H locs → lv_has ls 5 [(0, .ref (ad q0)), (1, .int a1), (2, .int a2), (3, .int v3), (4, .int v4)] → W p l e ({ frames := 2, cells := 0, slots := 0, locals := 45 } : Room) s m args below meth c H locs 0 0 (QM n sh D cA ad A below args s (some (.int r)) w') (F0 m 11 ls []) := by
  obtain ⟨hx, hb, -, -, hown, hg, -, -, -, -, hA⟩ := id G
  intro N
  induction N with
  | zero =>
    intro v3 v4 w H locs ls hF hI hl
    cases hF
  | succ N ih =>
    intro v3 v4 w H locs ls hF hI hl
    rw [L_X4_leastOr_11] at hF
    refine lv_iload hx hb dX4_leastOr_11 (lv_at hl 4 rfl) ?_
    refine lv_aload_n hx hb dX4_leastOr_13 rfl (lv_at hl 0 rfl) ?_
    refine gf_X4_25 G hI h0 dX4_leastOr_14 ?_
    refine lv_icmp_ge (tgt := 39) hx hb dX4_leastOr_17 (by decide) (fun c7 => ?_) (fun c7 => ?_)
    · replace hF := itp c7 hF
      exact hk _ _ _ _ _ hF hI (lv_sub hl [3] rfl)
    · replace hF := itn c7 hF
      refine lv_iload_n hx hb dX4_leastOr_20 rfl (lv_at hl 3 rfl) ?_
      refine lv_aload_n hx hb dX4_leastOr_21 rfl (lv_at hl 0 rfl) ?_
      refine lv_iload_n hx hb dX4_leastOr_22 rfl (lv_at hl 1 rfl) ?_
      refine lv_iload hx hb dX4_leastOr_23 (lv_at hl 4 rfl) ?_
      refine lv_iload_n hx hb dX4_leastOr_25 rfl (lv_at hl 2 rfl) ?_
      obtain ⟨r5, w4, z6, hF⟩ := bd_some hF
      refine n_Vi (rest := [.int v3]) G hI (c_X4_cellOr hA h0 z6) my_X4_cellOr kl_X4_58 (isX4.lt h0) (isX4.sh h0) rfl ⟨Nat.le_of_ble_eq_true rfl, Nat.le_of_ble_eq_true rfl⟩ rfl hl.1 rfl (Nat.le_of_ble_eq_true rfl) dX4_leastOr_26 (fun H locs hI => ?_)
      refine n_min G kl_X4_61 (Nat.le_of_ble_eq_true rfl) (Nat.le_of_ble_eq_true rfl) hl.1 dX4_leastOr_29 ?_
      refine lv_istore_n (lv' := [(3, .int (imin v3 r5)), (0, .ref (ad q0)), (1, .int a1), (2, .int a2), (4, .int v4)]) hx hb dX4_leastOr_32 rfl hl (by decide) rfl (fun ls hl => ?_)
      refine lv_iinc (v := (v4 + (1 : Int32))) (lv' := [(4, .int (v4 + (1 : Int32))), (3, .int (imin v3 r5)), (0, .ref (ad q0)), (1, .int a1), (2, .int a2)]) hx hb dX4_leastOr_33 hl (k := 4) rfl rfl (by decide) rfl (fun ls hl => ?_)
      refine lv_goto (tgt := 11) hx hb dX4_leastOr_36 (by decide) ?_
      exact ih _ _ _ _ _ _ hF hI (lv_sub hl [2, 3, 4, 1, 0] rfl)
set_option maxHeartbeats 4000000 in
theorem c_X4_leastOr (hA : AdOk n ad A) {q0 : Nat} (h0 : isX4 n sh q0) {a1 : Int32} {a2 : Int32} {w w' : Mem} {r : Int32} (hF : F_X4_leastOr q0 a1 a2 w = some (r, w')) : Ctr l n sh D cA ad A sa yX4_leastOr cX4_leastOr 5 (some .int) 2 45 [.ref (ad q0), .int a1, .int a2] w (some (.int r)) w' := by
  refine m_enter hA (by decide) (Nat.le_of_ble_eq_true rfl) ?_
  intro p e s m args below meth c ls G hI hl
  replace hl : lv_has ls 5 [(0, .ref (ad q0)), (1, .int a1), (2, .int a2)] := hl
  replace G : Mx n D cA ad A sa p s m args meth c RX4 cX4_leastOr 5 (some .int) := G
  obtain ⟨hx, hb, -, -, hown, hg, -⟩ := id G
  unfold F_X4_leastOr at hF
  refine lv_aload_n hx hb dX4_leastOr_0 rfl (lv_at hl 0 rfl) ?_
  refine lv_iload_n hx hb dX4_leastOr_1 rfl (lv_at hl 1 rfl) ?_
  refine lv_iconst (v := (0 : Int32)) hx hb dX4_leastOr_2 (by decide) ?_
  refine lv_iload_n hx hb dX4_leastOr_3 rfl (lv_at hl 2 rfl) ?_
  obtain ⟨r2, w1, z3, hF⟩ := bd_some hF
  refine n_Vi (rest := []) G hI (c_X4_cellOr hA h0 z3) my_X4_cellOr kl_X4_58 (isX4.lt h0) (isX4.sh h0) rfl ⟨Nat.le_of_ble_eq_true rfl, Nat.le_of_ble_eq_true rfl⟩ rfl hl.1 rfl (Nat.le_of_ble_eq_true rfl) dX4_leastOr_4 (fun H locs hI => ?_)
  refine lv_istore_n (lv' := [(3, .int r2), (0, .ref (ad q0)), (1, .int a1), (2, .int a2)]) hx hb dX4_leastOr_7 rfl hl (by decide) rfl (fun ls hl => ?_)
  refine lv_iconst (v := (1 : Int32)) hx hb dX4_leastOr_8 (by decide) ?_
  refine lv_istore (lv' := [(4, .int (1 : Int32)), (3, .int r2), (0, .ref (ad q0)), (1, .int a1), (2, .int a2)]) hx hb dX4_leastOr_9 hl (by decide) rfl (fun ls hl => ?_)
  refine l_X4_leastOr_11 G h0 (fun x9 w8 H locs ls hF hI hl => ?_) _ _ _ _ _ _ _ hF hI (lv_sub hl [2, 3, 4, 1, 0] rfl)
  refine lv_iload_n hx hb dX4_leastOr_39 rfl (lv_at hl 0 rfl) ?_
  exact n_iret G hI hF rfl dX4_leastOr_40
set_option maxHeartbeats 4000000 in
theorem l_X4_totalOr_11 {p : Program} {e : Env} {s : State} {m : MethodId} {args : Array Value} {below : List Frame} {meth : Method} {c : Code} (G : Mx n D cA ad A sa p s m args meth c RX4 cX4_totalOr 5 (some .int)) {q0 : Nat} {a1 : Int32} {a2 : Int32} (h0 : isX4 n sh q0) {k : Int32 → Mem → Option (Int32 × Mem)} {r : Int32} {w' : Mem}
    (hk : ∀ (v3 : Int32) (w : Mem) (H : Heap) (locs : List Loc) (ls : Array Slot), k v3 w = some (r, w') → Iv n sh D cA ad A s.heap w H locs → lv_has ls 5 [(3, .int v3)] → W p l e ({ frames := 2, cells := 0, slots := 0, locals := 45 } : Room) s m args below meth c H locs 0 0 (QM n sh D cA ad A below args s (some (.int r)) w') (F0 m 37 ls [])) :
    ∀ (N : Nat) (v3 : Int32) (v4 : Int32) (w : Mem) (H : Heap) (locs : List Loc) (ls : Array Slot), L_X4_totalOr_11 q0 a1 a2 k N v3 v4 w = some (r, w') → Iv n sh D cA ad A s.heap w H locs → lv_has ls 5 [(0, .ref (ad q0)), (1, .int a1), (2, .int a2), (3, .int v3), (4, .int v4)] → W p l e ({ frames := 2, cells := 0, slots := 0, locals := 45 } : Room) s m args below meth c H locs 0 0 (QM n sh D cA ad A below args s (some (.int r)) w') (F0 m 11 ls []) := by
  obtain ⟨hx, hb, -, -, hown, hg, -, -, -, -, hA⟩ := id G
  intro N
  induction N with
  | zero =>
    intro v3 v4 w H locs ls hF hI hl
    cases hF
  | succ N ih =>
    intro v3 v4 w H locs ls hF hI hl
    rw [L_X4_totalOr_11] at hF
    refine lv_iload hx hb dX4_totalOr_11 (lv_at hl 4 rfl) ?_
    refine lv_aload_n hx hb dX4_totalOr_13 rfl (lv_at hl 0 rfl) ?_
    refine gf_X4_25 G hI h0 dX4_totalOr_14 ?_
    refine lv_icmp_ge (tgt := 37) hx hb dX4_totalOr_17 (by decide) (fun c7 => ?_) (fun c7 => ?_)
    · replace hF := itp c7 hF
      exact hk _ _ _ _ _ hF hI (lv_sub hl [3] rfl)
    · replace hF := itn c7 hF
      refine lv_iload_n hx hb dX4_totalOr_20 rfl (lv_at hl 3 rfl) ?_
      refine lv_aload_n hx hb dX4_totalOr_21 rfl (lv_at hl 0 rfl) ?_
      refine lv_iload_n hx hb dX4_totalOr_22 rfl (lv_at hl 1 rfl) ?_
      refine lv_iload hx hb dX4_totalOr_23 (lv_at hl 4 rfl) ?_
      refine lv_iload_n hx hb dX4_totalOr_25 rfl (lv_at hl 2 rfl) ?_
      obtain ⟨r5, w4, z6, hF⟩ := bd_some hF
      refine n_Vi (rest := [.int v3]) G hI (c_X4_cellOr hA h0 z6) my_X4_cellOr kl_X4_58 (isX4.lt h0) (isX4.sh h0) rfl ⟨Nat.le_of_ble_eq_true rfl, Nat.le_of_ble_eq_true rfl⟩ rfl hl.1 rfl (Nat.le_of_ble_eq_true rfl) dX4_totalOr_26 (fun H locs hI => ?_)
      refine lv_iadd hx hb dX4_totalOr_29 ?_
      refine lv_istore_n (lv' := [(3, .int (v3 + r5)), (0, .ref (ad q0)), (1, .int a1), (2, .int a2), (4, .int v4)]) hx hb dX4_totalOr_30 rfl hl (by decide) rfl (fun ls hl => ?_)
      refine lv_iinc (v := (v4 + (1 : Int32))) (lv' := [(4, .int (v4 + (1 : Int32))), (3, .int (v3 + r5)), (0, .ref (ad q0)), (1, .int a1), (2, .int a2)]) hx hb dX4_totalOr_31 hl (k := 4) rfl rfl (by decide) rfl (fun ls hl => ?_)
      refine lv_goto (tgt := 11) hx hb dX4_totalOr_34 (by decide) ?_
      exact ih _ _ _ _ _ _ hF hI (lv_sub hl [2, 3, 4, 1, 0] rfl)
set_option maxHeartbeats 4000000 in
theorem c_X4_totalOr (hA : AdOk n ad A) {q0 : Nat} (h0 : isX4 n sh q0) {a1 : Int32} {a2 : Int32} {w w' : Mem} {r : Int32} (hF : F_X4_totalOr q0 a1 a2 w = some (r, w')) : Ctr l n sh D cA ad A sa yX4_totalOr cX4_totalOr 5 (some .int) 2 45 [.ref (ad q0), .int a1, .int a2] w (some (.int r)) w' := by
  refine m_enter hA (by decide) (Nat.le_of_ble_eq_true rfl) ?_
  intro p e s m args below meth c ls G hI hl
  replace hl : lv_has ls 5 [(0, .ref (ad q0)), (1, .int a1), (2, .int a2)] := hl
  replace G : Mx n D cA ad A sa p s m args meth c RX4 cX4_totalOr 5 (some .int) := G
  obtain ⟨hx, hb, -, -, hown, hg, -⟩ := id G
  unfold F_X4_totalOr at hF
  refine lv_aload_n hx hb dX4_totalOr_0 rfl (lv_at hl 0 rfl) ?_
  refine lv_iload_n hx hb dX4_totalOr_1 rfl (lv_at hl 1 rfl) ?_
  refine lv_iconst (v := (0 : Int32)) hx hb dX4_totalOr_2 (by decide) ?_
  refine lv_iload_n hx hb dX4_totalOr_3 rfl (lv_at hl 2 rfl) ?_
  obtain ⟨r2, w1, z3, hF⟩ := bd_some hF
  refine n_Vi (rest := []) G hI (c_X4_cellOr hA h0 z3) my_X4_cellOr kl_X4_58 (isX4.lt h0) (isX4.sh h0) rfl ⟨Nat.le_of_ble_eq_true rfl, Nat.le_of_ble_eq_true rfl⟩ rfl hl.1 rfl (Nat.le_of_ble_eq_true rfl) dX4_totalOr_4 (fun H locs hI => ?_)
  refine lv_istore_n (lv' := [(3, .int r2), (0, .ref (ad q0)), (1, .int a1), (2, .int a2)]) hx hb dX4_totalOr_7 rfl hl (by decide) rfl (fun ls hl => ?_)
  refine lv_iconst (v := (1 : Int32)) hx hb dX4_totalOr_8 (by decide) ?_
  refine lv_istore (lv' := [(4, .int (1 : Int32)), (3, .int r2), (0, .ref (ad q0)), (1, .int a1), (2, .int a2)]) hx hb dX4_totalOr_9 hl (by decide) rfl (fun ls hl => ?_)
  refine l_X4_totalOr_11 G h0 (fun x9 w8 H locs ls hF hI hl => ?_) _ _ _ _ _ _ _ hF hI (lv_sub hl [2, 3, 4, 1, 0] rfl)
  refine lv_iload_n hx hb dX4_totalOr_37 rfl (lv_at hl 0 rfl) ?_
  exact n_iret G hI hF rfl dX4_totalOr_38
set_option maxHeartbeats 4000000 in
theorem c_X5_append (hA : AdOk n ad A) (h0 : isX5 n sh 41) {a1 : Int32} {w w' : Mem} {r : Unit} (hF : F_X5_append a1 w = some (r, w')) : Ctr l n sh D cA ad A sa yX5_append cX5_append 2 none 0 0 [.ref (ad 41), .int a1] w none w' := by
  refine m_enter hA (by decide) (Nat.le_of_ble_eq_true rfl) ?_
  intro p e s m args below meth c ls G hI hl
  replace hl : lv_has ls 2 [(0, .ref (ad 41)), (1, .int a1)] := hl
  replace G : Mx n D cA ad A sa p s m args meth c RX5 cX5_append 2 none := G
  obtain ⟨hx, hb, -, -, hown, hg, -⟩ := id G
  unfold F_X5_append at hF
  refine lv_aload_n hx hb dX5_append_0 rfl (lv_at hl 0 rfl) ?_
  refine gf_X5_24 G hI h0 dX5_append_1 ?_
  refine lv_bipush (v := (120 : Int32)) hx hb dX5_append_4 (by decide) ?_
  refine lv_icmp_ge (tgt := 29) hx hb dX5_append_6 (by decide) (fun c4 => ?_) (fun c4 => ?_)
  · replace hF := itp c4 hF
    exact n_vret G hI hF rfl dX5_append_29
  · replace hF := itn c4 hF
    refine lv_aload_n hx hb dX5_append_9 rfl (lv_at hl 0 rfl) ?_
    refine gf_X5_9 G hI h0 dX5_append_10 ?_
    refine lv_aload_n hx hb dX5_append_13 rfl (lv_at hl 0 rfl) ?_
    refine gf_X5_24 G hI h0 dX5_append_14 ?_
    refine lv_iload_n hx hb dX5_append_17 rfl (lv_at hl 1 rfl) ?_
    obtain ⟨g1, hF⟩ := gd_some hF
    obtain ⟨w2, ew2, hF⟩ := lt_some hF
    refine n_ast G hI (isX5.bytes h0) g1 dX5_append_18 (fun H locs hI => ?_)
    replace hI : Iv n sh D cA ad A s.heap w2 H locs := by rw [ew2]; exact hI
    refine lv_aload_n hx hb dX5_append_19 rfl (lv_at hl 0 rfl) ?_
    refine lv_dup hx hb dX5_append_20 rfl ?_
    refine gf_X5_24 G hI h0 dX5_append_21 ?_
    refine lv_iconst (v := (1 : Int32)) hx hb dX5_append_24 (by decide) ?_
    refine lv_iadd hx hb dX5_append_25 ?_
    obtain ⟨w3, ew3, hF⟩ := lt_some hF
    refine pf_X5_24 G hI h0 dX5_append_26 (fun H locs hI => ?_)
    replace hI : Iv n sh D cA ad A s.heap w3 H locs := by rw [ew3]; exact hI
    exact n_vret G hI hF rfl dX5_append_29
set_option maxHeartbeats 4000000 in
theorem c_X5_byteHere (hA : AdOk n ad A) (h0 : isX5 n sh 41) {w w' : Mem} {r : Int32} (hF : F_X5_byteHere  w = some (r, w')) : Ctr l n sh D cA ad A sa yX5_byteHere cX5_byteHere 1 (some .int) 0 0 [.ref (ad 41)] w (some (.int r)) w' := by
  refine m_enter hA (by decide) (Nat.le_of_ble_eq_true rfl) ?_
  intro p e s m args below meth c ls G hI hl
  replace hl : lv_has ls 1 [(0, .ref (ad 41))] := hl
  replace G : Mx n D cA ad A sa p s m args meth c RX5 cX5_byteHere 1 (some .int) := G
  obtain ⟨hx, hb, -, -, hown, hg, -⟩ := id G
  unfold F_X5_byteHere at hF
  refine lv_aload_n hx hb dX5_byteHere_0 rfl (lv_at hl 0 rfl) ?_
  refine gf_X5_31 G hI h0 dX5_byteHere_1 ?_
  refine lv_if_lt (tgt := 39) hx hb dX5_byteHere_4 (by decide) (fun c4 => ?_) (fun c4 => ?_)
  · replace hF := itp c4 hF
    refine lv_iconst (v := (-1 : Int32)) hx hb dX5_byteHere_39 (by decide) ?_
    exact n_iret G hI hF rfl dX5_byteHere_40
  · replace hF := itn c4 hF
    refine lv_aload_n hx hb dX5_byteHere_7 rfl (lv_at hl 0 rfl) ?_
    refine gf_X5_31 G hI h0 dX5_byteHere_8 ?_
    refine lv_aload_n hx hb dX5_byteHere_11 rfl (lv_at hl 0 rfl) ?_
    refine gf_X5_24 G hI h0 dX5_byteHere_12 ?_
    refine lv_icmp_ge (tgt := 39) hx hb dX5_byteHere_15 (by decide) (fun c3 => ?_) (fun c3 => ?_)
    · replace hF := itp c3 hF
      refine lv_iconst (v := (-1 : Int32)) hx hb dX5_byteHere_39 (by decide) ?_
      exact n_iret G hI hF rfl dX5_byteHere_40
    · replace hF := itn c3 hF
      refine lv_aload_n hx hb dX5_byteHere_18 rfl (lv_at hl 0 rfl) ?_
      refine gf_X5_31 G hI h0 dX5_byteHere_19 ?_
      refine lv_bipush (v := (120 : Int32)) hx hb dX5_byteHere_22 (by decide) ?_
      refine lv_icmp_ge (tgt := 39) hx hb dX5_byteHere_24 (by decide) (fun c2 => ?_) (fun c2 => ?_)
      · replace hF := itp c2 hF
        refine lv_iconst (v := (-1 : Int32)) hx hb dX5_byteHere_39 (by decide) ?_
        exact n_iret G hI hF rfl dX5_byteHere_40
      · replace hF := itn c2 hF
        refine lv_aload_n hx hb dX5_byteHere_27 rfl (lv_at hl 0 rfl) ?_
        refine gf_X5_9 G hI h0 dX5_byteHere_28 ?_
        refine lv_aload_n hx hb dX5_byteHere_31 rfl (lv_at hl 0 rfl) ?_
        refine gf_X5_31 G hI h0 dX5_byteHere_32 ?_
        obtain ⟨g1, hF⟩ := gd_some hF
        refine n_ald G hI (isX5.bytes h0) g1 dX5_byteHere_35 ?_
        refine lv_goto (tgt := 40) hx hb dX5_byteHere_36 (by decide) ?_
        exact n_iret G hI hF rfl dX5_byteHere_40
set_option maxHeartbeats 4000000 in
theorem l_X5_skipBlanks_0 {p : Program} {e : Env} {s : State} {m : MethodId} {args : Array Value} {below : List Frame} {meth : Method} {c : Code} (G : Mx n D cA ad A sa p s m args meth c RX5 cX5_skipBlanks 1 none)  (h0 : isX5 n sh 41) {k : Mem → Option (Unit × Mem)} {r : Unit} {w' : Mem}
    (hk : ∀  (w : Mem) (H : Heap) (locs : List Loc) (ls : Array Slot), k  w = some (r, w') → Iv n sh D cA ad A s.heap w H locs → lv_has ls 1 [] → W p l e ({ frames := 1, cells := 0, slots := 0, locals := 20 } : Room) s m args below meth c H locs 0 0 (QM n sh D cA ad A below args s none w') (F0 m 33 ls [])) :
    ∀ (N : Nat)  (w : Mem) (H : Heap) (locs : List Loc) (ls : Array Slot), L_X5_skipBlanks_0  k N  w = some (r, w') → Iv n sh D cA ad A s.heap w H locs → lv_has ls 1 [(0, .ref (ad 41))] → W p l e ({ frames := 1, cells := 0, slots := 0, locals := 20 } : Room) s m args below meth c H locs 0 0 (QM n sh D cA ad A below args s none w') (F0 m 0 ls []) := by
  obtain ⟨hx, hb, -, -, hown, hg, -, -, -, -, hA⟩ := id G
  intro N
  induction N with
  | zero =>
    intro  w H locs ls hF hI hl
    cases hF
  | succ N ih =>
    intro  w H locs ls hF hI hl
    rw [L_X5_skipBlanks_0] at hF
    refine lv_aload_n hx hb dX5_skipBlanks_0 rfl (lv_at hl 0 rfl) ?_
    refine gf_X5_31 G hI h0 dX5_skipBlanks_1 ?_
    refine lv_aload_n hx hb dX5_skipBlanks_4 rfl (lv_at hl 0 rfl) ?_
    refine gf_X5_24 G hI h0 dX5_skipBlanks_5 ?_
    refine lv_icmp_ge (tgt := 33) hx hb dX5_skipBlanks_8 (by decide) (fun c6 => ?_) (fun c6 => ?_)
    · replace hF := itp c6 hF
      exact hk _ _ _ _ hF hI (lv_sub hl [] rfl)
    · replace hF := itn c6 hF
      refine lv_aload_n hx hb dX5_skipBlanks_11 rfl (lv_at hl 0 rfl) ?_
      obtain ⟨r2, w1, z3, hF⟩ := bd_some hF
      refine n_Vi (rest := []) G hI (c_X5_byteHere hA h0 z3) my_X5_byteHere kl_X5_44 (isX5.lt h0) (isX5.sh h0) rfl ⟨Nat.le_of_ble_eq_true rfl, Nat.le_of_ble_eq_true rfl⟩ rfl hl.1 rfl (Nat.le_of_ble_eq_true rfl) dX5_skipBlanks_12 (fun H locs hI => ?_)
      refine lv_bipush (v := (32 : Int32)) hx hb dX5_skipBlanks_15 (by decide) ?_
      refine lv_icmp_ne (tgt := 33) hx hb dX5_skipBlanks_17 (by decide) (fun c5 => ?_) (fun c5 => ?_)
      · replace hF := itn c5 hF
        exact hk _ _ _ _ hF hI (lv_sub hl [] rfl)
      · replace hF := itp c5 hF
        refine lv_aload_n hx hb dX5_skipBlanks_20 rfl (lv_at hl 0 rfl) ?_
        refine lv_dup hx hb dX5_skipBlanks_21 rfl ?_
        refine gf_X5_31 G hI h0 dX5_skipBlanks_22 ?_
        refine lv_iconst (v := (1 : Int32)) hx hb dX5_skipBlanks_25 (by decide) ?_
        refine lv_iadd hx hb dX5_skipBlanks_26 ?_
        obtain ⟨w4, ew4, hF⟩ := lt_some hF
        refine pf_X5_31 G hI h0 dX5_skipBlanks_27 (fun H locs hI => ?_)
        replace hI : Iv n sh D cA ad A s.heap w4 H locs := by rw [ew4]; exact hI
        refine lv_goto (tgt := 0) hx hb dX5_skipBlanks_30 (by decide) ?_
        exact ih _ _ _ _ hF hI (lv_sub hl [0] rfl)
set_option maxHeartbeats 4000000 in
theorem c_X5_skipBlanks (hA : AdOk n ad A) (h0 : isX5 n sh 41) {w w' : Mem} {r : Unit} (hF : F_X5_skipBlanks  w = some (r, w')) : Ctr l n sh D cA ad A sa yX5_skipBlanks cX5_skipBlanks 1 none 1 20 [.ref (ad 41)] w none w' := by
  refine m_enter hA (by decide) (Nat.le_of_ble_eq_true rfl) ?_
  intro p e s m args below meth c ls G hI hl
  replace hl : lv_has ls 1 [(0, .ref (ad 41))] := hl
  replace G : Mx n D cA ad A sa p s m args meth c RX5 cX5_skipBlanks 1 none := G
  obtain ⟨hx, hb, -, -, hown, hg, -⟩ := id G
  unfold F_X5_skipBlanks at hF
  refine l_X5_skipBlanks_0 G h0 (fun w7 H locs ls hF hI hl => ?_) _ _ _ _ _ hF hI (lv_sub hl [0] rfl)
  exact n_vret G hI hF rfl dX5_skipBlanks_33
set_option maxHeartbeats 4000000 in
theorem c_X5_failAt (hA : AdOk n ad A) (h0 : isX5 n sh 41) {a1 : Int32} {w w' : Mem} {r : Unit} (hF : F_X5_failAt a1 w = some (r, w')) : Ctr l n sh D cA ad A sa yX5_failAt cX5_failAt 2 none 0 0 [.ref (ad 41), .int a1] w none w' := by
  refine m_enter hA (by decide) (Nat.le_of_ble_eq_true rfl) ?_
  intro p e s m args below meth c ls G hI hl
  replace hl : lv_has ls 2 [(0, .ref (ad 41)), (1, .int a1)] := hl
  replace G : Mx n D cA ad A sa p s m args meth c RX5 cX5_failAt 2 none := G
  obtain ⟨hx, hb, -, -, hown, hg, -⟩ := id G
  unfold F_X5_failAt at hF
  refine lv_aload_n hx hb dX5_failAt_0 rfl (lv_at hl 0 rfl) ?_
  refine lv_iload_n hx hb dX5_failAt_1 rfl (lv_at hl 1 rfl) ?_
  obtain ⟨w1, ew1, hF⟩ := lt_some hF
  refine pf_X5_34 G hI h0 dX5_failAt_2 (fun H locs hI => ?_)
  replace hI : Iv n sh D cA ad A s.heap w1 H locs := by rw [ew1]; exact hI
  exact n_vret G hI hF rfl dX5_failAt_5
set_option maxHeartbeats 4000000 in
theorem l_X5_readNumber_11 {p : Program} {e : Env} {s : State} {m : MethodId} {args : Array Value} {below : List Frame} {meth : Method} {c : Code} (G : Mx n D cA ad A sa p s m args meth c RX5 cX5_readNumber 5 (some .int)) {a1 : Int32} {a2 : Int32} (h0 : isX5 n sh 41) {k : Int32 → Mem → Option (Int32 × Mem)} {r : Int32} {w' : Mem}
    (hk : ∀ (v3 : Int32) (w : Mem) (H : Heap) (locs : List Loc) (ls : Array Slot), k v3 w = some (r, w') → Iv n sh D cA ad A s.heap w H locs → lv_has ls 5 [(0, .ref (ad 41)), (1, .int a1), (2, .int a2), (3, .int v3)] → W p l e ({ frames := 2, cells := 0, slots := 0, locals := 40 } : Room) s m args below meth c H locs 0 0 (QM n sh D cA ad A below args s (some (.int r)) w') (F0 m 72 ls [])) :
    ∀ (N : Nat) (v3 : Int32) (w : Mem) (H : Heap) (locs : List Loc) (ls : Array Slot), L_X5_readNumber_11 a1 a2 k N v3 w = some (r, w') → Iv n sh D cA ad A s.heap w H locs → lv_has ls 5 [(0, .ref (ad 41)), (1, .int a1), (2, .int a2), (3, .int v3)] → W p l e ({ frames := 2, cells := 0, slots := 0, locals := 40 } : Room) s m args below meth c H locs 0 0 (QM n sh D cA ad A below args s (some (.int r)) w') (F0 m 11 ls []) := by
  obtain ⟨hx, hb, -, -, hown, hg, -, -, -, -, hA⟩ := id G
  intro N
  induction N with
  | zero =>
    intro v3 w H locs ls hF hI hl
    cases hF
  | succ N ih =>
    intro v3 w H locs ls hF hI hl
    rw [L_X5_readNumber_11] at hF
    refine lv_aload_n hx hb dX5_readNumber_11 rfl (lv_at hl 0 rfl) ?_
    refine gf_X5_31 G hI h0 dX5_readNumber_12 ?_
    refine lv_aload_n hx hb dX5_readNumber_15 rfl (lv_at hl 0 rfl) ?_
    refine gf_X5_24 G hI h0 dX5_readNumber_16 ?_
    refine lv_icmp_ge (tgt := 72) hx hb dX5_readNumber_19 (by decide) (fun c18 => ?_) (fun c18 => ?_)
    · replace hF := itp c18 hF
      exact hk _ _ _ _ _ hF hI (lv_sub hl [0, 1, 2, 3] rfl)
    · replace hF := itn c18 hF
      refine lv_aload_n hx hb dX5_readNumber_22 rfl (lv_at hl 0 rfl) ?_
      obtain ⟨r5, w4, z6, hF⟩ := bd_some hF
      refine n_Vi (rest := []) G hI (c_X5_byteHere hA h0 z6) my_X5_byteHere kl_X5_44 (isX5.lt h0) (isX5.sh h0) rfl ⟨Nat.le_of_ble_eq_true rfl, Nat.le_of_ble_eq_true rfl⟩ rfl hl.1 rfl (Nat.le_of_ble_eq_true rfl) dX5_readNumber_23 (fun H locs hI => ?_)
      refine lv_bipush (v := (48 : Int32)) hx hb dX5_readNumber_26 (by decide) ?_
      refine lv_bipush (v := (57 : Int32)) hx hb dX5_readNumber_28 (by decide) ?_
      obtain ⟨r8, w7, z9, hF⟩ := bd_some hF
      refine n_SNi (rest := []) (host := "DriveTicks") G hI (c_X6_within hA  z9) my_X6_within (by decide) ⟨Nat.le_of_ble_eq_true rfl, Nat.le_of_ble_eq_true rfl⟩ rfl hl.1 rfl (Nat.le_of_ble_eq_true rfl) dX5_readNumber_30 (fun H locs hI => ?_)
      refine lv_if_eq (tgt := 72) hx hb dX5_readNumber_33 (by decide) (fun c17 => ?_) (fun c17 => ?_)
      · replace hF := itp c17 hF
        exact hk _ _ _ _ _ hF hI (lv_sub hl [0, 1, 2, 3] rfl)
      · replace hF := itn c17 hF
        refine lv_aload_n hx hb dX5_readNumber_36 rfl (lv_at hl 0 rfl) ?_
        refine gf_X5_31 G hI h0 dX5_readNumber_37 ?_
        refine lv_iload_n hx hb dX5_readNumber_40 rfl (lv_at hl 2 rfl) ?_
        refine lv_isub hx hb dX5_readNumber_41 ?_
        refine lv_iconst (v := (3 : Int32)) hx hb dX5_readNumber_42 (by decide) ?_
        refine lv_icmp_ge (tgt := 59) hx hb dX5_readNumber_43 (by decide) (fun c16 => ?_) (fun c16 => ?_)
        · replace hF := itp c16 hF
          refine lv_aload_n hx hb dX5_readNumber_59 rfl (lv_at hl 0 rfl) ?_
          refine lv_dup hx hb dX5_readNumber_60 rfl ?_
          refine gf_X5_31 G hI h0 dX5_readNumber_61 ?_
          refine lv_iconst (v := (1 : Int32)) hx hb dX5_readNumber_64 (by decide) ?_
          refine lv_iadd hx hb dX5_readNumber_65 ?_
          obtain ⟨w10, ew10, hF⟩ := lt_some hF
          refine pf_X5_31 G hI h0 dX5_readNumber_66 (fun H locs hI => ?_)
          replace hI : Iv n sh D cA ad A s.heap w10 H locs := by rw [ew10]; exact hI
          refine lv_goto (tgt := 11) hx hb dX5_readNumber_69 (by decide) ?_
          exact ih _ _ _ _ _ hF hI (lv_sub hl [0, 1, 2, 3] rfl)
        · replace hF := itn c16 hF
          refine lv_iload_n hx hb dX5_readNumber_46 rfl (lv_at hl 3 rfl) ?_
          refine lv_bipush (v := (10 : Int32)) hx hb dX5_readNumber_47 (by decide) ?_
          refine lv_imul hx hb dX5_readNumber_49 ?_
          refine lv_aload_n hx hb dX5_readNumber_50 rfl (lv_at hl 0 rfl) ?_
          obtain ⟨r12, w11, z13, hF⟩ := bd_some hF
          refine n_Vi (rest := [.int (v3 * (10 : Int32))]) G hI (c_X5_byteHere hA h0 z13) my_X5_byteHere kl_X5_44 (isX5.lt h0) (isX5.sh h0) rfl ⟨Nat.le_of_ble_eq_true rfl, Nat.le_of_ble_eq_true rfl⟩ rfl hl.1 rfl (Nat.le_of_ble_eq_true rfl) dX5_readNumber_51 (fun H locs hI => ?_)
          refine lv_iadd hx hb dX5_readNumber_54 ?_
          refine lv_bipush (v := (48 : Int32)) hx hb dX5_readNumber_55 (by decide) ?_
          refine lv_isub hx hb dX5_readNumber_57 ?_
          obtain ⟨x14, ex14, hF⟩ := lt_some hF
          refine W.eq (g2 := F0 m 58 ls [.int x14]) (by rw [ex14]) ?_
          refine lv_istore_n (lv' := [(3, .int x14), (0, .ref (ad 41)), (1, .int a1), (2, .int a2)]) hx hb dX5_readNumber_58 rfl hl (by decide) rfl (fun ls hl => ?_)
          refine lv_aload_n hx hb dX5_readNumber_59 rfl (lv_at hl 1 rfl) ?_
          refine lv_dup hx hb dX5_readNumber_60 rfl ?_
          refine gf_X5_31 G hI h0 dX5_readNumber_61 ?_
          refine lv_iconst (v := (1 : Int32)) hx hb dX5_readNumber_64 (by decide) ?_
          refine lv_iadd hx hb dX5_readNumber_65 ?_
          obtain ⟨w15, ew15, hF⟩ := lt_some hF
          refine pf_X5_31 G hI h0 dX5_readNumber_66 (fun H locs hI => ?_)
          replace hI : Iv n sh D cA ad A s.heap w15 H locs := by rw [ew15]; exact hI
          refine lv_goto (tgt := 11) hx hb dX5_readNumber_69 (by decide) ?_
          exact ih _ _ _ _ _ hF hI (lv_sub hl [1, 2, 3, 0] rfl)
set_option maxHeartbeats 4000000 in
theorem c_X5_readNumber (hA : AdOk n ad A) (h0 : isX5 n sh 41) {a1 : Int32} {w w' : Mem} {r : Int32} (hF : F_X5_readNumber a1 w = some (r, w')) : Ctr l n sh D cA ad A sa yX5_readNumber cX5_readNumber 5 (some .int) 2 40 [.ref (ad 41), .int a1] w (some (.int r)) w' := by
  refine m_enter hA (by decide) (Nat.le_of_ble_eq_true rfl) ?_
  intro p e s m args below meth c ls G hI hl
  replace hl : lv_has ls 5 [(0, .ref (ad 41)), (1, .int a1)] := hl
  replace G : Mx n D cA ad A sa p s m args meth c RX5 cX5_readNumber 5 (some .int) := G
  obtain ⟨hx, hb, -, -, hown, hg, -⟩ := id G
  unfold F_X5_readNumber at hF
  refine lv_aload_n hx hb dX5_readNumber_0 rfl (lv_at hl 0 rfl) ?_
  obtain ⟨r2, w1, z3, hF⟩ := bd_some hF
  refine n_Vv (rest := []) G hI (c_X5_skipBlanks hA h0 z3) my_X5_skipBlanks kl_X5_37 (isX5.lt h0) (isX5.sh h0) rfl ⟨Nat.le_of_ble_eq_true rfl, Nat.le_of_ble_eq_true rfl⟩ rfl hl.1 rfl (Nat.le_of_ble_eq_true rfl) dX5_readNumber_1 (fun H locs hI => ?_)
  refine lv_aload_n hx hb dX5_readNumber_4 rfl (lv_at hl 0 rfl) ?_
  refine gf_X5_31 G hI h0 dX5_readNumber_5 ?_
  refine lv_istore_n (lv' := [(2, .int (w1 41 3)), (0, .ref (ad 41)), (1, .int a1)]) hx hb dX5_readNumber_8 rfl hl (by decide) rfl (fun ls hl => ?_)
  refine lv_iconst (v := (0 : Int32)) hx hb dX5_readNumber_9 (by decide) ?_
  refine lv_istore_n (lv' := [(3, .int (0 : Int32)), (2, .int (w1 41 3)), (0, .ref (ad 41)), (1, .int a1)]) hx hb dX5_readNumber_10 rfl hl (by decide) rfl (fun ls hl => ?_)
  refine l_X5_readNumber_11 G h0 (fun x20 w19 H locs ls hF hI hl => ?_) _ _ _ _ _ _ hF hI (lv_sub hl [2, 3, 1, 0] rfl)
  refine lv_aload_n hx hb dX5_readNumber_72 rfl (lv_at hl 0 rfl) ?_
  refine gf_X5_31 G hI h0 dX5_readNumber_73 ?_
  refine lv_iload_n hx hb dX5_readNumber_76 rfl (lv_at hl 2 rfl) ?_
  refine lv_isub hx hb dX5_readNumber_77 ?_
  refine lv_istore (lv' := [(4, .int ((w19 41 3) - (w1 41 3))), (0, .ref (ad 41)), (1, .int a1), (2, .int (w1 41 3)), (3, .int x20)]) hx hb dX5_readNumber_78 hl (by decide) rfl (fun ls hl => ?_)
  refine lv_iload hx hb dX5_readNumber_80 (lv_at hl 0 rfl) ?_
  obtain ⟨k21, ek21, hF⟩ := jn_some hF
  have hJ21 : ∀  (H : Heap) (locs : List Loc) (ls : Array Slot), k21  = some (r, w') → Iv n sh D cA ad A s.heap w19 H locs → lv_has ls 5 [(0, .ref (ad 41)), (2, .int (w1 41 3))] → W p l e ({ frames := 2, cells := 0, slots := 0, locals := 40 } : Room) s m args below meth c H locs 0 0 (QM n sh D cA ad A below args s (some (.int r)) w') (F0 m 96 ls []) := by
    intro  H locs ls hF hI hl
    replace hF := ek21.symm.trans hF
    refine lv_aload_n hx hb dX5_readNumber_96 rfl (lv_at hl 0 rfl) ?_
    refine lv_iload_n hx hb dX5_readNumber_97 rfl (lv_at hl 1 rfl) ?_
    obtain ⟨r23, w22, z24, hF⟩ := bd_some hF
    refine n_Vv (rest := []) G hI (c_X5_failAt hA h0 z24) my_X5_failAt kl_X5_55 (isX5.lt h0) (isX5.sh h0) rfl ⟨Nat.le_of_ble_eq_true rfl, Nat.le_of_ble_eq_true rfl⟩ rfl hl.1 rfl (Nat.le_of_ble_eq_true rfl) dX5_readNumber_98 (fun H locs hI => ?_)
    refine lv_iconst (v := (0 : Int32)) hx hb dX5_readNumber_101 (by decide) ?_
    exact n_iret G hI hF rfl dX5_readNumber_102
  refine lv_if_eq (tgt := 96) hx hb dX5_readNumber_82 (by decide) (fun c27 => ?_) (fun c27 => ?_)
  · replace hF := itp c27 hF
    exact hJ21  _ _ _ hF hI (lv_sub hl [1, 3] rfl)
  · replace hF := itn c27 hF
    refine lv_iload hx hb dX5_readNumber_85 (lv_at hl 0 rfl) ?_
    refine lv_iconst (v := (3 : Int32)) hx hb dX5_readNumber_87 (by decide) ?_
    refine lv_icmp_gt (tgt := 96) hx hb dX5_readNumber_88 (by decide) (fun c26 => ?_) (fun c26 => ?_)
    · replace hF := itp c26 hF
      exact hJ21  _ _ _ hF hI (lv_sub hl [1, 3] rfl)
    · replace hF := itn c26 hF
      refine lv_iload_n hx hb dX5_readNumber_91 rfl (lv_at hl 4 rfl) ?_
      refine lv_iload_n hx hb dX5_readNumber_92 rfl (lv_at hl 2 rfl) ?_
      refine lv_icmp_le (tgt := 103) hx hb dX5_readNumber_93 (by decide) (fun c25 => ?_) (fun c25 => ?_)
      · replace hF := itp c25 hF
        refine lv_iload_n hx hb dX5_readNumber_103 rfl (lv_at hl 4 rfl) ?_
        exact n_iret G hI hF rfl dX5_readNumber_104
      · replace hF := itn c25 hF
        exact hJ21  _ _ _ hF hI (lv_sub hl [1, 3] rfl)
set_option maxHeartbeats 4000000 in
theorem c_X5_readWant (hA : AdOk n ad A) (h0 : isX5 n sh 41) {w w' : Mem} {r : Int32} (hF : F_X5_readWant  w = some (r, w')) : Ctr l n sh D cA ad A sa yX5_readWant cX5_readWant 3 (some .int) 3 64 [.ref (ad 41)] w (some (.int r)) w' := by
  refine m_enter hA (by decide) (Nat.le_of_ble_eq_true rfl) ?_
  intro p e s m args below meth c ls G hI hl
  replace hl : lv_has ls 3 [(0, .ref (ad 41))] := hl
  replace G : Mx n D cA ad A sa p s m args meth c RX5 cX5_readWant 3 (some .int) := G
  obtain ⟨hx, hb, -, -, hown, hg, -⟩ := id G
  unfold F_X5_readWant at hF
  refine lv_aload_n hx hb dX5_readWant_0 rfl (lv_at hl 0 rfl) ?_
  obtain ⟨r2, w1, z3, hF⟩ := bd_some hF
  refine n_Vv (rest := []) G hI (c_X5_skipBlanks hA h0 z3) my_X5_skipBlanks kl_X5_37 (isX5.lt h0) (isX5.sh h0) rfl ⟨Nat.le_of_ble_eq_true rfl, Nat.le_of_ble_eq_true rfl⟩ rfl hl.1 rfl (Nat.le_of_ble_eq_true rfl) dX5_readWant_1 (fun H locs hI => ?_)
  refine lv_aload_n hx hb dX5_readWant_4 rfl (lv_at hl 0 rfl) ?_
  obtain ⟨r5, w4, z6, hF⟩ := bd_some hF
  refine n_Vi (rest := []) G hI (c_X5_byteHere hA h0 z6) my_X5_byteHere kl_X5_44 (isX5.lt h0) (isX5.sh h0) rfl ⟨Nat.le_of_ble_eq_true rfl, Nat.le_of_ble_eq_true rfl⟩ rfl hl.1 rfl (Nat.le_of_ble_eq_true rfl) dX5_readWant_5 (fun H locs hI => ?_)
  refine lv_istore_n (lv' := [(1, .int r5), (0, .ref (ad 41))]) hx hb dX5_readWant_8 rfl hl (by decide) rfl (fun ls hl => ?_)
  refine lv_iload_n hx hb dX5_readWant_9 rfl (lv_at hl 0 rfl) ?_
  refine lv_bipush (v := (43 : Int32)) hx hb dX5_readWant_10 (by decide) ?_
  obtain ⟨k7, ek7, hF⟩ := jn_some hF
  have hJ7 : ∀  (H : Heap) (locs : List Loc) (ls : Array Slot), k7  = some (r, w') → Iv n sh D cA ad A s.heap w4 H locs → lv_has ls 3 [(0, .ref (ad 41)), (1, .int r5)] → W p l e ({ frames := 3, cells := 0, slots := 0, locals := 64 } : Room) s m args below meth c H locs 0 0 (QM n sh D cA ad A below args s (some (.int r)) w') (F0 m 23 ls []) := by
    intro  H locs ls hF hI hl
    replace hF := ek7.symm.trans hF
    refine lv_aload_n hx hb dX5_readWant_23 rfl (lv_at hl 0 rfl) ?_
    refine lv_dup hx hb dX5_readWant_24 rfl ?_
    refine gf_X5_31 G hI h0 dX5_readWant_25 ?_
    refine lv_iconst (v := (1 : Int32)) hx hb dX5_readWant_28 (by decide) ?_
    refine lv_iadd hx hb dX5_readWant_29 ?_
    obtain ⟨w8, ew8, hF⟩ := lt_some hF
    refine pf_X5_31 G hI h0 dX5_readWant_30 (fun H locs hI => ?_)
    replace hI : Iv n sh D cA ad A s.heap w8 H locs := by rw [ew8]; exact hI
    refine lv_aload_n hx hb dX5_readWant_33 rfl (lv_at hl 0 rfl) ?_
    refine lv_sipush (v := (500 : Int32)) hx hb dX5_readWant_34 (by decide) ?_
    obtain ⟨r10, w9, z11, hF⟩ := bd_some hF
    refine n_Vi (rest := []) G hI (c_X5_readNumber hA h0 z11) my_X5_readNumber kl_X5_73 (isX5.lt h0) (isX5.sh h0) rfl ⟨Nat.le_of_ble_eq_true rfl, Nat.le_of_ble_eq_true rfl⟩ rfl hl.1 rfl (Nat.le_of_ble_eq_true rfl) dX5_readWant_37 (fun H locs hI => ?_)
    refine lv_istore_n (lv' := [(2, .int r10), (0, .ref (ad 41)), (1, .int r5)]) hx hb dX5_readWant_40 rfl hl (by decide) rfl (fun ls hl => ?_)
    refine lv_iload_n hx hb dX5_readWant_41 rfl (lv_at hl 2 rfl) ?_
    refine lv_bipush (v := (45 : Int32)) hx hb dX5_readWant_42 (by decide) ?_
    refine lv_icmp_ne (tgt := 52) hx hb dX5_readWant_44 (by decide) (fun c12 => ?_) (fun c12 => ?_)
    · replace hF := itn c12 hF
      refine lv_iload_n hx hb dX5_readWant_52 rfl (lv_at hl 0 rfl) ?_
      exact n_iret G hI hF rfl dX5_readWant_53
    · replace hF := itp c12 hF
      refine lv_iload_n hx hb dX5_readWant_47 rfl (lv_at hl 0 rfl) ?_
      refine lv_ineg hx hb dX5_readWant_48 ?_
      refine lv_goto (tgt := 53) hx hb dX5_readWant_49 (by decide) ?_
      exact n_iret G hI hF rfl dX5_readWant_53
  refine lv_icmp_eq (tgt := 23) hx hb dX5_readWant_12 (by decide) (fun c14 => ?_) (fun c14 => ?_)
  · replace hF := itp c14 hF
    exact hJ7  _ _ _ hF hI (lv_sub hl [1, 0] rfl)
  · replace hF := itn c14 hF
    refine lv_iload_n hx hb dX5_readWant_15 rfl (lv_at hl 0 rfl) ?_
    refine lv_bipush (v := (45 : Int32)) hx hb dX5_readWant_16 (by decide) ?_
    refine lv_icmp_eq (tgt := 23) hx hb dX5_readWant_18 (by decide) (fun c13 => ?_) (fun c13 => ?_)
    · replace hF := itp c13 hF
      exact hJ7  _ _ _ hF hI (lv_sub hl [1, 0] rfl)
    · replace hF := itn c13 hF
      refine lv_iconst (v := (0 : Int32)) hx hb dX5_readWant_21 (by decide) ?_
      exact n_iret G hI hF rfl dX5_readWant_22
set_option maxHeartbeats 4000000 in
theorem c_X5_readPeriod (hA : AdOk n ad A) (h0 : isX5 n sh 41) {a1 : Int32} {w w' : Mem} {r : Int32} (hF : F_X5_readPeriod a1 w = some (r, w')) : Ctr l n sh D cA ad A sa yX5_readPeriod cX5_readPeriod 2 (some .int) 3 64 [.ref (ad 41), .int a1] w (some (.int r)) w' := by
  refine m_enter hA (by decide) (Nat.le_of_ble_eq_true rfl) ?_
  intro p e s m args below meth c ls G hI hl
  replace hl : lv_has ls 2 [(0, .ref (ad 41)), (1, .int a1)] := hl
  replace G : Mx n D cA ad A sa p s m args meth c RX5 cX5_readPeriod 2 (some .int) := G
  obtain ⟨hx, hb, -, -, hown, hg, -⟩ := id G
  unfold F_X5_readPeriod at hF
  refine lv_aload_n hx hb dX5_readPeriod_0 rfl (lv_at hl 0 rfl) ?_
  obtain ⟨r2, w1, z3, hF⟩ := bd_some hF
  refine n_Vv (rest := []) G hI (c_X5_skipBlanks hA h0 z3) my_X5_skipBlanks kl_X5_37 (isX5.lt h0) (isX5.sh h0) rfl ⟨Nat.le_of_ble_eq_true rfl, Nat.le_of_ble_eq_true rfl⟩ rfl hl.1 rfl (Nat.le_of_ble_eq_true rfl) dX5_readPeriod_1 (fun H locs hI => ?_)
  refine lv_aload_n hx hb dX5_readPeriod_4 rfl (lv_at hl 0 rfl) ?_
  obtain ⟨r5, w4, z6, hF⟩ := bd_some hF
  refine n_Vi (rest := []) G hI (c_X5_byteHere hA h0 z6) my_X5_byteHere kl_X5_44 (isX5.lt h0) (isX5.sh h0) rfl ⟨Nat.le_of_ble_eq_true rfl, Nat.le_of_ble_eq_true rfl⟩ rfl hl.1 rfl (Nat.le_of_ble_eq_true rfl) dX5_readPeriod_5 (fun H locs hI => ?_)
  refine lv_bipush (v := (64 : Int32)) hx hb dX5_readPeriod_8 (by decide) ?_
  refine lv_icmp_eq (tgt := 15) hx hb dX5_readPeriod_10 (by decide) (fun c11 => ?_) (fun c11 => ?_)
  · replace hF := itp c11 hF
    refine lv_aload_n hx hb dX5_readPeriod_15 rfl (lv_at hl 0 rfl) ?_
    refine lv_dup hx hb dX5_readPeriod_16 rfl ?_
    refine gf_X5_31 G hI h0 dX5_readPeriod_17 ?_
    refine lv_iconst (v := (1 : Int32)) hx hb dX5_readPeriod_20 (by decide) ?_
    refine lv_iadd hx hb dX5_readPeriod_21 ?_
    obtain ⟨w7, ew7, hF⟩ := lt_some hF
    refine pf_X5_31 G hI h0 dX5_readPeriod_22 (fun H locs hI => ?_)
    replace hI : Iv n sh D cA ad A s.heap w7 H locs := by rw [ew7]; exact hI
    refine lv_aload_n hx hb dX5_readPeriod_25 rfl (lv_at hl 0 rfl) ?_
    refine lv_sipush (v := (999 : Int32)) hx hb dX5_readPeriod_26 (by decide) ?_
    obtain ⟨r9, w8, z10, hF⟩ := bd_some hF
    refine n_Vi (rest := []) G hI (c_X5_readNumber hA h0 z10) my_X5_readNumber kl_X5_73 (isX5.lt h0) (isX5.sh h0) rfl ⟨Nat.le_of_ble_eq_true rfl, Nat.le_of_ble_eq_true rfl⟩ rfl hl.1 rfl (Nat.le_of_ble_eq_true rfl) dX5_readPeriod_29 (fun H locs hI => ?_)
    exact n_iret G hI hF rfl dX5_readPeriod_32
  · replace hF := itn c11 hF
    refine lv_iload_n hx hb dX5_readPeriod_13 rfl (lv_at hl 1 rfl) ?_
    exact n_iret G hI hF rfl dX5_readPeriod_14
set_option maxHeartbeats 4000000 in
theorem c_X5_readEnd (hA : AdOk n ad A) (h0 : isX5 n sh 41) {w w' : Mem} {r : Int32} (hF : F_X5_readEnd  w = some (r, w')) : Ctr l n sh D cA ad A sa yX5_readEnd cX5_readEnd 1 (some .boolean) 2 40 [.ref (ad 41)] w (some (.int r)) w' := by
  refine m_enter hA (by decide) (Nat.le_of_ble_eq_true rfl) ?_
  intro p e s m args below meth c ls G hI hl
  replace hl : lv_has ls 1 [(0, .ref (ad 41))] := hl
  replace G : Mx n D cA ad A sa p s m args meth c RX5 cX5_readEnd 1 (some .boolean) := G
  obtain ⟨hx, hb, -, -, hown, hg, -⟩ := id G
  unfold F_X5_readEnd at hF
  refine lv_aload_n hx hb dX5_readEnd_0 rfl (lv_at hl 0 rfl) ?_
  obtain ⟨r2, w1, z3, hF⟩ := bd_some hF
  refine n_Vv (rest := []) G hI (c_X5_skipBlanks hA h0 z3) my_X5_skipBlanks kl_X5_37 (isX5.lt h0) (isX5.sh h0) rfl ⟨Nat.le_of_ble_eq_true rfl, Nat.le_of_ble_eq_true rfl⟩ rfl hl.1 rfl (Nat.le_of_ble_eq_true rfl) dX5_readEnd_1 (fun H locs hI => ?_)
  refine lv_aload_n hx hb dX5_readEnd_4 rfl (lv_at hl 0 rfl) ?_
  obtain ⟨r5, w4, z6, hF⟩ := bd_some hF
  refine n_Vi (rest := []) G hI (c_X5_byteHere hA h0 z6) my_X5_byteHere kl_X5_44 (isX5.lt h0) (isX5.sh h0) rfl ⟨Nat.le_of_ble_eq_true rfl, Nat.le_of_ble_eq_true rfl⟩ rfl hl.1 rfl (Nat.le_of_ble_eq_true rfl) dX5_readEnd_5 (fun H locs hI => ?_)
  refine lv_bipush (v := (59 : Int32)) hx hb dX5_readEnd_8 (by decide) ?_
  refine lv_icmp_eq (tgt := 23) hx hb dX5_readEnd_10 (by decide) (fun c11 => ?_) (fun c11 => ?_)
  · replace hF := itp c11 hF
    refine lv_aload_n hx hb dX5_readEnd_23 rfl (lv_at hl 0 rfl) ?_
    refine lv_dup hx hb dX5_readEnd_24 rfl ?_
    refine gf_X5_31 G hI h0 dX5_readEnd_25 ?_
    refine lv_iconst (v := (1 : Int32)) hx hb dX5_readEnd_28 (by decide) ?_
    refine lv_iadd hx hb dX5_readEnd_29 ?_
    obtain ⟨w7, ew7, hF⟩ := lt_some hF
    refine pf_X5_31 G hI h0 dX5_readEnd_30 (fun H locs hI => ?_)
    replace hI : Iv n sh D cA ad A s.heap w7 H locs := by rw [ew7]; exact hI
    refine lv_iconst (v := (1 : Int32)) hx hb dX5_readEnd_33 (by decide) ?_
    exact n_zret G hI (by decide) hF rfl dX5_readEnd_34
  · replace hF := itn c11 hF
    refine lv_aload_n hx hb dX5_readEnd_13 rfl (lv_at hl 0 rfl) ?_
    refine lv_aload_n hx hb dX5_readEnd_14 rfl (lv_at hl 0 rfl) ?_
    refine gf_X5_31 G hI h0 dX5_readEnd_15 ?_
    obtain ⟨r9, w8, z10, hF⟩ := bd_some hF
    refine n_Vv (rest := []) G hI (c_X5_failAt hA h0 z10) my_X5_failAt kl_X5_55 (isX5.lt h0) (isX5.sh h0) rfl ⟨Nat.le_of_ble_eq_true rfl, Nat.le_of_ble_eq_true rfl⟩ rfl hl.1 rfl (Nat.le_of_ble_eq_true rfl) dX5_readEnd_18 (fun H locs hI => ?_)
    refine lv_iconst (v := (0 : Int32)) hx hb dX5_readEnd_21 (by decide) ?_
    exact n_zret G hI (by decide) hF rfl dX5_readEnd_22
set_option maxHeartbeats 4000000 in
theorem c_X5_readWish (hA : AdOk n ad A) (h0 : isX5 n sh 41) {a1 : Int32} {a2 : Int32} {w w' : Mem} {r : Unit} (hF : F_X5_readWish a1 a2 w = some (r, w')) : Ctr l n sh D cA ad A sa yX5_readWish cX5_readWish 6 none 4 86 [.ref (ad 41), .int a1, .int a2] w none w' := by
  refine m_enter hA (by decide) (Nat.le_of_ble_eq_true rfl) ?_
  intro p e s m args below meth c ls G hI hl
  replace hl : lv_has ls 6 [(0, .ref (ad 41)), (1, .int a1), (2, .int a2)] := hl
  replace G : Mx n D cA ad A sa p s m args meth c RX5 cX5_readWish 6 none := G
  obtain ⟨hx, hb, -, -, hown, hg, -⟩ := id G
  unfold F_X5_readWish at hF
  refine lv_aload_n hx hb dX5_readWish_0 rfl (lv_at hl 0 rfl) ?_
  obtain ⟨r2, w1, z3, hF⟩ := bd_some hF
  refine n_Vi (rest := []) G hI (c_X5_byteHere hA h0 z3) my_X5_byteHere kl_X5_44 (isX5.lt h0) (isX5.sh h0) rfl ⟨Nat.le_of_ble_eq_true rfl, Nat.le_of_ble_eq_true rfl⟩ rfl hl.1 rfl (Nat.le_of_ble_eq_true rfl) dX5_readWish_1 (fun H locs hI => ?_)
  refine lv_bipush (v := (117 : Int32)) hx hb dX5_readWish_4 (by decide) ?_
  refine lv_isub hx hb dX5_readWish_6 ?_
  refine lv_istore_n (lv' := [(3, .int (r2 - (117 : Int32))), (0, .ref (ad 41)), (1, .int a1), (2, .int a2)]) hx hb dX5_readWish_7 rfl hl (by decide) rfl (fun ls hl => ?_)
  refine lv_iload_n hx hb dX5_readWish_8 rfl (lv_at hl 0 rfl) ?_
  obtain ⟨r5, w4, z6, hF⟩ := bd_some hF
  refine n_SNi (rest := []) (host := "DriveTicks") G hI (c_X6_isLeg hA  z6) my_X6_isLeg (by decide) ⟨Nat.le_of_ble_eq_true rfl, Nat.le_of_ble_eq_true rfl⟩ rfl hl.1 rfl (Nat.le_of_ble_eq_true rfl) dX5_readWish_9 (fun H locs hI => ?_)
  obtain ⟨k7, ek7, hF⟩ := jn_some hF
  have hJ7 : ∀  (H : Heap) (locs : List Loc) (ls : Array Slot), k7  = some (r, w') → Iv n sh D cA ad A s.heap w4 H locs → lv_has ls 6 [(0, .ref (ad 41))] → W p l e ({ frames := 4, cells := 0, slots := 0, locals := 86 } : Room) s m args below meth c H locs 0 0 (QM n sh D cA ad A below args s none w') (F0 m 26 ls []) := by
    intro  H locs ls hF hI hl
    replace hF := ek7.symm.trans hF
    refine lv_aload_n hx hb dX5_readWish_26 rfl (lv_at hl 0 rfl) ?_
    refine lv_aload_n hx hb dX5_readWish_27 rfl (lv_at hl 0 rfl) ?_
    refine gf_X5_31 G hI h0 dX5_readWish_28 ?_
    obtain ⟨r9, w8, z10, hF⟩ := bd_some hF
    refine n_Vv (rest := []) G hI (c_X5_failAt hA h0 z10) my_X5_failAt kl_X5_55 (isX5.lt h0) (isX5.sh h0) rfl ⟨Nat.le_of_ble_eq_true rfl, Nat.le_of_ble_eq_true rfl⟩ rfl hl.1 rfl (Nat.le_of_ble_eq_true rfl) dX5_readWish_31 (fun H locs hI => ?_)
    exact n_vret G hI hF rfl dX5_readWish_34
  refine lv_if_eq (tgt := 26) hx hb dX5_readWish_12 (by decide) (fun c31 => ?_) (fun c31 => ?_)
  · replace hF := itp c31 hF
    exact hJ7  _ _ _ hF hI (lv_sub hl [1] rfl)
  · replace hF := itn c31 hF
    refine lv_aload_n hx hb dX5_readWish_15 rfl (lv_at hl 1 rfl) ?_
    refine gf_X5_20 G hI h0 dX5_readWish_16 ?_
    refine gf_X5_52 G hI (isX5.wishes h0) dX5_readWish_19 ?_
    refine lv_iload_n hx hb dX5_readWish_22 rfl (lv_at hl 2 rfl) ?_
    refine lv_icmp_lt (tgt := 35) hx hb dX5_readWish_23 (by decide) (fun c30 => ?_) (fun c30 => ?_)
    · replace hF := itp c30 hF
      refine lv_aload_n hx hb dX5_readWish_35 rfl (lv_at hl 1 rfl) ?_
      refine lv_dup hx hb dX5_readWish_36 rfl ?_
      refine gf_X5_31 G hI h0 dX5_readWish_37 ?_
      refine lv_iconst (v := (1 : Int32)) hx hb dX5_readWish_40 (by decide) ?_
      refine lv_iadd hx hb dX5_readWish_41 ?_
      obtain ⟨w11, ew11, hF⟩ := lt_some hF
      refine pf_X5_31 G hI h0 dX5_readWish_42 (fun H locs hI => ?_)
      replace hI : Iv n sh D cA ad A s.heap w11 H locs := by rw [ew11]; exact hI
      refine lv_aload_n hx hb dX5_readWish_45 rfl (lv_at hl 1 rfl) ?_
      obtain ⟨r13, w12, z14, hF⟩ := bd_some hF
      refine n_Vi (rest := []) G hI (c_X5_readWant hA h0 z14) my_X5_readWant kl_X5_58 (isX5.lt h0) (isX5.sh h0) rfl ⟨Nat.le_of_ble_eq_true rfl, Nat.le_of_ble_eq_true rfl⟩ rfl hl.1 rfl (Nat.le_of_ble_eq_true rfl) dX5_readWish_46 (fun H locs hI => ?_)
      refine lv_istore (lv' := [(4, .int r13), (3, .int (r2 - (117 : Int32))), (0, .ref (ad 41)), (1, .int a1), (2, .int a2)]) hx hb dX5_readWish_49 hl (by decide) rfl (fun ls hl => ?_)
      refine lv_aload_n hx hb dX5_readWish_51 rfl (lv_at hl 2 rfl) ?_
      refine gf_X5_34 G hI h0 dX5_readWish_52 ?_
      refine lv_iconst (v := (-1 : Int32)) hx hb dX5_readWish_55 (by decide) ?_
      obtain ⟨k15, ek15, hF⟩ := jn_some hF
      have hJ15 : ∀ (x16 : Int32) (w17 : Mem) (H : Heap) (locs : List Loc) (ls : Array Slot), k15 x16 w17 = some (r, w') → Iv n sh D cA ad A s.heap w17 H locs → lv_has ls 6 [(0, .ref (ad 41)), (3, .int (r2 - (117 : Int32))), (4, .int r13)] → W p l e ({ frames := 4, cells := 0, slots := 0, locals := 86 } : Room) s m args below meth c H locs 0 0 (QM n sh D cA ad A below args s none w') (F0 m 68 ls [.int x16]) := by
        intro x16 w17 H locs ls hF hI hl
        replace hF := (congrFun (congrFun ek15 x16) w17).symm.trans hF
        refine lv_istore (lv' := [(5, .int x16), (0, .ref (ad 41)), (3, .int (r2 - (117 : Int32))), (4, .int r13)]) hx hb dX5_readWish_68 hl (by decide) rfl (fun ls hl => ?_)
        refine lv_aload_n hx hb dX5_readWish_70 rfl (lv_at hl 1 rfl) ?_
        refine gf_X5_34 G hI h0 dX5_readWish_71 ?_
        refine lv_iconst (v := (-1 : Int32)) hx hb dX5_readWish_74 (by decide) ?_
        refine lv_icmp_ne (tgt := 98) hx hb dX5_readWish_75 (by decide) (fun c25 => ?_) (fun c25 => ?_)
        · replace hF := itn c25 hF
          exact n_vret G hI hF rfl dX5_readWish_98
        · replace hF := itp c25 hF
          refine lv_aload_n hx hb dX5_readWish_78 rfl (lv_at hl 1 rfl) ?_
          obtain ⟨r19, w18, z20, hF⟩ := bd_some hF
          refine n_Vi (rest := []) G hI (c_X5_readEnd hA h0 z20) my_X5_readEnd kl_X5_65 (isX5.lt h0) (isX5.sh h0) rfl ⟨Nat.le_of_ble_eq_true rfl, Nat.le_of_ble_eq_true rfl⟩ rfl hl.1 rfl (Nat.le_of_ble_eq_true rfl) dX5_readWish_79 (fun H locs hI => ?_)
          refine lv_if_eq (tgt := 98) hx hb dX5_readWish_82 (by decide) (fun c24 => ?_) (fun c24 => ?_)
          · replace hF := itp c24 hF
            exact n_vret G hI hF rfl dX5_readWish_98
          · replace hF := itn c24 hF
            refine lv_aload_n hx hb dX5_readWish_85 rfl (lv_at hl 1 rfl) ?_
            refine gf_X5_20 G hI h0 dX5_readWish_86 ?_
            refine lv_iload_n hx hb dX5_readWish_89 rfl (lv_at hl 2 rfl) ?_
            refine lv_iload hx hb dX5_readWish_90 (lv_at hl 0 rfl) ?_
            refine lv_iload hx hb dX5_readWish_92 (lv_at hl 3 rfl) ?_
            refine lv_iconst (v := (0 : Int32)) hx hb dX5_readWish_94 (by decide) ?_
            obtain ⟨r22, w21, z23, hF⟩ := bd_some hF
            refine n_Vv (rest := []) G hI (c_X4_add hA (isX5.wishes h0) z23) my_X4_add kl_X5_69 (isX4.lt (isX5.wishes h0)) (isX4.sh (isX5.wishes h0)) rfl ⟨Nat.le_of_ble_eq_true rfl, Nat.le_of_ble_eq_true rfl⟩ rfl hl.1 rfl (Nat.le_of_ble_eq_true rfl) dX5_readWish_95 (fun H locs hI => ?_)
            exact n_vret G hI hF rfl dX5_readWish_98
      refine lv_icmp_ne (tgt := 67) hx hb dX5_readWish_56 (by decide) (fun c29 => ?_) (fun c29 => ?_)
      · replace hF := itn c29 hF
        refine lv_iconst (v := (0 : Int32)) hx hb dX5_readWish_67 (by decide) ?_
        exact hJ15 _ _ _ _ _ hF hI (lv_sub hl [2, 1, 0] rfl)
      · replace hF := itp c29 hF
        refine lv_aload_n hx hb dX5_readWish_59 rfl (lv_at hl 2 rfl) ?_
        refine lv_iload_n hx hb dX5_readWish_60 rfl (lv_at hl 4 rfl) ?_
        obtain ⟨r27, w26, z28, hF⟩ := bd_some hF
        refine n_Vi (rest := []) G hI (c_X5_readPeriod hA h0 z28) my_X5_readPeriod kl_X5_61 (isX5.lt h0) (isX5.sh h0) rfl ⟨Nat.le_of_ble_eq_true rfl, Nat.le_of_ble_eq_true rfl⟩ rfl hl.1 rfl (Nat.le_of_ble_eq_true rfl) dX5_readWish_61 (fun H locs hI => ?_)
        refine lv_goto (tgt := 68) hx hb dX5_readWish_64 (by decide) ?_
        exact hJ15 _ _ _ _ _ hF hI (lv_sub hl [2, 1, 0] rfl)
    · replace hF := itn c30 hF
      exact hJ7  _ _ _ hF hI (lv_sub hl [1] rfl)
end WK4
