/-! walks, by program (wip/gen/walk.py): X0_stepOnce, X0_dropWishesOf, X0_isSettled, X1_isWanted, X1_tickBehindBy, X1_isOn, X1_givesOne, X1_neitherTicks, X1_timesUpperComesOn, X1_leastDeadWithoutUpper, X1_listEvent, X1_listEvents, X2_nextChange, X2_patternAt -/
section WK2
variable {n : Nat} {sh : Nat → Shp} {D : va_G} {cA : ClassId} {ad : Nat → Nat} {A : Nat → Prop} {sa : Nat → Nat} {l : Launch}
set_option maxHeartbeats 4000000 in
theorem c_X0_stepOnce (hA : AdOk n ad A) {q0 : Nat} (h0 : isX0 n sh q0) {w w' : Mem} {r : Int32} (hF : F_X0_stepOnce q0 w = some (r, w')) : Ctr l n sh D cA ad A sa yX0_stepOnce cX0_stepOnce 1 (some .boolean) 5 114 [.ref (ad q0)] w (some (.int r)) w' := by
  refine m_enter hA (by decide) (Nat.le_of_ble_eq_true rfl) ?_
  intro p e s m args below meth c ls G hI hl
  replace hl : lv_has ls 1 [(0, .ref (ad q0))] := hl
  replace G : Mx n D cA ad A sa p s m args meth c RX0 cX0_stepOnce 1 (some .boolean) := G
  obtain ⟨hx, hb, -, -, hown, hg, -⟩ := id G
  unfold F_X0_stepOnce at hF
  refine lv_aload_n hx hb dX0_stepOnce_0 rfl (lv_at hl 0 rfl) ?_
  obtain ⟨r2, w1, z3, hF⟩ := bd_some hF
  refine n_Vv (rest := []) G hI (c_X0_takeWishesThatHaveCome hA h0 z3) my_X0_takeWishesThatHaveCome kl_X0_70 (isX0.lt h0) (isX0.sh h0) rfl ⟨Nat.le_of_ble_eq_true rfl, Nat.le_of_ble_eq_true rfl⟩ rfl hl.1 rfl (Nat.le_of_ble_eq_true rfl) dX0_stepOnce_1 (fun H locs hI => ?_)
  refine lv_aload_n hx hb dX0_stepOnce_4 rfl (lv_at hl 0 rfl) ?_
  refine gf_X0_9 G hI h0 dX0_stepOnce_5 ?_
  refine lv_bipush (v := (6 : Int32)) hx hb dX0_stepOnce_8 (by decide) ?_
  refine n_ald G hI (isX0.setting h0) (by decide) dX0_stepOnce_10 ?_
  refine W.eq (g2 := F0 m 11 ls [.int (w1 (q0 + 1) 6)]) rfl ?_
  refine lv_iconst (v := (1 : Int32)) hx hb dX0_stepOnce_11 (by decide) ?_
  obtain ⟨k4, ek4, hF⟩ := jn_some hF
  have hJ4 : ∀ (w5 : Mem) (H : Heap) (locs : List Loc) (ls : Array Slot), k4  w5 = some (r, w') → Iv n sh D cA ad A s.heap w5 H locs → lv_has ls 1 [(0, .ref (ad q0))] → W p l e ({ frames := 5, cells := 0, slots := 0, locals := 114 } : Room) s m args below meth c H locs 0 0 (QM n sh D cA ad A below args s (some (.int r)) w') (F0 m 19 ls []) := by
    intro  w5 H locs ls hF hI hl
    replace hF := (congrFun ek4 w5).symm.trans hF
    refine lv_aload_n hx hb dX0_stepOnce_19 rfl (lv_at hl 0 rfl) ?_
    obtain ⟨r7, w6, z8, hF⟩ := bd_some hF
    refine n_Vv (rest := []) G hI (c_X0_makePlan hA h0 z8) my_X0_makePlan kl_X0_76 (isX0.lt h0) (isX0.sh h0) rfl ⟨Nat.le_of_ble_eq_true rfl, Nat.le_of_ble_eq_true rfl⟩ rfl hl.1 rfl (Nat.le_of_ble_eq_true rfl) dX0_stepOnce_20 (fun H locs hI => ?_)
    refine lv_aload_n hx hb dX0_stepOnce_23 rfl (lv_at hl 0 rfl) ?_
    obtain ⟨r10, w9, z11, hF⟩ := bd_some hF
    refine n_Vv (rest := []) G hI (c_X0_moveCurrents hA h0 z11) my_X0_moveCurrents kl_X0_79 (isX0.lt h0) (isX0.sh h0) rfl ⟨Nat.le_of_ble_eq_true rfl, Nat.le_of_ble_eq_true rfl⟩ rfl hl.1 rfl (Nat.le_of_ble_eq_true rfl) dX0_stepOnce_24 (fun H locs hI => ?_)
    refine lv_aload_n hx hb dX0_stepOnce_27 rfl (lv_at hl 0 rfl) ?_
    refine lv_dup hx hb dX0_stepOnce_28 rfl ?_
    refine gf_X0_58 G hI h0 dX0_stepOnce_29 ?_
    refine lv_iconst (v := (1 : Int32)) hx hb dX0_stepOnce_32 (by decide) ?_
    refine lv_iadd hx hb dX0_stepOnce_33 ?_
    obtain ⟨w12, ew12, hF⟩ := lt_some hF
    refine pf_X0_58 G hI h0 dX0_stepOnce_34 (fun H locs hI => ?_)
    replace hI : Iv n sh D cA ad A s.heap w12 H locs := by rw [ew12]; exact hI
    refine lv_aload_n hx hb dX0_stepOnce_37 rfl (lv_at hl 0 rfl) ?_
    refine gf_X0_39 G hI h0 dX0_stepOnce_38 ?_
    refine gf_X0_82 G hI (isX0.plan h0) dX0_stepOnce_41 ?_
    obtain ⟨g13, hF⟩ := gd_some hF
    exact n_zret G hI g13 hF rfl dX0_stepOnce_44
  refine lv_icmp_ne (tgt := 19) hx hb dX0_stepOnce_12 (by decide) (fun c17 => ?_) (fun c17 => ?_)
  · replace hF := itn c17 hF
    exact hJ4 _ _ _ _ hF hI (lv_sub hl [0] rfl)
  · replace hF := itp c17 hF
    refine lv_aload_n hx hb dX0_stepOnce_15 rfl (lv_at hl 0 rfl) ?_
    obtain ⟨r15, w14, z16, hF⟩ := bd_some hF
    refine n_Vv (rest := []) G hI (c_X0_steer hA h0 z16) my_X0_steer kl_X0_73 (isX0.lt h0) (isX0.sh h0) rfl ⟨Nat.le_of_ble_eq_true rfl, Nat.le_of_ble_eq_true rfl⟩ rfl hl.1 rfl (Nat.le_of_ble_eq_true rfl) dX0_stepOnce_16 (fun H locs hI => ?_)
    exact hJ4 _ _ _ _ hF hI (lv_sub hl [0] rfl)
set_option maxHeartbeats 4000000 in
theorem l_X0_dropWishesOf_13 {p : Program} {e : Env} {s : State} {m : MethodId} {args : Array Value} {below : List Frame} {meth : Method} {c : Code} (G : Mx n D cA ad A sa p s m args meth c RX0 cX0_dropWishesOf 5 (some .int)) {q0 : Nat} {a1 : Int32} {a3 : Int32} (h0 : isX0 n sh q0) {k : Int32 → Mem → Option (Int32 × Mem)} {r : Int32} {w' : Mem}
    (hk : ∀ (v2 : Int32) (w : Mem) (H : Heap) (locs : List Loc) (ls : Array Slot), k v2 w = some (r, w') → Iv n sh D cA ad A s.heap w H locs → lv_has ls 5 [(0, .ref (ad q0)), (2, .int v2), (3, .int a3)] → W p l e ({ frames := 3, cells := 0, slots := 0, locals := 64 } : Room) s m args below meth c H locs 0 0 (QM n sh D cA ad A below args s (some (.int r)) w') (F0 m 53 ls [])) :
    ∀ (N : Nat) (v2 : Int32) (v4 : Int32) (w : Mem) (H : Heap) (locs : List Loc) (ls : Array Slot), L_X0_dropWishesOf_13 q0 a1 a3 k N v2 v4 w = some (r, w') → Iv n sh D cA ad A s.heap w H locs → lv_has ls 5 [(0, .ref (ad q0)), (1, .int a1), (2, .int v2), (3, .int a3), (4, .int v4)] → W p l e ({ frames := 3, cells := 0, slots := 0, locals := 64 } : Room) s m args below meth c H locs 0 0 (QM n sh D cA ad A below args s (some (.int r)) w') (F0 m 13 ls []) := by
  obtain ⟨hx, hb, -, -, hown, hg, -, -, -, -, hA⟩ := id G
  intro N
  induction N with
  | zero =>
    intro v2 v4 w H locs ls hF hI hl
    cases hF
  | succ N ih =>
    intro v2 v4 w H locs ls hF hI hl
    rw [L_X0_dropWishesOf_13] at hF
    refine lv_iload hx hb dX0_dropWishesOf_13 (lv_at hl 4 rfl) ?_
    refine lv_iload_n hx hb dX0_dropWishesOf_15 rfl (lv_at hl 3 rfl) ?_
    refine lv_icmp_ge (tgt := 53) hx hb dX0_dropWishesOf_16 (by decide) (fun c8 => ?_) (fun c8 => ?_)
    · replace hF := itp c8 hF
      exact hk _ _ _ _ _ hF hI (lv_sub hl [0, 2, 3] rfl)
    · replace hF := itn c8 hF
      refine lv_aload_n hx hb dX0_dropWishesOf_19 rfl (lv_at hl 0 rfl) ?_
      refine gf_X0_32 G hI h0 dX0_dropWishesOf_20 ?_
      refine lv_iconst (v := (-1 : Int32)) hx hb dX0_dropWishesOf_23 (by decide) ?_
      refine lv_iload hx hb dX0_dropWishesOf_24 (lv_at hl 4 rfl) ?_
      refine lv_iconst (v := (0 : Int32)) hx hb dX0_dropWishesOf_26 (by decide) ?_
      obtain ⟨r2, w1, z3, hF⟩ := bd_some hF
      refine n_Vi (rest := []) G hI (c_X4_cellOr hA (isX0.wishes h0) z3) my_X4_cellOr kl_X0_89 (isX4.lt (isX0.wishes h0)) (isX4.sh (isX0.wishes h0)) rfl ⟨Nat.le_of_ble_eq_true rfl, Nat.le_of_ble_eq_true rfl⟩ rfl hl.1 rfl (Nat.le_of_ble_eq_true rfl) dX0_dropWishesOf_27 (fun H locs hI => ?_)
      refine lv_iload_n hx hb dX0_dropWishesOf_30 rfl (lv_at hl 1 rfl) ?_
      refine lv_icmp_eq (tgt := 47) hx hb dX0_dropWishesOf_31 (by decide) (fun c7 => ?_) (fun c7 => ?_)
      · replace hF := itp c7 hF
        refine lv_iinc (v := (v4 + (1 : Int32))) (lv' := [(4, .int (v4 + (1 : Int32))), (0, .ref (ad q0)), (1, .int a1), (2, .int v2), (3, .int a3)]) hx hb dX0_dropWishesOf_47 hl (k := 4) rfl rfl (by decide) rfl (fun ls hl => ?_)
        refine lv_goto (tgt := 13) hx hb dX0_dropWishesOf_50 (by decide) ?_
        exact ih _ _ _ _ _ _ hF hI (lv_sub hl [1, 2, 3, 4, 0] rfl)
      · replace hF := itn c7 hF
        refine lv_aload_n hx hb dX0_dropWishesOf_34 rfl (lv_at hl 0 rfl) ?_
        refine gf_X0_32 G hI h0 dX0_dropWishesOf_35 ?_
        refine lv_iload hx hb dX0_dropWishesOf_38 (lv_at hl 4 rfl) ?_
        refine lv_iload_n hx hb dX0_dropWishesOf_40 rfl (lv_at hl 2 rfl) ?_
        obtain ⟨r5, w4, z6, hF⟩ := bd_some hF
        refine n_Vv (rest := []) G hI (c_X4_moveRow hA (isX0.wishes h0) z6) my_X4_moveRow kl_X0_93 (isX4.lt (isX0.wishes h0)) (isX4.sh (isX0.wishes h0)) rfl ⟨Nat.le_of_ble_eq_true rfl, Nat.le_of_ble_eq_true rfl⟩ rfl hl.1 rfl (Nat.le_of_ble_eq_true rfl) dX0_dropWishesOf_41 (fun H locs hI => ?_)
        refine lv_iinc (v := (v2 + (1 : Int32))) (lv' := [(2, .int (v2 + (1 : Int32))), (0, .ref (ad q0)), (1, .int a1), (3, .int a3), (4, .int v4)]) hx hb dX0_dropWishesOf_44 hl (k := 2) rfl rfl (by decide) rfl (fun ls hl => ?_)
        refine lv_iinc (v := (v4 + (1 : Int32))) (lv' := [(4, .int (v4 + (1 : Int32))), (2, .int (v2 + (1 : Int32))), (0, .ref (ad q0)), (1, .int a1), (3, .int a3)]) hx hb dX0_dropWishesOf_47 hl (k := 4) rfl rfl (by decide) rfl (fun ls hl => ?_)
        refine lv_goto (tgt := 13) hx hb dX0_dropWishesOf_50 (by decide) ?_
        exact ih _ _ _ _ _ _ hF hI (lv_sub hl [2, 3, 1, 4, 0] rfl)
set_option maxHeartbeats 4000000 in
theorem c_X0_dropWishesOf (hA : AdOk n ad A) {q0 : Nat} (h0 : isX0 n sh q0) {a1 : Int32} {w w' : Mem} {r : Int32} (hF : F_X0_dropWishesOf q0 a1 w = some (r, w')) : Ctr l n sh D cA ad A sa yX0_dropWishesOf cX0_dropWishesOf 5 (some .int) 3 64 [.ref (ad q0), .int a1] w (some (.int r)) w' := by
  refine m_enter hA (by decide) (Nat.le_of_ble_eq_true rfl) ?_
  intro p e s m args below meth c ls G hI hl
  replace hl : lv_has ls 5 [(0, .ref (ad q0)), (1, .int a1)] := hl
  replace G : Mx n D cA ad A sa p s m args meth c RX0 cX0_dropWishesOf 5 (some .int) := G
  obtain ⟨hx, hb, -, -, hown, hg, -⟩ := id G
  unfold F_X0_dropWishesOf at hF
  refine lv_iconst (v := (0 : Int32)) hx hb dX0_dropWishesOf_0 (by decide) ?_
  refine lv_istore_n (lv' := [(2, .int (0 : Int32)), (0, .ref (ad q0)), (1, .int a1)]) hx hb dX0_dropWishesOf_1 rfl hl (by decide) rfl (fun ls hl => ?_)
  refine lv_aload_n hx hb dX0_dropWishesOf_2 rfl (lv_at hl 1 rfl) ?_
  refine gf_X0_32 G hI h0 dX0_dropWishesOf_3 ?_
  refine gf_X0_86 G hI (isX0.wishes h0) dX0_dropWishesOf_6 ?_
  refine lv_istore_n (lv' := [(3, .int (w (q0 + 6) 2)), (2, .int (0 : Int32)), (0, .ref (ad q0)), (1, .int a1)]) hx hb dX0_dropWishesOf_9 rfl hl (by decide) rfl (fun ls hl => ?_)
  refine lv_iconst (v := (0 : Int32)) hx hb dX0_dropWishesOf_10 (by decide) ?_
  refine lv_istore (lv' := [(4, .int (0 : Int32)), (3, .int (w (q0 + 6) 2)), (2, .int (0 : Int32)), (0, .ref (ad q0)), (1, .int a1)]) hx hb dX0_dropWishesOf_11 hl (by decide) rfl (fun ls hl => ?_)
  refine l_X0_dropWishesOf_13 G h0 (fun x10 w9 H locs ls hF hI hl => ?_) _ _ _ _ _ _ _ hF hI (lv_sub hl [3, 4, 2, 1, 0] rfl)
  refine lv_aload_n hx hb dX0_dropWishesOf_53 rfl (lv_at hl 0 rfl) ?_
  refine gf_X0_32 G hI h0 dX0_dropWishesOf_54 ?_
  refine lv_iload_n hx hb dX0_dropWishesOf_57 rfl (lv_at hl 1 rfl) ?_
  obtain ⟨r12, w11, z13, hF⟩ := bd_some hF
  refine n_Vv (rest := []) G hI (c_X4_cutTo hA (isX0.wishes h0) z13) my_X4_cutTo kl_X0_55 (isX4.lt (isX0.wishes h0)) (isX4.sh (isX0.wishes h0)) rfl ⟨Nat.le_of_ble_eq_true rfl, Nat.le_of_ble_eq_true rfl⟩ rfl hl.1 rfl (Nat.le_of_ble_eq_true rfl) dX0_dropWishesOf_58 (fun H locs hI => ?_)
  refine lv_iload_n hx hb dX0_dropWishesOf_61 rfl (lv_at hl 2 rfl) ?_
  refine lv_iload_n hx hb dX0_dropWishesOf_62 rfl (lv_at hl 1 rfl) ?_
  refine lv_isub hx hb dX0_dropWishesOf_63 ?_
  exact n_iret G hI hF rfl dX0_dropWishesOf_64
set_option maxHeartbeats 4000000 in
theorem l_X0_isSettled_2 {p : Program} {e : Env} {s : State} {m : MethodId} {args : Array Value} {below : List Frame} {meth : Method} {c : Code} (G : Mx n D cA ad A sa p s m args meth c RX0 cX0_isSettled 3 (some .boolean)) {q0 : Nat} {a1 : Int32} (h0 : isX0 n sh q0) {k : Mem → Option (Int32 × Mem)} {r : Int32} {w' : Mem}
    (hk : ∀  (w : Mem) (H : Heap) (locs : List Loc) (ls : Array Slot), k  w = some (r, w') → Iv n sh D cA ad A s.heap w H locs → lv_has ls 3 [(0, .ref (ad q0))] → W p l e ({ frames := 1, cells := 0, slots := 0, locals := 21 } : Room) s m args below meth c H locs 0 0 (QM n sh D cA ad A below args s (some (.int r)) w') (F0 m 35 ls [])) :
    ∀ (N : Nat) (v2 : Int32) (w : Mem) (H : Heap) (locs : List Loc) (ls : Array Slot), L_X0_isSettled_2 q0 a1 k N v2 w = some (r, w') → Iv n sh D cA ad A s.heap w H locs → lv_has ls 3 [(0, .ref (ad q0)), (1, .int a1), (2, .int v2)] → W p l e ({ frames := 1, cells := 0, slots := 0, locals := 21 } : Room) s m args below meth c H locs 0 0 (QM n sh D cA ad A below args s (some (.int r)) w') (F0 m 2 ls []) := by
  obtain ⟨hx, hb, -, -, hown, hg, -, -, -, -, hA⟩ := id G
  intro N
  induction N with
  | zero =>
    intro v2 w H locs ls hF hI hl
    cases hF
  | succ N ih =>
    intro v2 w H locs ls hF hI hl
    rw [L_X0_isSettled_2] at hF
    refine lv_iload_n hx hb dX0_isSettled_2 rfl (lv_at hl 2 rfl) ?_
    refine lv_iconst (v := (3 : Int32)) hx hb dX0_isSettled_3 (by decide) ?_
    refine lv_icmp_ge (tgt := 35) hx hb dX0_isSettled_4 (by decide) (fun c4 => ?_) (fun c4 => ?_)
    · replace hF := itp c4 hF
      exact hk _ _ _ _ hF hI (lv_sub hl [0] rfl)
    · replace hF := itn c4 hF
      refine lv_aload_n hx hb dX0_isSettled_7 rfl (lv_at hl 0 rfl) ?_
      refine gf_X0_18 G hI h0 dX0_isSettled_8 ?_
      refine lv_iload_n hx hb dX0_isSettled_11 rfl (lv_at hl 2 rfl) ?_
      obtain ⟨g1, hF⟩ := gd_some hF
      refine n_ald G hI (isX0.current h0) g1 dX0_isSettled_12 ?_
      refine lv_aload_n hx hb dX0_isSettled_13 rfl (lv_at hl 0 rfl) ?_
      refine gf_X0_21 G hI h0 dX0_isSettled_14 ?_
      refine lv_iload_n hx hb dX0_isSettled_17 rfl (lv_at hl 2 rfl) ?_
      obtain ⟨g2, hF⟩ := gd_some hF
      refine n_ald G hI (isX0.want h0) g2 dX0_isSettled_18 ?_
      refine lv_isub hx hb dX0_isSettled_19 ?_
      refine n_abs G kl_X0_118 (Nat.le_of_ble_eq_true rfl) (Nat.le_of_ble_eq_true rfl) hl.1 dX0_isSettled_20 ?_
      refine lv_iload_n hx hb dX0_isSettled_23 rfl (lv_at hl 1 rfl) ?_
      refine lv_icmp_le (tgt := 29) hx hb dX0_isSettled_24 (by decide) (fun c3 => ?_) (fun c3 => ?_)
      · replace hF := itp c3 hF
        refine lv_iinc (v := (v2 + (1 : Int32))) (lv' := [(2, .int (v2 + (1 : Int32))), (0, .ref (ad q0)), (1, .int a1)]) hx hb dX0_isSettled_29 hl (k := 2) rfl rfl (by decide) rfl (fun ls hl => ?_)
        refine lv_goto (tgt := 2) hx hb dX0_isSettled_32 (by decide) ?_
        exact ih _ _ _ _ _ hF hI (lv_sub hl [1, 2, 0] rfl)
      · replace hF := itn c3 hF
        refine lv_iconst (v := (0 : Int32)) hx hb dX0_isSettled_27 (by decide) ?_
        exact n_zret G hI (by decide) hF rfl dX0_isSettled_28
set_option maxHeartbeats 4000000 in
theorem c_X0_isSettled (hA : AdOk n ad A) {q0 : Nat} (h0 : isX0 n sh q0) {a1 : Int32} {w w' : Mem} {r : Int32} (hF : F_X0_isSettled q0 a1 w = some (r, w')) : Ctr l n sh D cA ad A sa yX0_isSettled cX0_isSettled 3 (some .boolean) 1 21 [.ref (ad q0), .int a1] w (some (.int r)) w' := by
  refine m_enter hA (by decide) (Nat.le_of_ble_eq_true rfl) ?_
  intro p e s m args below meth c ls G hI hl
  replace hl : lv_has ls 3 [(0, .ref (ad q0)), (1, .int a1)] := hl
  replace G : Mx n D cA ad A sa p s m args meth c RX0 cX0_isSettled 3 (some .boolean) := G
  obtain ⟨hx, hb, -, -, hown, hg, -⟩ := id G
  unfold F_X0_isSettled at hF
  refine lv_iconst (v := (0 : Int32)) hx hb dX0_isSettled_0 (by decide) ?_
  refine lv_istore_n (lv' := [(2, .int (0 : Int32)), (0, .ref (ad q0)), (1, .int a1)]) hx hb dX0_isSettled_1 rfl hl (by decide) rfl (fun ls hl => ?_)
  refine l_X0_isSettled_2 G h0 (fun w5 H locs ls hF hI hl => ?_) _ _ _ _ _ _ hF hI (lv_sub hl [1, 2, 0] rfl)
  refine lv_aload_n hx hb dX0_isSettled_35 rfl (lv_at hl 0 rfl) ?_
  refine gf_X0_32 G hI h0 dX0_isSettled_36 ?_
  refine gf_X0_86 G hI (isX0.wishes h0) dX0_isSettled_39 ?_
  refine lv_if_ne (tgt := 49) hx hb dX0_isSettled_42 (by decide) (fun c6 => ?_) (fun c6 => ?_)
  · replace hF := itn c6 hF
    refine lv_iconst (v := (0 : Int32)) hx hb dX0_isSettled_49 (by decide) ?_
    exact n_zret G hI (by decide) hF rfl dX0_isSettled_50
  · replace hF := itp c6 hF
    refine lv_iconst (v := (1 : Int32)) hx hb dX0_isSettled_45 (by decide) ?_
    refine lv_goto (tgt := 50) hx hb dX0_isSettled_46 (by decide) ?_
    exact n_zret G hI (by decide) hF rfl dX0_isSettled_50
set_option maxHeartbeats 4000000 in
theorem c_X1_isWanted (hA : AdOk n ad A) {q0 : Nat} (h0 : isX1 n sh q0) {a1 : Int32} {a2 : Int32} {w w' : Mem} {r : Int32} (hF : F_X1_isWanted q0 a1 a2 w = some (r, w')) : Ctr l n sh D cA ad A sa yX1_isWanted cX1_isWanted 3 (some .boolean) 0 0 [.ref (ad q0), .int a1, .int a2] w (some (.int r)) w' := by
  refine m_enter hA (by decide) (Nat.le_of_ble_eq_true rfl) ?_
  intro p e s m args below meth c ls G hI hl
  replace hl : lv_has ls 3 [(0, .ref (ad q0)), (1, .int a1), (2, .int a2)] := hl
  replace G : Mx n D cA ad A sa p s m args meth c RX1 cX1_isWanted 3 (some .boolean) := G
  obtain ⟨hx, hb, -, -, hown, hg, -⟩ := id G
  unfold F_X1_isWanted at hF
  refine lv_iload_n hx hb dX1_isWanted_0 rfl (lv_at hl 2 rfl) ?_
  refine lv_aload_n hx hb dX1_isWanted_1 rfl (lv_at hl 0 rfl) ?_
  refine gf_X1_18 G hI h0 dX1_isWanted_2 ?_
  refine lv_iload_n hx hb dX1_isWanted_5 rfl (lv_at hl 1 rfl) ?_
  obtain ⟨g1, hF⟩ := gd_some hF
  refine n_ald G hI (isX1.start h0) g1 dX1_isWanted_6 ?_
  refine lv_icmp_lt (tgt := 31) hx hb dX1_isWanted_7 (by decide) (fun c5 => ?_) (fun c5 => ?_)
  · replace hF := itp c5 hF
    refine lv_iconst (v := (0 : Int32)) hx hb dX1_isWanted_31 (by decide) ?_
    exact n_zret G hI (by decide) hF rfl dX1_isWanted_32
  · replace hF := itn c5 hF
    refine lv_iload_n hx hb dX1_isWanted_10 rfl (lv_at hl 2 rfl) ?_
    refine lv_aload_n hx hb dX1_isWanted_11 rfl (lv_at hl 0 rfl) ?_
    refine gf_X1_18 G hI h0 dX1_isWanted_12 ?_
    refine lv_iload_n hx hb dX1_isWanted_15 rfl (lv_at hl 1 rfl) ?_
    obtain ⟨g2, hF⟩ := gd_some hF
    refine n_ald G hI (isX1.start h0) g2 dX1_isWanted_16 ?_
    refine lv_aload_n hx hb dX1_isWanted_17 rfl (lv_at hl 0 rfl) ?_
    refine gf_X1_15 G hI h0 dX1_isWanted_18 ?_
    refine lv_iload_n hx hb dX1_isWanted_21 rfl (lv_at hl 1 rfl) ?_
    obtain ⟨g3, hF⟩ := gd_some hF
    refine n_ald G hI (isX1.high h0) g3 dX1_isWanted_22 ?_
    refine lv_iadd hx hb dX1_isWanted_23 ?_
    refine lv_icmp_ge (tgt := 31) hx hb dX1_isWanted_24 (by decide) (fun c4 => ?_) (fun c4 => ?_)
    · replace hF := itp c4 hF
      refine lv_iconst (v := (0 : Int32)) hx hb dX1_isWanted_31 (by decide) ?_
      exact n_zret G hI (by decide) hF rfl dX1_isWanted_32
    · replace hF := itn c4 hF
      refine lv_iconst (v := (1 : Int32)) hx hb dX1_isWanted_27 (by decide) ?_
      refine lv_goto (tgt := 32) hx hb dX1_isWanted_28 (by decide) ?_
      exact n_zret G hI (by decide) hF rfl dX1_isWanted_32
set_option maxHeartbeats 4000000 in
theorem c_X1_tickBehindBy (hA : AdOk n ad A) {q0 : Nat} (h0 : isX1 n sh q0) {a1 : Int32} {a2 : Int32} {w w' : Mem} {r : Int32} (hF : F_X1_tickBehindBy q0 a1 a2 w = some (r, w')) : Ctr l n sh D cA ad A sa yX1_tickBehindBy cX1_tickBehindBy 3 (some .int) 0 0 [.ref (ad q0), .int a1, .int a2] w (some (.int r)) w' := by
  refine m_enter hA (by decide) (Nat.le_of_ble_eq_true rfl) ?_
  intro p e s m args below meth c ls G hI hl
  replace hl : lv_has ls 3 [(0, .ref (ad q0)), (1, .int a1), (2, .int a2)] := hl
  replace G : Mx n D cA ad A sa p s m args meth c RX1 cX1_tickBehindBy 3 (some .int) := G
  obtain ⟨hx, hb, -, -, hown, hg, -⟩ := id G
  unfold F_X1_tickBehindBy at hF
  refine lv_iload_n hx hb dX1_tickBehindBy_0 rfl (lv_at hl 2 rfl) ?_
  refine lv_iload_n hx hb dX1_tickBehindBy_1 rfl (lv_at hl 1 rfl) ?_
  refine lv_icmp_lt (tgt := 11) hx hb dX1_tickBehindBy_2 (by decide) (fun c1 => ?_) (fun c1 => ?_)
  · replace hF := itp c1 hF
    refine lv_iload_n hx hb dX1_tickBehindBy_11 rfl (lv_at hl 2 rfl) ?_
    refine lv_iload_n hx hb dX1_tickBehindBy_12 rfl (lv_at hl 1 rfl) ?_
    refine lv_isub hx hb dX1_tickBehindBy_13 ?_
    refine lv_aload_n hx hb dX1_tickBehindBy_14 rfl (lv_at hl 0 rfl) ?_
    refine gf_X1_24 G hI h0 dX1_tickBehindBy_15 ?_
    refine lv_iadd hx hb dX1_tickBehindBy_18 ?_
    exact n_iret G hI hF rfl dX1_tickBehindBy_19
  · replace hF := itn c1 hF
    refine lv_iload_n hx hb dX1_tickBehindBy_5 rfl (lv_at hl 2 rfl) ?_
    refine lv_iload_n hx hb dX1_tickBehindBy_6 rfl (lv_at hl 1 rfl) ?_
    refine lv_isub hx hb dX1_tickBehindBy_7 ?_
    refine lv_goto (tgt := 19) hx hb dX1_tickBehindBy_8 (by decide) ?_
    exact n_iret G hI hF rfl dX1_tickBehindBy_19
set_option maxHeartbeats 4000000 in
theorem l_X1_isOn_14 {p : Program} {e : Env} {s : State} {m : MethodId} {args : Array Value} {below : List Frame} {meth : Method} {c : Code} (G : Mx n D cA ad A sa p s m args meth c RX1 cX1_isOn 6 (some .boolean)) {q0 : Nat} {a1 : Int32} {a3 : Int32} {a4 : Int32} (h0 : isX1 n sh q0) {k : Mem → Option (Int32 × Mem)} {r : Int32} {w' : Mem}
    (hk : ∀  (w : Mem) (H : Heap) (locs : List Loc) (ls : Array Slot), k  w = some (r, w') → Iv n sh D cA ad A s.heap w H locs → lv_has ls 6 [] → W p l e ({ frames := 1, cells := 0, slots := 0, locals := 22 } : Room) s m args below meth c H locs 0 0 (QM n sh D cA ad A below args s (some (.int r)) w') (F0 m 48 ls [])) :
    ∀ (N : Nat) (v5 : Int32) (w : Mem) (H : Heap) (locs : List Loc) (ls : Array Slot), L_X1_isOn_14 q0 a1 a3 a4 k N v5 w = some (r, w') → Iv n sh D cA ad A s.heap w H locs → lv_has ls 6 [(0, .ref (ad q0)), (1, .int a1), (3, .int a3), (4, .int a4), (5, .int v5)] → W p l e ({ frames := 1, cells := 0, slots := 0, locals := 22 } : Room) s m args below meth c H locs 0 0 (QM n sh D cA ad A below args s (some (.int r)) w') (F0 m 14 ls []) := by
  obtain ⟨hx, hb, -, -, hown, hg, -, -, -, -, hA⟩ := id G
  intro N
  induction N with
  | zero =>
    intro v5 w H locs ls hF hI hl
    cases hF
  | succ N ih =>
    intro v5 w H locs ls hF hI hl
    rw [L_X1_isOn_14] at hF
    refine lv_iload hx hb dX1_isOn_14 (lv_at hl 4 rfl) ?_
    refine lv_aload_n hx hb dX1_isOn_16 rfl (lv_at hl 0 rfl) ?_
    refine gf_X1_28 G hI h0 dX1_isOn_17 ?_
    refine lv_icmp_gt (tgt := 48) hx hb dX1_isOn_20 (by decide) (fun c10 => ?_) (fun c10 => ?_)
    · replace hF := itp c10 hF
      exact hk _ _ _ _ hF hI (lv_sub hl [] rfl)
    · replace hF := itn c10 hF
      refine lv_aload_n hx hb dX1_isOn_23 rfl (lv_at hl 0 rfl) ?_
      refine lv_iload_n hx hb dX1_isOn_24 rfl (lv_at hl 1 rfl) ?_
      refine lv_aload_n hx hb dX1_isOn_25 rfl (lv_at hl 0 rfl) ?_
      refine lv_iload hx hb dX1_isOn_26 (lv_at hl 4 rfl) ?_
      refine lv_iload_n hx hb dX1_isOn_28 rfl (lv_at hl 2 rfl) ?_
      obtain ⟨r4, w3, z5, hF⟩ := bd_some hF
      refine n_Vi (rest := [.int a1, .ref (ad q0)]) G hI (c_X1_tickBehindBy hA h0 z5) my_X1_tickBehindBy kl_X1_60 (isX1.lt h0) (isX1.sh h0) rfl ⟨Nat.le_of_ble_eq_true rfl, Nat.le_of_ble_eq_true rfl⟩ rfl hl.1 rfl (Nat.le_of_ble_eq_true rfl) dX1_isOn_29 (fun H locs hI => ?_)
      obtain ⟨r7, w6, z8, hF⟩ := bd_some hF
      refine n_Vi (rest := []) G hI (c_X1_isWanted hA h0 z8) my_X1_isWanted kl_X1_63 (isX1.lt h0) (isX1.sh h0) rfl ⟨Nat.le_of_ble_eq_true rfl, Nat.le_of_ble_eq_true rfl⟩ rfl hl.1 rfl (Nat.le_of_ble_eq_true rfl) dX1_isOn_32 (fun H locs hI => ?_)
      refine lv_iload hx hb dX1_isOn_35 (lv_at hl 3 rfl) ?_
      refine lv_icmp_eq (tgt := 42) hx hb dX1_isOn_37 (by decide) (fun c9 => ?_) (fun c9 => ?_)
      · replace hF := itp c9 hF
        refine lv_iinc (v := (v5 + (1 : Int32))) (lv' := [(5, .int (v5 + (1 : Int32))), (0, .ref (ad q0)), (1, .int a1), (3, .int a3), (4, .int a4)]) hx hb dX1_isOn_42 hl (k := 4) rfl rfl (by decide) rfl (fun ls hl => ?_)
        refine lv_goto (tgt := 14) hx hb dX1_isOn_45 (by decide) ?_
        exact ih _ _ _ _ _ hF hI (lv_sub hl [1, 2, 3, 4, 0] rfl)
      · replace hF := itn c9 hF
        refine lv_iconst (v := (0 : Int32)) hx hb dX1_isOn_40 (by decide) ?_
        exact n_zret G hI (by decide) hF rfl dX1_isOn_41
set_option maxHeartbeats 4000000 in
theorem c_X1_isOn (hA : AdOk n ad A) {q0 : Nat} (h0 : isX1 n sh q0) {a1 : Int32} {a2 : Int32} {a3 : Int32} {w w' : Mem} {r : Int32} (hF : F_X1_isOn q0 a1 a2 a3 w = some (r, w')) : Ctr l n sh D cA ad A sa yX1_isOn cX1_isOn 6 (some .boolean) 1 22 [.ref (ad q0), .int a1, .int a2, .int a3] w (some (.int r)) w' := by
  refine m_enter hA (by decide) (Nat.le_of_ble_eq_true rfl) ?_
  intro p e s m args below meth c ls G hI hl
  replace hl : lv_has ls 6 [(0, .ref (ad q0)), (1, .int a1), (2, .int a2), (3, .int a3)] := hl
  replace G : Mx n D cA ad A sa p s m args meth c RX1 cX1_isOn 6 (some .boolean) := G
  obtain ⟨hx, hb, -, -, hown, hg, -⟩ := id G
  unfold F_X1_isOn at hF
  refine lv_iload_n hx hb dX1_isOn_0 rfl (lv_at hl 2 rfl) ?_
  obtain ⟨k1, ek1, hF⟩ := jn_some hF
  have hJ1 : ∀ (x2 : Int32) (H : Heap) (locs : List Loc) (ls : Array Slot), k1 x2 = some (r, w') → Iv n sh D cA ad A s.heap w H locs → lv_has ls 6 [(0, .ref (ad q0)), (1, .int a1), (3, .int a3)] → W p l e ({ frames := 1, cells := 0, slots := 0, locals := 22 } : Room) s m args below meth c H locs 0 0 (QM n sh D cA ad A below args s (some (.int r)) w') (F0 m 9 ls [.int x2]) := by
    intro x2 H locs ls hF hI hl
    replace hF := (congrFun ek1 x2).symm.trans hF
    refine lv_istore (lv' := [(4, .int x2), (0, .ref (ad q0)), (1, .int a1), (3, .int a3)]) hx hb dX1_isOn_9 hl (by decide) rfl (fun ls hl => ?_)
    refine lv_iconst (v := (0 : Int32)) hx hb dX1_isOn_11 (by decide) ?_
    refine lv_istore (lv' := [(5, .int (0 : Int32)), (4, .int x2), (0, .ref (ad q0)), (1, .int a1), (3, .int a3)]) hx hb dX1_isOn_12 hl (by decide) rfl (fun ls hl => ?_)
    refine l_X1_isOn_14 G h0 (fun w11 H locs ls hF hI hl => ?_) _ _ _ _ _ _ hF hI (lv_sub hl [2, 3, 4, 1, 0] rfl)
    refine lv_iconst (v := (1 : Int32)) hx hb dX1_isOn_48 (by decide) ?_
    exact n_zret G hI (by decide) hF rfl dX1_isOn_49
  refine lv_if_ne (tgt := 8) hx hb dX1_isOn_1 (by decide) (fun c12 => ?_) (fun c12 => ?_)
  · replace hF := itn c12 hF
    refine lv_iconst (v := (0 : Int32)) hx hb dX1_isOn_8 (by decide) ?_
    exact hJ1 _ _ _ _ hF hI (lv_sub hl [0, 1, 3] rfl)
  · replace hF := itp c12 hF
    refine lv_iconst (v := (1 : Int32)) hx hb dX1_isOn_4 (by decide) ?_
    refine lv_goto (tgt := 9) hx hb dX1_isOn_5 (by decide) ?_
    exact hJ1 _ _ _ _ hF hI (lv_sub hl [0, 1, 3] rfl)
set_option maxHeartbeats 4000000 in
theorem c_X1_givesOne (hA : AdOk n ad A) {q0 : Nat} (h0 : isX1 n sh q0) {a1 : Int32} {a2 : Int32} {w w' : Mem} {r : Int32} (hF : F_X1_givesOne q0 a1 a2 w = some (r, w')) : Ctr l n sh D cA ad A sa yX1_givesOne cX1_givesOne 3 (some .boolean) 2 47 [.ref (ad q0), .int a1, .int a2] w (some (.int r)) w' := by
  refine m_enter hA (by decide) (Nat.le_of_ble_eq_true rfl) ?_
  intro p e s m args below meth c ls G hI hl
  replace hl : lv_has ls 3 [(0, .ref (ad q0)), (1, .int a1), (2, .int a2)] := hl
  replace G : Mx n D cA ad A sa p s m args meth c RX1 cX1_givesOne 3 (some .boolean) := G
  obtain ⟨hx, hb, -, -, hown, hg, -⟩ := id G
  unfold F_X1_givesOne at hF
  refine lv_aload_n hx hb dX1_givesOne_0 rfl (lv_at hl 0 rfl) ?_
  refine lv_iload_n hx hb dX1_givesOne_1 rfl (lv_at hl 1 rfl) ?_
  refine lv_iconst (v := (0 : Int32)) hx hb dX1_givesOne_2 (by decide) ?_
  refine lv_iload_n hx hb dX1_givesOne_3 rfl (lv_at hl 2 rfl) ?_
  obtain ⟨r2, w1, z3, hF⟩ := bd_some hF
  refine n_Vi (rest := []) G hI (c_X1_isOn hA h0 z3) my_X1_isOn kl_X1_67 (isX1.lt h0) (isX1.sh h0) rfl ⟨Nat.le_of_ble_eq_true rfl, Nat.le_of_ble_eq_true rfl⟩ rfl hl.1 rfl (Nat.le_of_ble_eq_true rfl) dX1_givesOne_4 (fun H locs hI => ?_)
  refine lv_if_eq (tgt := 12) hx hb dX1_givesOne_7 (by decide) (fun c10 => ?_) (fun c10 => ?_)
  · replace hF := itp c10 hF
    refine lv_aload_n hx hb dX1_givesOne_12 rfl (lv_at hl 0 rfl) ?_
    refine lv_iload_n hx hb dX1_givesOne_13 rfl (lv_at hl 1 rfl) ?_
    refine lv_iconst (v := (1 : Int32)) hx hb dX1_givesOne_14 (by decide) ?_
    refine lv_iload_n hx hb dX1_givesOne_15 rfl (lv_at hl 2 rfl) ?_
    obtain ⟨r5, w4, z6, hF⟩ := bd_some hF
    refine n_Vi (rest := []) G hI (c_X1_isOn hA h0 z6) my_X1_isOn kl_X1_67 (isX1.lt h0) (isX1.sh h0) rfl ⟨Nat.le_of_ble_eq_true rfl, Nat.le_of_ble_eq_true rfl⟩ rfl hl.1 rfl (Nat.le_of_ble_eq_true rfl) dX1_givesOne_16 (fun H locs hI => ?_)
    refine lv_if_ne (tgt := 35) hx hb dX1_givesOne_19 (by decide) (fun c9 => ?_) (fun c9 => ?_)
    · replace hF := itn c9 hF
      refine lv_iconst (v := (0 : Int32)) hx hb dX1_givesOne_35 (by decide) ?_
      exact n_zret G hI (by decide) hF rfl dX1_givesOne_36
    · replace hF := itp c9 hF
      refine lv_aload_n hx hb dX1_givesOne_22 rfl (lv_at hl 0 rfl) ?_
      refine gf_X1_21 G hI h0 dX1_givesOne_23 ?_
      refine lv_iload_n hx hb dX1_givesOne_26 rfl (lv_at hl 1 rfl) ?_
      obtain ⟨g7, hF⟩ := gd_some hF
      refine n_ald G hI (isX1.current h0) g7 dX1_givesOne_27 ?_
      refine lv_if_ge (tgt := 35) hx hb dX1_givesOne_28 (by decide) (fun c8 => ?_) (fun c8 => ?_)
      · replace hF := itp c8 hF
        refine lv_iconst (v := (0 : Int32)) hx hb dX1_givesOne_35 (by decide) ?_
        exact n_zret G hI (by decide) hF rfl dX1_givesOne_36
      · replace hF := itn c8 hF
        refine lv_iconst (v := (1 : Int32)) hx hb dX1_givesOne_31 (by decide) ?_
        refine lv_goto (tgt := 36) hx hb dX1_givesOne_32 (by decide) ?_
        exact n_zret G hI (by decide) hF rfl dX1_givesOne_36
  · replace hF := itn c10 hF
    refine lv_iconst (v := (1 : Int32)) hx hb dX1_givesOne_10 (by decide) ?_
    exact n_zret G hI (by decide) hF rfl dX1_givesOne_11
set_option maxHeartbeats 4000000 in
theorem c_X1_neitherTicks (hA : AdOk n ad A) {q0 : Nat} (h0 : isX1 n sh q0) {a1 : Int32} {w w' : Mem} {r : Int32} (hF : F_X1_neitherTicks q0 a1 w = some (r, w')) : Ctr l n sh D cA ad A sa yX1_neitherTicks cX1_neitherTicks 2 (some .int) 3 64 [.ref (ad q0), .int a1] w (some (.int r)) w' := by
  refine m_enter hA (by decide) (Nat.le_of_ble_eq_true rfl) ?_
  intro p e s m args below meth c ls G hI hl
  replace hl : lv_has ls 2 [(0, .ref (ad q0)), (1, .int a1)] := hl
  replace G : Mx n D cA ad A sa p s m args meth c RX1 cX1_neitherTicks 2 (some .int) := G
  obtain ⟨hx, hb, -, -, hown, hg, -⟩ := id G
  unfold F_X1_neitherTicks at hF
  refine lv_aload_n hx hb dX1_neitherTicks_0 rfl (lv_at hl 0 rfl) ?_
  refine gf_X1_24 G hI h0 dX1_neitherTicks_1 ?_
  refine lv_aload_n hx hb dX1_neitherTicks_4 rfl (lv_at hl 0 rfl) ?_
  refine lv_iload_n hx hb dX1_neitherTicks_5 rfl (lv_at hl 1 rfl) ?_
  obtain ⟨r2, w1, z3, hF⟩ := bd_some hF
  refine n_Vi (rest := [.int (w q0 0)]) G hI (c_X1_upperTicks hA h0 z3) my_X1_upperTicks kl_X1_79 (isX1.lt h0) (isX1.sh h0) rfl ⟨Nat.le_of_ble_eq_true rfl, Nat.le_of_ble_eq_true rfl⟩ rfl hl.1 rfl (Nat.le_of_ble_eq_true rfl) dX1_neitherTicks_6 (fun H locs hI => ?_)
  refine lv_isub hx hb dX1_neitherTicks_9 ?_
  refine lv_aload_n hx hb dX1_neitherTicks_10 rfl (lv_at hl 0 rfl) ?_
  refine lv_iload_n hx hb dX1_neitherTicks_11 rfl (lv_at hl 1 rfl) ?_
  obtain ⟨r5, w4, z6, hF⟩ := bd_some hF
  refine n_Vi (rest := [.int ((w q0 0) - r2)]) G hI (c_X1_lowerTicks hA h0 z6) my_X1_lowerTicks kl_X1_82 (isX1.lt h0) (isX1.sh h0) rfl ⟨Nat.le_of_ble_eq_true rfl, Nat.le_of_ble_eq_true rfl⟩ rfl hl.1 rfl (Nat.le_of_ble_eq_true rfl) dX1_neitherTicks_12 (fun H locs hI => ?_)
  refine lv_isub hx hb dX1_neitherTicks_15 ?_
  exact n_iret G hI hF rfl dX1_neitherTicks_16
set_option maxHeartbeats 4000000 in
theorem c_X1_timesUpperComesOn (hA : AdOk n ad A) {q0 : Nat} (h0 : isX1 n sh q0) {a1 : Int32} {w w' : Mem} {r : Int32} (hF : F_X1_timesUpperComesOn q0 a1 w = some (r, w')) : Ctr l n sh D cA ad A sa yX1_timesUpperComesOn cX1_timesUpperComesOn 3 (some .int) 3 64 [.ref (ad q0), .int a1] w (some (.int r)) w' := by
  refine m_enter hA (by decide) (Nat.le_of_ble_eq_true rfl) ?_
  intro p e s m args below meth c ls G hI hl
  replace hl : lv_has ls 3 [(0, .ref (ad q0)), (1, .int a1)] := hl
  replace G : Mx n D cA ad A sa p s m args meth c RX1 cX1_timesUpperComesOn 3 (some .int) := G
  obtain ⟨hx, hb, -, -, hown, hg, -⟩ := id G
  unfold F_X1_timesUpperComesOn at hF
  refine lv_aload_n hx hb dX1_timesUpperComesOn_0 rfl (lv_at hl 0 rfl) ?_
  refine lv_iload_n hx hb dX1_timesUpperComesOn_1 rfl (lv_at hl 1 rfl) ?_
  obtain ⟨r2, w1, z3, hF⟩ := bd_some hF
  refine n_Vi (rest := []) G hI (c_X1_upperTicks hA h0 z3) my_X1_upperTicks kl_X1_79 (isX1.lt h0) (isX1.sh h0) rfl ⟨Nat.le_of_ble_eq_true rfl, Nat.le_of_ble_eq_true rfl⟩ rfl hl.1 rfl (Nat.le_of_ble_eq_true rfl) dX1_timesUpperComesOn_2 (fun H locs hI => ?_)
  refine lv_istore_n (lv' := [(2, .int r2), (0, .ref (ad q0)), (1, .int a1)]) hx hb dX1_timesUpperComesOn_5 rfl hl (by decide) rfl (fun ls hl => ?_)
  refine lv_iload_n hx hb dX1_timesUpperComesOn_6 rfl (lv_at hl 0 rfl) ?_
  refine lv_if_le (tgt := 22) hx hb dX1_timesUpperComesOn_7 (by decide) (fun c5 => ?_) (fun c5 => ?_)
  · replace hF := itp c5 hF
    refine lv_iconst (v := (0 : Int32)) hx hb dX1_timesUpperComesOn_22 (by decide) ?_
    exact n_iret G hI hF rfl dX1_timesUpperComesOn_23
  · replace hF := itn c5 hF
    refine lv_iload_n hx hb dX1_timesUpperComesOn_10 rfl (lv_at hl 0 rfl) ?_
    refine lv_aload_n hx hb dX1_timesUpperComesOn_11 rfl (lv_at hl 1 rfl) ?_
    refine gf_X1_24 G hI h0 dX1_timesUpperComesOn_12 ?_
    refine lv_icmp_ge (tgt := 22) hx hb dX1_timesUpperComesOn_15 (by decide) (fun c4 => ?_) (fun c4 => ?_)
    · replace hF := itp c4 hF
      refine lv_iconst (v := (0 : Int32)) hx hb dX1_timesUpperComesOn_22 (by decide) ?_
      exact n_iret G hI hF rfl dX1_timesUpperComesOn_23
    · replace hF := itn c4 hF
      refine lv_iconst (v := (1 : Int32)) hx hb dX1_timesUpperComesOn_18 (by decide) ?_
      refine lv_goto (tgt := 23) hx hb dX1_timesUpperComesOn_19 (by decide) ?_
      exact n_iret G hI hF rfl dX1_timesUpperComesOn_23
set_option maxHeartbeats 4000000 in
theorem l_X1_leastDeadWithoutUpper_4 {p : Program} {e : Env} {s : State} {m : MethodId} {args : Array Value} {below : List Frame} {meth : Method} {c : Code} (G : Mx n D cA ad A sa p s m args meth c RX1 cX1_leastDeadWithoutUpper 4 (some .int)) {q0 : Nat} {a1 : Int32} (h0 : isX1 n sh q0) {k : Int32 → Mem → Option (Int32 × Mem)} {r : Int32} {w' : Mem}
    (hk : ∀ (v2 : Int32) (w : Mem) (H : Heap) (locs : List Loc) (ls : Array Slot), k v2 w = some (r, w') → Iv n sh D cA ad A s.heap w H locs → lv_has ls 4 [(2, .int v2)] → W p l e ({ frames := 3, cells := 0, slots := 0, locals := 66 } : Room) s m args below meth c H locs 0 0 (QM n sh D cA ad A below args s (some (.int r)) w') (F0 m 30 ls [])) :
    ∀ (N : Nat) (v2 : Int32) (v3 : Int32) (w : Mem) (H : Heap) (locs : List Loc) (ls : Array Slot), L_X1_leastDeadWithoutUpper_4 q0 a1 k N v2 v3 w = some (r, w') → Iv n sh D cA ad A s.heap w H locs → lv_has ls 4 [(0, .ref (ad q0)), (1, .int a1), (2, .int v2), (3, .int v3)] → W p l e ({ frames := 3, cells := 0, slots := 0, locals := 66 } : Room) s m args below meth c H locs 0 0 (QM n sh D cA ad A below args s (some (.int r)) w') (F0 m 4 ls []) := by
  obtain ⟨hx, hb, -, -, hown, hg, -, -, -, -, hA⟩ := id G
  intro N
  induction N with
  | zero =>
    intro v2 v3 w H locs ls hF hI hl
    cases hF
  | succ N ih =>
    intro v2 v3 w H locs ls hF hI hl
    rw [L_X1_leastDeadWithoutUpper_4] at hF
    refine lv_iload_n hx hb dX1_leastDeadWithoutUpper_4 rfl (lv_at hl 3 rfl) ?_
    refine lv_if_lt (tgt := 30) hx hb dX1_leastDeadWithoutUpper_5 (by decide) (fun c8 => ?_) (fun c8 => ?_)
    · replace hF := itp c8 hF
      exact hk _ _ _ _ _ hF hI (lv_sub hl [2] rfl)
    · replace hF := itn c8 hF
      refine lv_aload_n hx hb dX1_leastDeadWithoutUpper_8 rfl (lv_at hl 0 rfl) ?_
      refine lv_aload_n hx hb dX1_leastDeadWithoutUpper_9 rfl (lv_at hl 0 rfl) ?_
      refine lv_iload_n hx hb dX1_leastDeadWithoutUpper_10 rfl (lv_at hl 1 rfl) ?_
      refine lv_iload_n hx hb dX1_leastDeadWithoutUpper_11 rfl (lv_at hl 3 rfl) ?_
      obtain ⟨r2, w1, z3, hF⟩ := bd_some hF
      refine n_Vi (rest := [.ref (ad q0)]) G hI (c_X1_highWithDead hA h0 z3) my_X1_highWithDead kl_X1_56 (isX1.lt h0) (isX1.sh h0) rfl ⟨Nat.le_of_ble_eq_true rfl, Nat.le_of_ble_eq_true rfl⟩ rfl hl.1 rfl (Nat.le_of_ble_eq_true rfl) dX1_leastDeadWithoutUpper_12 (fun H locs hI => ?_)
      refine lv_iload_n hx hb dX1_leastDeadWithoutUpper_15 rfl (lv_at hl 3 rfl) ?_
      obtain ⟨r5, w4, z6, hF⟩ := bd_some hF
      refine n_Vi (rest := []) G hI (c_X1_ticksOn hA h0 z6) my_X1_ticksOn kl_X1_76 (isX1.lt h0) (isX1.sh h0) rfl ⟨Nat.le_of_ble_eq_true rfl, Nat.le_of_ble_eq_true rfl⟩ rfl hl.1 rfl (Nat.le_of_ble_eq_true rfl) dX1_leastDeadWithoutUpper_16 (fun H locs hI => ?_)
      refine lv_if_ne (tgt := 30) hx hb dX1_leastDeadWithoutUpper_19 (by decide) (fun c7 => ?_) (fun c7 => ?_)
      · replace hF := itn c7 hF
        exact hk _ _ _ _ _ hF hI (lv_sub hl [2] rfl)
      · replace hF := itp c7 hF
        refine lv_iload_n hx hb dX1_leastDeadWithoutUpper_22 rfl (lv_at hl 3 rfl) ?_
        refine lv_istore_n (lv' := [(2, .int v3), (0, .ref (ad q0)), (1, .int a1), (3, .int v3)]) hx hb dX1_leastDeadWithoutUpper_23 rfl hl (by decide) rfl (fun ls hl => ?_)
        refine lv_iinc (v := (v3 + (-1 : Int32))) (lv' := [(3, .int (v3 + (-1 : Int32))), (2, .int v3), (0, .ref (ad q0)), (1, .int a1)]) hx hb dX1_leastDeadWithoutUpper_24 hl (k := 3) rfl rfl (by decide) rfl (fun ls hl => ?_)
        refine lv_goto (tgt := 4) hx hb dX1_leastDeadWithoutUpper_27 (by decide) ?_
        exact ih _ _ _ _ _ _ hF hI (lv_sub hl [2, 3, 1, 0] rfl)
set_option maxHeartbeats 4000000 in
theorem c_X1_leastDeadWithoutUpper (hA : AdOk n ad A) {q0 : Nat} (h0 : isX1 n sh q0) {a1 : Int32} {w w' : Mem} {r : Int32} (hF : F_X1_leastDeadWithoutUpper q0 a1 w = some (r, w')) : Ctr l n sh D cA ad A sa yX1_leastDeadWithoutUpper cX1_leastDeadWithoutUpper 4 (some .int) 3 66 [.ref (ad q0), .int a1] w (some (.int r)) w' := by
  refine m_enter hA (by decide) (Nat.le_of_ble_eq_true rfl) ?_
  intro p e s m args below meth c ls G hI hl
  replace hl : lv_has ls 4 [(0, .ref (ad q0)), (1, .int a1)] := hl
  replace G : Mx n D cA ad A sa p s m args meth c RX1 cX1_leastDeadWithoutUpper 4 (some .int) := G
  obtain ⟨hx, hb, -, -, hown, hg, -⟩ := id G
  unfold F_X1_leastDeadWithoutUpper at hF
  refine lv_iconst (v := (-1 : Int32)) hx hb dX1_leastDeadWithoutUpper_0 (by decide) ?_
  refine lv_istore_n (lv' := [(2, .int (-1 : Int32)), (0, .ref (ad q0)), (1, .int a1)]) hx hb dX1_leastDeadWithoutUpper_1 rfl hl (by decide) rfl (fun ls hl => ?_)
  refine lv_iconst (v := (5 : Int32)) hx hb dX1_leastDeadWithoutUpper_2 (by decide) ?_
  refine lv_istore_n (lv' := [(3, .int (5 : Int32)), (2, .int (-1 : Int32)), (0, .ref (ad q0)), (1, .int a1)]) hx hb dX1_leastDeadWithoutUpper_3 rfl hl (by decide) rfl (fun ls hl => ?_)
  refine l_X1_leastDeadWithoutUpper_4 G h0 (fun x10 w9 H locs ls hF hI hl => ?_) _ _ _ _ _ _ _ hF hI (lv_sub hl [2, 3, 1, 0] rfl)
  refine lv_iload_n hx hb dX1_leastDeadWithoutUpper_30 rfl (lv_at hl 0 rfl) ?_
  exact n_iret G hI hF rfl dX1_leastDeadWithoutUpper_31
set_option maxHeartbeats 4000000 in
theorem c_X1_listEvent (hA : AdOk n ad A) {q0 : Nat} (h0 : isX1 n sh q0) {q1 : Nat} (h1 : isX4 n sh q1) {a2 : Int32} {a3 : Int32} {a4 : Int32} {w w' : Mem} {r : Unit} (hF : F_X1_listEvent q0 q1 a2 a3 a4 w = some (r, w')) : Ctr l n sh D cA ad A sa yX1_listEvent cX1_listEvent 7 none 2 47 [.ref (ad q0), .ref (ad q1), .int a2, .int a3, .int a4] w none w' := by
  refine m_enter hA (by decide) (Nat.le_of_ble_eq_true rfl) ?_
  intro p e s m args below meth c ls G hI hl
  replace hl : lv_has ls 7 [(0, .ref (ad q0)), (1, .ref (ad q1)), (2, .int a2), (3, .int a3), (4, .int a4)] := hl
  replace G : Mx n D cA ad A sa p s m args meth c RX1 cX1_listEvent 7 none := G
  obtain ⟨hx, hb, -, -, hown, hg, -⟩ := id G
  unfold F_X1_listEvent at hF
  refine lv_aload_n hx hb dX1_listEvent_0 rfl (lv_at hl 0 rfl) ?_
  refine lv_iload_n hx hb dX1_listEvent_1 rfl (lv_at hl 3 rfl) ?_
  refine lv_iload hx hb dX1_listEvent_2 (lv_at hl 4 rfl) ?_
  refine lv_iload_n hx hb dX1_listEvent_4 rfl (lv_at hl 2 rfl) ?_
  obtain ⟨r2, w1, z3, hF⟩ := bd_some hF
  refine n_Vi (rest := []) G hI (c_X1_isOn hA h0 z3) my_X1_isOn kl_X1_67 (isX1.lt h0) (isX1.sh h0) rfl ⟨Nat.le_of_ble_eq_true rfl, Nat.le_of_ble_eq_true rfl⟩ rfl hl.1 rfl (Nat.le_of_ble_eq_true rfl) dX1_listEvent_5 (fun H locs hI => ?_)
  refine lv_istore (lv' := [(5, .int r2), (0, .ref (ad q0)), (1, .ref (ad q1)), (2, .int a2), (3, .int a3), (4, .int a4)]) hx hb dX1_listEvent_8 hl (by decide) rfl (fun ls hl => ?_)
  refine lv_aload_n hx hb dX1_listEvent_10 rfl (lv_at hl 1 rfl) ?_
  refine lv_iload_n hx hb dX1_listEvent_11 rfl (lv_at hl 4 rfl) ?_
  refine lv_iload hx hb dX1_listEvent_12 (lv_at hl 5 rfl) ?_
  refine lv_aload_n hx hb dX1_listEvent_14 rfl (lv_at hl 1 rfl) ?_
  refine lv_iconst (v := (1 : Int32)) hx hb dX1_listEvent_15 (by decide) ?_
  refine lv_iload_n hx hb dX1_listEvent_16 rfl (lv_at hl 3 rfl) ?_
  obtain ⟨r5, w4, z6, hF⟩ := bd_some hF
  refine n_Vi (rest := [.int a4, .int a3, .ref (ad q0)]) G hI (c_X1_tickBehindBy hA h0 z6) my_X1_tickBehindBy kl_X1_60 (isX1.lt h0) (isX1.sh h0) rfl ⟨Nat.le_of_ble_eq_true rfl, Nat.le_of_ble_eq_true rfl⟩ rfl hl.1 rfl (Nat.le_of_ble_eq_true rfl) dX1_listEvent_17 (fun H locs hI => ?_)
  obtain ⟨r8, w7, z9, hF⟩ := bd_some hF
  refine n_Vi (rest := []) G hI (c_X1_isOn hA h0 z9) my_X1_isOn kl_X1_67 (isX1.lt h0) (isX1.sh h0) rfl ⟨Nat.le_of_ble_eq_true rfl, Nat.le_of_ble_eq_true rfl⟩ rfl hl.1 rfl (Nat.le_of_ble_eq_true rfl) dX1_listEvent_20 (fun H locs hI => ?_)
  refine lv_istore (lv' := [(6, .int r8), (5, .int r2), (0, .ref (ad q0)), (1, .ref (ad q1)), (2, .int a2), (3, .int a3), (4, .int a4)]) hx hb dX1_listEvent_23 hl (by decide) rfl (fun ls hl => ?_)
  refine lv_iload hx hb dX1_listEvent_25 (lv_at hl 1 rfl) ?_
  refine lv_iload hx hb dX1_listEvent_27 (lv_at hl 0 rfl) ?_
  refine lv_icmp_eq (tgt := 50) hx hb dX1_listEvent_29 (by decide) (fun c17 => ?_) (fun c17 => ?_)
  · replace hF := itp c17 hF
    exact n_vret G hI hF rfl dX1_listEvent_50
  · replace hF := itn c17 hF
    refine lv_aload_n hx hb dX1_listEvent_32 rfl (lv_at hl 3 rfl) ?_
    refine lv_iload_n hx hb dX1_listEvent_33 rfl (lv_at hl 4 rfl) ?_
    refine lv_iload_n hx hb dX1_listEvent_34 rfl (lv_at hl 5 rfl) ?_
    refine lv_iload hx hb dX1_listEvent_35 (lv_at hl 6 rfl) ?_
    refine lv_iload hx hb dX1_listEvent_37 (lv_at hl 1 rfl) ?_
    refine lv_if_eq (tgt := 46) hx hb dX1_listEvent_39 (by decide) (fun c16 => ?_) (fun c16 => ?_)
    · replace hF := itp c16 hF
      refine lv_iconst (v := (0 : Int32)) hx hb dX1_listEvent_46 (by decide) ?_
      obtain ⟨r11, w10, z12, hF⟩ := bd_some hF
      refine n_Vv (rest := []) G hI (c_X4_add hA h1 z12) my_X4_add kl_X1_95 (isX4.lt h1) (isX4.sh h1) rfl ⟨Nat.le_of_ble_eq_true rfl, Nat.le_of_ble_eq_true rfl⟩ rfl hl.1 rfl (Nat.le_of_ble_eq_true rfl) dX1_listEvent_47 (fun H locs hI => ?_)
      exact n_vret G hI hF rfl dX1_listEvent_50
    · replace hF := itn c16 hF
      refine lv_iconst (v := (1 : Int32)) hx hb dX1_listEvent_42 (by decide) ?_
      refine lv_goto (tgt := 47) hx hb dX1_listEvent_43 (by decide) ?_
      obtain ⟨r14, w13, z15, hF⟩ := bd_some hF
      refine n_Vv (rest := []) G hI (c_X4_add hA h1 z15) my_X4_add kl_X1_95 (isX4.lt h1) (isX4.sh h1) rfl ⟨Nat.le_of_ble_eq_true rfl, Nat.le_of_ble_eq_true rfl⟩ rfl hl.1 rfl (Nat.le_of_ble_eq_true rfl) dX1_listEvent_47 (fun H locs hI => ?_)
      exact n_vret G hI hF rfl dX1_listEvent_50
set_option maxHeartbeats 4000000 in
theorem l_X1_listEvents_17 {p : Program} {e : Env} {s : State} {m : MethodId} {args : Array Value} {below : List Frame} {meth : Method} {c : Code} (G : Mx n D cA ad A sa p s m args meth c RX1 cX1_listEvents 4 none) {q0 : Nat} {q1 : Nat} {a2 : Int32} (h0 : isX1 n sh q0) (h1 : isX4 n sh q1) {k : Mem → Option (Unit × Mem)} {r : Unit} {w' : Mem}
    (hk : ∀  (w : Mem) (H : Heap) (locs : List Loc) (ls : Array Slot), k  w = some (r, w') → Iv n sh D cA ad A s.heap w H locs → lv_has ls 4 [(0, .ref (ad q0)), (1, .ref (ad q1)), (2, .int a2)] → W p l e ({ frames := 3, cells := 0, slots := 0, locals := 73 } : Room) s m args below meth c H locs 0 0 (QM n sh D cA ad A below args s none w') (F0 m 44 ls [])) :
    ∀ (N : Nat) (v3 : Int32) (w : Mem) (H : Heap) (locs : List Loc) (ls : Array Slot), L_X1_listEvents_17 q0 q1 a2 k N v3 w = some (r, w') → Iv n sh D cA ad A s.heap w H locs → lv_has ls 4 [(0, .ref (ad q0)), (1, .ref (ad q1)), (2, .int a2), (3, .int v3)] → W p l e ({ frames := 3, cells := 0, slots := 0, locals := 73 } : Room) s m args below meth c H locs 0 0 (QM n sh D cA ad A below args s none w') (F0 m 17 ls []) := by
  obtain ⟨hx, hb, -, -, hown, hg, -, -, -, -, hA⟩ := id G
  intro N
  induction N with
  | zero =>
    intro v3 w H locs ls hF hI hl
    cases hF
  | succ N ih =>
    intro v3 w H locs ls hF hI hl
    rw [L_X1_listEvents_17] at hF
    refine lv_iload_n hx hb dX1_listEvents_17 rfl (lv_at hl 3 rfl) ?_
    refine lv_iconst (v := (3 : Int32)) hx hb dX1_listEvents_18 (by decide) ?_
    refine lv_icmp_ge (tgt := 44) hx hb dX1_listEvents_19 (by decide) (fun c10 => ?_) (fun c10 => ?_)
    · replace hF := itp c10 hF
      exact hk _ _ _ _ hF hI (lv_sub hl [0, 1, 2] rfl)
    · replace hF := itn c10 hF
      refine lv_aload_n hx hb dX1_listEvents_22 rfl (lv_at hl 0 rfl) ?_
      refine lv_aload_n hx hb dX1_listEvents_23 rfl (lv_at hl 1 rfl) ?_
      refine lv_iload_n hx hb dX1_listEvents_24 rfl (lv_at hl 2 rfl) ?_
      refine lv_iload_n hx hb dX1_listEvents_25 rfl (lv_at hl 3 rfl) ?_
      refine lv_iconst (v := (0 : Int32)) hx hb dX1_listEvents_26 (by decide) ?_
      obtain ⟨r5, w4, z6, hF⟩ := bd_some hF
      refine n_Vv (rest := []) G hI (c_X1_listEvent hA h0 h1 z6) my_X1_listEvent kl_X1_91 (isX1.lt h0) (isX1.sh h0) rfl ⟨Nat.le_of_ble_eq_true rfl, Nat.le_of_ble_eq_true rfl⟩ rfl hl.1 rfl (Nat.le_of_ble_eq_true rfl) dX1_listEvents_27 (fun H locs hI => ?_)
      refine lv_aload_n hx hb dX1_listEvents_30 rfl (lv_at hl 0 rfl) ?_
      refine lv_aload_n hx hb dX1_listEvents_31 rfl (lv_at hl 1 rfl) ?_
      refine lv_iload_n hx hb dX1_listEvents_32 rfl (lv_at hl 2 rfl) ?_
      refine lv_iload_n hx hb dX1_listEvents_33 rfl (lv_at hl 3 rfl) ?_
      refine lv_iconst (v := (1 : Int32)) hx hb dX1_listEvents_34 (by decide) ?_
      obtain ⟨r8, w7, z9, hF⟩ := bd_some hF
      refine n_Vv (rest := []) G hI (c_X1_listEvent hA h0 h1 z9) my_X1_listEvent kl_X1_91 (isX1.lt h0) (isX1.sh h0) rfl ⟨Nat.le_of_ble_eq_true rfl, Nat.le_of_ble_eq_true rfl⟩ rfl hl.1 rfl (Nat.le_of_ble_eq_true rfl) dX1_listEvents_35 (fun H locs hI => ?_)
      refine lv_iinc (v := (v3 + (1 : Int32))) (lv' := [(3, .int (v3 + (1 : Int32))), (0, .ref (ad q0)), (1, .ref (ad q1)), (2, .int a2)]) hx hb dX1_listEvents_38 hl (k := 3) rfl rfl (by decide) rfl (fun ls hl => ?_)
      refine lv_goto (tgt := 17) hx hb dX1_listEvents_41 (by decide) ?_
      exact ih _ _ _ _ _ hF hI (lv_sub hl [1, 2, 3, 0] rfl)
set_option maxHeartbeats 4000000 in
theorem l_X1_listEvents_7 {p : Program} {e : Env} {s : State} {m : MethodId} {args : Array Value} {below : List Frame} {meth : Method} {c : Code} (G : Mx n D cA ad A sa p s m args meth c RX1 cX1_listEvents 4 none) {q0 : Nat} {q1 : Nat} (h0 : isX1 n sh q0) (h1 : isX4 n sh q1) {k : Mem → Option (Unit × Mem)} {r : Unit} {w' : Mem}
    (hk : ∀  (w : Mem) (H : Heap) (locs : List Loc) (ls : Array Slot), k  w = some (r, w') → Iv n sh D cA ad A s.heap w H locs → lv_has ls 4 [] → W p l e ({ frames := 3, cells := 0, slots := 0, locals := 73 } : Room) s m args below meth c H locs 0 0 (QM n sh D cA ad A below args s none w') (F0 m 50 ls [])) :
    ∀ (N : Nat) (v2 : Int32) (w : Mem) (H : Heap) (locs : List Loc) (ls : Array Slot), L_X1_listEvents_7 q0 q1 k N v2 w = some (r, w') → Iv n sh D cA ad A s.heap w H locs → lv_has ls 4 [(0, .ref (ad q0)), (1, .ref (ad q1)), (2, .int v2)] → W p l e ({ frames := 3, cells := 0, slots := 0, locals := 73 } : Room) s m args below meth c H locs 0 0 (QM n sh D cA ad A below args s none w') (F0 m 7 ls []) := by
  obtain ⟨hx, hb, -, -, hown, hg, -, -, -, -, hA⟩ := id G
  intro N
  induction N with
  | zero =>
    intro v2 w H locs ls hF hI hl
    cases hF
  | succ N ih =>
    intro v2 w H locs ls hF hI hl
    rw [L_X1_listEvents_7] at hF
    refine lv_iload_n hx hb dX1_listEvents_7 rfl (lv_at hl 2 rfl) ?_
    refine lv_aload_n hx hb dX1_listEvents_8 rfl (lv_at hl 0 rfl) ?_
    refine gf_X1_24 G hI h0 dX1_listEvents_9 ?_
    refine lv_icmp_ge (tgt := 50) hx hb dX1_listEvents_12 (by decide) (fun c12 => ?_) (fun c12 => ?_)
    · replace hF := itp c12 hF
      exact hk _ _ _ _ hF hI (lv_sub hl [] rfl)
    · replace hF := itn c12 hF
      refine lv_iconst (v := (0 : Int32)) hx hb dX1_listEvents_15 (by decide) ?_
      refine lv_istore_n (lv' := [(3, .int (0 : Int32)), (0, .ref (ad q0)), (1, .ref (ad q1)), (2, .int v2)]) hx hb dX1_listEvents_16 rfl hl (by decide) rfl (fun ls hl => ?_)
      refine l_X1_listEvents_17 G h0 h1 (fun w11 H locs ls hF hI hl => ?_) _ _ _ _ _ _ hF hI (lv_sub hl [1, 2, 3, 0] rfl)
      refine lv_iinc (v := (v2 + (1 : Int32))) (lv' := [(2, .int (v2 + (1 : Int32))), (0, .ref (ad q0)), (1, .ref (ad q1))]) hx hb dX1_listEvents_44 hl (k := 2) rfl rfl (by decide) rfl (fun ls hl => ?_)
      refine lv_goto (tgt := 7) hx hb dX1_listEvents_47 (by decide) ?_
      exact ih _ _ _ _ _ hF hI (lv_sub hl [1, 2, 0] rfl)
set_option maxHeartbeats 4000000 in
theorem c_X1_listEvents (hA : AdOk n ad A) {q0 : Nat} (h0 : isX1 n sh q0) {q1 : Nat} (h1 : isX4 n sh q1) {w w' : Mem} {r : Unit} (hF : F_X1_listEvents q0 q1 w = some (r, w')) : Ctr l n sh D cA ad A sa yX1_listEvents cX1_listEvents 4 none 3 73 [.ref (ad q0), .ref (ad q1)] w none w' := by
  refine m_enter hA (by decide) (Nat.le_of_ble_eq_true rfl) ?_
  intro p e s m args below meth c ls G hI hl
  replace hl : lv_has ls 4 [(0, .ref (ad q0)), (1, .ref (ad q1))] := hl
  replace G : Mx n D cA ad A sa p s m args meth c RX1 cX1_listEvents 4 none := G
  obtain ⟨hx, hb, -, -, hown, hg, -⟩ := id G
  unfold F_X1_listEvents at hF
  refine lv_aload_n hx hb dX1_listEvents_0 rfl (lv_at hl 1 rfl) ?_
  refine lv_iconst (v := (0 : Int32)) hx hb dX1_listEvents_1 (by decide) ?_
  obtain ⟨r2, w1, z3, hF⟩ := bd_some hF
  refine n_Vv (rest := []) G hI (c_X4_cutTo hA h1 z3) my_X4_cutTo kl_X1_85 (isX4.lt h1) (isX4.sh h1) rfl ⟨Nat.le_of_ble_eq_true rfl, Nat.le_of_ble_eq_true rfl⟩ rfl hl.1 rfl (Nat.le_of_ble_eq_true rfl) dX1_listEvents_2 (fun H locs hI => ?_)
  refine lv_iconst (v := (0 : Int32)) hx hb dX1_listEvents_5 (by decide) ?_
  refine lv_istore_n (lv' := [(2, .int (0 : Int32)), (0, .ref (ad q0)), (1, .ref (ad q1))]) hx hb dX1_listEvents_6 rfl hl (by decide) rfl (fun ls hl => ?_)
  refine l_X1_listEvents_7 G h0 h1 (fun w13 H locs ls hF hI hl => ?_) _ _ _ _ _ _ hF hI (lv_sub hl [1, 2, 0] rfl)
  exact n_vret G hI hF rfl dX1_listEvents_50
set_option maxHeartbeats 4000000 in
theorem l_X2_nextChange_6 {p : Program} {e : Env} {s : State} {m : MethodId} {args : Array Value} {below : List Frame} {meth : Method} {c : Code} (G : Mx n D cA ad A sa p s m args meth c RX2 cX2_nextChange 7 (some .int)) {a0 : Int32} {q2 : Nat} {q3 : Nat} (h2 : isAr n sh q2 3) (h3 : isAr n sh q3 3) {k : Int32 → Mem → Option (Int32 × Mem)} {r : Int32} {w' : Mem}
    (hk : ∀ (v4 : Int32) (w : Mem) (H : Heap) (locs : List Loc) (ls : Array Slot), k v4 w = some (r, w') → Iv n sh D cA ad A s.heap w H locs → lv_has ls 7 [(4, .int v4)] → W p l e ({ frames := 1, cells := 0, slots := 0, locals := 21 } : Room) s m args below meth c H locs 0 0 (QM n sh D cA ad A below args s (some (.int r)) w') (F0 m 80 ls [])) :
    ∀ (N : Nat) (v4 : Int32) (v5 : Int32) (w : Mem) (H : Heap) (locs : List Loc) (ls : Array Slot), L_X2_nextChange_6 a0 q2 q3 k N v4 v5 w = some (r, w') → Iv n sh D cA ad A s.heap w H locs → lv_has ls 7 [(0, .int a0), (2, .ref (ad q2)), (3, .ref (ad q3)), (4, .int v4), (5, .int v5)] → W p l e ({ frames := 1, cells := 0, slots := 0, locals := 21 } : Room) s m args below meth c H locs 0 0 (QM n sh D cA ad A below args s (some (.int r)) w') (F0 m 6 ls []) := by
  obtain ⟨hx, hb, -, -, hown, hg, -, -, -, -, hA⟩ := id G
  intro N
  induction N with
  | zero =>
    intro v4 v5 w H locs ls hF hI hl
    cases hF
  | succ N ih =>
    intro v4 v5 w H locs ls hF hI hl
    rw [L_X2_nextChange_6] at hF
    refine lv_iload hx hb dX2_nextChange_6 (lv_at hl 4 rfl) ?_
    refine lv_iconst (v := (3 : Int32)) hx hb dX2_nextChange_8 (by decide) ?_
    refine lv_icmp_ge (tgt := 80) hx hb dX2_nextChange_9 (by decide) (fun c13 => ?_) (fun c13 => ?_)
    · replace hF := itp c13 hF
      exact hk _ _ _ _ _ hF hI (lv_sub hl [3] rfl)
    · replace hF := itn c13 hF
      refine lv_aload_n hx hb dX2_nextChange_12 rfl (lv_at hl 1 rfl) ?_
      refine lv_iload hx hb dX2_nextChange_13 (lv_at hl 4 rfl) ?_
      obtain ⟨g1, hF⟩ := gd_some hF
      refine n_ald G hI h2 g1 dX2_nextChange_15 ?_
      refine lv_aload_n hx hb dX2_nextChange_16 rfl (lv_at hl 2 rfl) ?_
      refine lv_iload hx hb dX2_nextChange_17 (lv_at hl 4 rfl) ?_
      obtain ⟨g2, hF⟩ := gd_some hF
      refine n_ald G hI h3 g2 dX2_nextChange_19 ?_
      refine lv_iadd hx hb dX2_nextChange_20 ?_
      obtain ⟨x3, ex3, hF⟩ := lt_some hF
      refine W.eq (g2 := F0 m 21 ls [.int x3]) (by rw [ex3]) ?_
      refine lv_istore (lv' := [(6, .int x3), (0, .int a0), (2, .ref (ad q2)), (3, .ref (ad q3)), (4, .int v4), (5, .int v5)]) hx hb dX2_nextChange_21 hl (by decide) rfl (fun ls hl => ?_)
      refine lv_aload_n hx hb dX2_nextChange_23 rfl (lv_at hl 2 rfl) ?_
      refine lv_iload hx hb dX2_nextChange_24 (lv_at hl 5 rfl) ?_
      obtain ⟨g4, hF⟩ := gd_some hF
      refine n_ald G hI h2 g4 dX2_nextChange_26 ?_
      refine lv_iload_n hx hb dX2_nextChange_27 rfl (lv_at hl 1 rfl) ?_
      obtain ⟨k5, ek5, hF⟩ := jn_some hF
      have hJ5 : ∀  (H : Heap) (locs : List Loc) (ls : Array Slot), k5  = some (r, w') → Iv n sh D cA ad A s.heap w H locs → lv_has ls 7 [(0, .int a0), (2, .ref (ad q2)), (3, .ref (ad q3)), (4, .int v4), (5, .int v5), (6, .int x3)] → W p l e ({ frames := 1, cells := 0, slots := 0, locals := 21 } : Room) s m args below meth c H locs 0 0 (QM n sh D cA ad A below args s (some (.int r)) w') (F0 m 52 ls []) := by
        intro  H locs ls hF hI hl
        replace hF := ek5.symm.trans hF
        refine lv_iload hx hb dX2_nextChange_52 (lv_at hl 5 rfl) ?_
        refine lv_iload_n hx hb dX2_nextChange_54 rfl (lv_at hl 0 rfl) ?_
        refine lv_icmp_le (tgt := 74) hx hb dX2_nextChange_55 (by decide) (fun c8 => ?_) (fun c8 => ?_)
        · replace hF := itp c8 hF
          refine lv_iinc (v := (v5 + (1 : Int32))) (lv' := [(5, .int (v5 + (1 : Int32))), (0, .int a0), (2, .ref (ad q2)), (3, .ref (ad q3)), (4, .int v4), (6, .int x3)]) hx hb dX2_nextChange_74 hl (k := 4) rfl rfl (by decide) rfl (fun ls hl => ?_)
          refine lv_goto (tgt := 6) hx hb dX2_nextChange_77 (by decide) ?_
          exact ih _ _ _ _ _ _ hF hI (lv_sub hl [1, 2, 3, 4, 0] rfl)
        · replace hF := itn c8 hF
          refine lv_aload_n hx hb dX2_nextChange_58 rfl (lv_at hl 2 rfl) ?_
          refine lv_iload hx hb dX2_nextChange_59 (lv_at hl 4 rfl) ?_
          obtain ⟨g6, hF⟩ := gd_some hF
          refine n_ald G hI h3 g6 dX2_nextChange_61 ?_
          refine lv_if_le (tgt := 74) hx hb dX2_nextChange_62 (by decide) (fun c7 => ?_) (fun c7 => ?_)
          · replace hF := itp c7 hF
            refine lv_iinc (v := (v5 + (1 : Int32))) (lv' := [(5, .int (v5 + (1 : Int32))), (0, .int a0), (2, .ref (ad q2)), (3, .ref (ad q3)), (4, .int v4), (6, .int x3)]) hx hb dX2_nextChange_74 hl (k := 4) rfl rfl (by decide) rfl (fun ls hl => ?_)
            refine lv_goto (tgt := 6) hx hb dX2_nextChange_77 (by decide) ?_
            exact ih _ _ _ _ _ _ hF hI (lv_sub hl [1, 2, 3, 4, 0] rfl)
          · replace hF := itn c7 hF
            refine lv_iload hx hb dX2_nextChange_65 (lv_at hl 3 rfl) ?_
            refine lv_iload hx hb dX2_nextChange_67 (lv_at hl 5 rfl) ?_
            refine n_min G kl_X2_43 (Nat.le_of_ble_eq_true rfl) (Nat.le_of_ble_eq_true rfl) hl.1 dX2_nextChange_69 ?_
            refine lv_istore (lv' := [(4, .int (imin v4 x3)), (0, .int a0), (2, .ref (ad q2)), (3, .ref (ad q3)), (5, .int v5), (6, .int x3)]) hx hb dX2_nextChange_72 hl (by decide) rfl (fun ls hl => ?_)
            refine lv_iinc (v := (v5 + (1 : Int32))) (lv' := [(5, .int (v5 + (1 : Int32))), (4, .int (imin v4 x3)), (0, .int a0), (2, .ref (ad q2)), (3, .ref (ad q3)), (6, .int x3)]) hx hb dX2_nextChange_74 hl (k := 4) rfl rfl (by decide) rfl (fun ls hl => ?_)
            refine lv_goto (tgt := 6) hx hb dX2_nextChange_77 (by decide) ?_
            exact ih _ _ _ _ _ _ hF hI (lv_sub hl [2, 3, 4, 1, 0] rfl)
      refine lv_icmp_le (tgt := 52) hx hb dX2_nextChange_28 (by decide) (fun c12 => ?_) (fun c12 => ?_)
      · replace hF := itp c12 hF
        exact hJ5  _ _ _ hF hI (lv_sub hl [1, 2, 3, 4, 5, 0] rfl)
      · replace hF := itn c12 hF
        refine lv_aload_n hx hb dX2_nextChange_31 rfl (lv_at hl 3 rfl) ?_
        refine lv_iload hx hb dX2_nextChange_32 (lv_at hl 5 rfl) ?_
        obtain ⟨g9, hF⟩ := gd_some hF
        refine n_ald G hI h3 g9 dX2_nextChange_34 ?_
        refine lv_if_le (tgt := 52) hx hb dX2_nextChange_35 (by decide) (fun c11 => ?_) (fun c11 => ?_)
        · replace hF := itp c11 hF
          exact hJ5  _ _ _ hF hI (lv_sub hl [1, 2, 3, 4, 5, 0] rfl)
        · replace hF := itn c11 hF
          refine lv_iload hx hb dX2_nextChange_38 (lv_at hl 4 rfl) ?_
          refine lv_aload_n hx hb dX2_nextChange_40 rfl (lv_at hl 2 rfl) ?_
          refine lv_iload hx hb dX2_nextChange_41 (lv_at hl 5 rfl) ?_
          obtain ⟨g10, hF⟩ := gd_some hF
          refine n_ald G hI h2 g10 dX2_nextChange_43 ?_
          refine n_min G kl_X2_43 (Nat.le_of_ble_eq_true rfl) (Nat.le_of_ble_eq_true rfl) hl.1 dX2_nextChange_44 ?_
          refine lv_istore (lv' := [(4, .int (imin v4 (w q2 (ix v5)))), (6, .int x3), (0, .int a0), (2, .ref (ad q2)), (3, .ref (ad q3)), (5, .int v5)]) hx hb dX2_nextChange_47 hl (by decide) rfl (fun ls hl => ?_)
          refine lv_goto (tgt := 74) hx hb dX2_nextChange_49 (by decide) ?_
          refine lv_iinc (v := (v5 + (1 : Int32))) (lv' := [(5, .int (v5 + (1 : Int32))), (4, .int (imin v4 (w q2 (ix v5)))), (6, .int x3), (0, .int a0), (2, .ref (ad q2)), (3, .ref (ad q3))]) hx hb dX2_nextChange_74 hl (k := 5) rfl rfl (by decide) rfl (fun ls hl => ?_)
          refine lv_goto (tgt := 6) hx hb dX2_nextChange_77 (by decide) ?_
          exact ih _ _ _ _ _ _ hF hI (lv_sub hl [3, 4, 5, 1, 0] rfl)
set_option maxHeartbeats 4000000 in
theorem c_X2_nextChange (hA : AdOk n ad A) {a0 : Int32} {a1 : Int32} {q2 : Nat} (h2 : isAr n sh q2 3) {q3 : Nat} (h3 : isAr n sh q3 3) {w w' : Mem} {r : Int32} (hF : F_X2_nextChange a0 a1 q2 q3 w = some (r, w')) : Ctr l n sh D cA ad A sa yX2_nextChange cX2_nextChange 7 (some .int) 1 21 [.int a0, .int a1, .ref (ad q2), .ref (ad q3)] w (some (.int r)) w' := by
  refine m_enter hA (by decide) (Nat.le_of_ble_eq_true rfl) ?_
  intro p e s m args below meth c ls G hI hl
  replace hl : lv_has ls 7 [(0, .int a0), (1, .int a1), (2, .ref (ad q2)), (3, .ref (ad q3))] := hl
  replace G : Mx n D cA ad A sa p s m args meth c RX2 cX2_nextChange 7 (some .int) := G
  obtain ⟨hx, hb, -, -, hown, hg, -⟩ := id G
  unfold F_X2_nextChange at hF
  refine lv_iload_n hx hb dX2_nextChange_0 rfl (lv_at hl 1 rfl) ?_
  refine lv_istore (lv' := [(4, .int a1), (0, .int a0), (1, .int a1), (2, .ref (ad q2)), (3, .ref (ad q3))]) hx hb dX2_nextChange_1 hl (by decide) rfl (fun ls hl => ?_)
  refine lv_iconst (v := (0 : Int32)) hx hb dX2_nextChange_3 (by decide) ?_
  refine lv_istore (lv' := [(5, .int (0 : Int32)), (4, .int a1), (0, .int a0), (1, .int a1), (2, .ref (ad q2)), (3, .ref (ad q3))]) hx hb dX2_nextChange_4 hl (by decide) rfl (fun ls hl => ?_)
  refine l_X2_nextChange_6 G h2 h3 (fun x15 w14 H locs ls hF hI hl => ?_) _ _ _ _ _ _ _ hF hI (lv_sub hl [2, 4, 5, 1, 0] rfl)
  refine lv_iload hx hb dX2_nextChange_80 (lv_at hl 0 rfl) ?_
  exact n_iret G hI hF rfl dX2_nextChange_82
set_option maxHeartbeats 4000000 in
theorem l_X2_patternAt_5 {p : Program} {e : Env} {s : State} {m : MethodId} {args : Array Value} {below : List Frame} {meth : Method} {c : Code} (G : Mx n D cA ad A sa p s m args meth c RX2 cX2_patternAt 5 (some .int)) {a0 : Int32} {q1 : Nat} {q2 : Nat} (h1 : isAr n sh q1 3) (h2 : isAr n sh q2 3) {k : Int32 → Mem → Option (Int32 × Mem)} {r : Int32} {w' : Mem}
    (hk : ∀ (v3 : Int32) (w : Mem) (H : Heap) (locs : List Loc) (ls : Array Slot), k v3 w = some (r, w') → Iv n sh D cA ad A s.heap w H locs → lv_has ls 5 [(3, .int v3)] → W p l e ({ frames := 0, cells := 0, slots := 0, locals := 0 } : Room) s m args below meth c H locs 0 0 (QM n sh D cA ad A below args s (some (.int r)) w') (F0 m 45 ls [])) :
    ∀ (N : Nat) (v3 : Int32) (v4 : Int32) (w : Mem) (H : Heap) (locs : List Loc) (ls : Array Slot), L_X2_patternAt_5 a0 q1 q2 k N v3 v4 w = some (r, w') → Iv n sh D cA ad A s.heap w H locs → lv_has ls 5 [(0, .int a0), (1, .ref (ad q1)), (2, .ref (ad q2)), (3, .int v3), (4, .int v4)] → W p l e ({ frames := 0, cells := 0, slots := 0, locals := 0 } : Room) s m args below meth c H locs 0 0 (QM n sh D cA ad A below args s (some (.int r)) w') (F0 m 5 ls []) := by
  obtain ⟨hx, hb, -, -, hown, hg, -, -, -, -, hA⟩ := id G
  intro N
  induction N with
  | zero =>
    intro v3 v4 w H locs ls hF hI hl
    cases hF
  | succ N ih =>
    intro v3 v4 w H locs ls hF hI hl
    rw [L_X2_patternAt_5] at hF
    refine lv_iload hx hb dX2_patternAt_5 (lv_at hl 4 rfl) ?_
    refine lv_iconst (v := (3 : Int32)) hx hb dX2_patternAt_7 (by decide) ?_
    refine lv_icmp_ge (tgt := 45) hx hb dX2_patternAt_8 (by decide) (fun c7 => ?_) (fun c7 => ?_)
    · replace hF := itp c7 hF
      exact hk _ _ _ _ _ hF hI (lv_sub hl [3] rfl)
    · replace hF := itn c7 hF
      refine lv_iload_n hx hb dX2_patternAt_11 rfl (lv_at hl 0 rfl) ?_
      refine lv_aload_n hx hb dX2_patternAt_12 rfl (lv_at hl 1 rfl) ?_
      refine lv_iload hx hb dX2_patternAt_13 (lv_at hl 4 rfl) ?_
      obtain ⟨g1, hF⟩ := gd_some hF
      refine n_ald G hI h1 g1 dX2_patternAt_15 ?_
      refine lv_icmp_lt (tgt := 39) hx hb dX2_patternAt_16 (by decide) (fun c6 => ?_) (fun c6 => ?_)
      · replace hF := itp c6 hF
        refine lv_iinc (v := (v4 + (1 : Int32))) (lv' := [(4, .int (v4 + (1 : Int32))), (0, .int a0), (1, .ref (ad q1)), (2, .ref (ad q2)), (3, .int v3)]) hx hb dX2_patternAt_39 hl (k := 4) rfl rfl (by decide) rfl (fun ls hl => ?_)
        refine lv_goto (tgt := 5) hx hb dX2_patternAt_42 (by decide) ?_
        exact ih _ _ _ _ _ _ hF hI (lv_sub hl [1, 2, 3, 4, 0] rfl)
      · replace hF := itn c6 hF
        refine lv_iload_n hx hb dX2_patternAt_19 rfl (lv_at hl 0 rfl) ?_
        refine lv_aload_n hx hb dX2_patternAt_20 rfl (lv_at hl 1 rfl) ?_
        refine lv_iload hx hb dX2_patternAt_21 (lv_at hl 4 rfl) ?_
        obtain ⟨g2, hF⟩ := gd_some hF
        refine n_ald G hI h1 g2 dX2_patternAt_23 ?_
        refine lv_aload_n hx hb dX2_patternAt_24 rfl (lv_at hl 2 rfl) ?_
        refine lv_iload hx hb dX2_patternAt_25 (lv_at hl 4 rfl) ?_
        obtain ⟨g3, hF⟩ := gd_some hF
        refine n_ald G hI h2 g3 dX2_patternAt_27 ?_
        refine lv_iadd hx hb dX2_patternAt_28 ?_
        refine lv_icmp_ge (tgt := 39) hx hb dX2_patternAt_29 (by decide) (fun c5 => ?_) (fun c5 => ?_)
        · replace hF := itp c5 hF
          refine lv_iinc (v := (v4 + (1 : Int32))) (lv' := [(4, .int (v4 + (1 : Int32))), (0, .int a0), (1, .ref (ad q1)), (2, .ref (ad q2)), (3, .int v3)]) hx hb dX2_patternAt_39 hl (k := 4) rfl rfl (by decide) rfl (fun ls hl => ?_)
          refine lv_goto (tgt := 5) hx hb dX2_patternAt_42 (by decide) ?_
          exact ih _ _ _ _ _ _ hF hI (lv_sub hl [1, 2, 3, 4, 0] rfl)
        · replace hF := itn c5 hF
          refine lv_iload_n hx hb dX2_patternAt_32 rfl (lv_at hl 3 rfl) ?_
          refine lv_iconst (v := (1 : Int32)) hx hb dX2_patternAt_33 (by decide) ?_
          refine lv_iload hx hb dX2_patternAt_34 (lv_at hl 4 rfl) ?_
          refine lv_ishl hx hb dX2_patternAt_36 ?_
          refine lv_ior hx hb dX2_patternAt_37 ?_
          obtain ⟨x4, ex4, hF⟩ := lt_some hF
          refine W.eq (g2 := F0 m 38 ls [.int x4]) (by rw [ex4]) ?_
          refine lv_istore_n (lv' := [(3, .int x4), (0, .int a0), (1, .ref (ad q1)), (2, .ref (ad q2)), (4, .int v4)]) hx hb dX2_patternAt_38 rfl hl (by decide) rfl (fun ls hl => ?_)
          refine lv_iinc (v := (v4 + (1 : Int32))) (lv' := [(4, .int (v4 + (1 : Int32))), (3, .int x4), (0, .int a0), (1, .ref (ad q1)), (2, .ref (ad q2))]) hx hb dX2_patternAt_39 hl (k := 4) rfl rfl (by decide) rfl (fun ls hl => ?_)
          refine lv_goto (tgt := 5) hx hb dX2_patternAt_42 (by decide) ?_
          exact ih _ _ _ _ _ _ hF hI (lv_sub hl [2, 3, 4, 1, 0] rfl)
set_option maxHeartbeats 4000000 in
theorem c_X2_patternAt (hA : AdOk n ad A) {a0 : Int32} {q1 : Nat} (h1 : isAr n sh q1 3) {q2 : Nat} (h2 : isAr n sh q2 3) {w w' : Mem} {r : Int32} (hF : F_X2_patternAt a0 q1 q2 w = some (r, w')) : Ctr l n sh D cA ad A sa yX2_patternAt cX2_patternAt 5 (some .int) 0 0 [.int a0, .ref (ad q1), .ref (ad q2)] w (some (.int r)) w' := by
  refine m_enter hA (by decide) (Nat.le_of_ble_eq_true rfl) ?_
  intro p e s m args below meth c ls G hI hl
  replace hl : lv_has ls 5 [(0, .int a0), (1, .ref (ad q1)), (2, .ref (ad q2))] := hl
  replace G : Mx n D cA ad A sa p s m args meth c RX2 cX2_patternAt 5 (some .int) := G
  obtain ⟨hx, hb, -, -, hown, hg, -⟩ := id G
  unfold F_X2_patternAt at hF
  refine lv_iconst (v := (0 : Int32)) hx hb dX2_patternAt_0 (by decide) ?_
  refine lv_istore_n (lv' := [(3, .int (0 : Int32)), (0, .int a0), (1, .ref (ad q1)), (2, .ref (ad q2))]) hx hb dX2_patternAt_1 rfl hl (by decide) rfl (fun ls hl => ?_)
  refine lv_iconst (v := (0 : Int32)) hx hb dX2_patternAt_2 (by decide) ?_
  refine lv_istore (lv' := [(4, .int (0 : Int32)), (3, .int (0 : Int32)), (0, .int a0), (1, .ref (ad q1)), (2, .ref (ad q2))]) hx hb dX2_patternAt_3 hl (by decide) rfl (fun ls hl => ?_)
  refine l_X2_patternAt_5 G h1 h2 (fun x9 w8 H locs ls hF hI hl => ?_) _ _ _ _ _ _ _ hF hI (lv_sub hl [2, 3, 4, 1, 0] rfl)
  refine lv_iload_n hx hb dX2_patternAt_45 rfl (lv_at hl 0 rfl) ?_
  exact n_iret G hI hF rfl dX2_patternAt_46
end WK2
