/-! walks, by program (wip/gen/walk.py): X7_number, X7_readsWish, X7_goesThrough, X7_reads, X7_countBy, X7_count, X7_digest -/
section WK15
variable {n : Nat} {sh : Nat → Shp} {D : va_G} {cA : ClassId} {ad : Nat → Nat} {A : Nat → Prop} {sa : Nat → Nat} {l : Launch}
set_option maxHeartbeats 4000000 in
theorem l_X7_number_8 {p : Program} {e : Env} {s : State} {m : MethodId} {args : Array Value} {below : List Frame} {meth : Method} {c : Code} (G : Mx n D cA ad A sa p s m args meth c RX7 cX7_number 4 (some .boolean)) {a1 : Int32} (h0 : isX7 n sh 0) {k : Int32 → Int32 → Mem → Option (Int32 × Mem)} {r : Int32} {w' : Mem}
    (hk : ∀ (v2 : Int32) (v3 : Int32) (w : Mem) (H : Heap) (locs : List Loc) (ls : Array Slot), k v2 v3 w = some (r, w') → Iv n sh D cA ad A s.heap w H locs → lv_has ls 4 [(0, .ref (ad 0)), (1, .int a1), (2, .int v2), (3, .int v3)] → W p l e ({ frames := 2, cells := 0, slots := 0, locals := 40 } : Room) s m args below meth c H locs 0 0 (QM n sh D cA ad A below args s (some (.int r)) w') (F0 m 60 ls [])) :
    ∀ (N : Nat) (v2 : Int32) (v3 : Int32) (w : Mem) (H : Heap) (locs : List Loc) (ls : Array Slot), L_X7_number_8 a1 k N v2 v3 w = some (r, w') → Iv n sh D cA ad A s.heap w H locs → lv_has ls 4 [(0, .ref (ad 0)), (1, .int a1), (2, .int v2), (3, .int v3)] → W p l e ({ frames := 2, cells := 0, slots := 0, locals := 40 } : Room) s m args below meth c H locs 0 0 (QM n sh D cA ad A below args s (some (.int r)) w') (F0 m 8 ls []) := by
  obtain ⟨hx, hb, -, -, hown, hg, -, -, -, -, hA⟩ := id G
  intro N
  induction N with
  | zero =>
    intro v2 v3 w H locs ls hF hI hl
    cases hF
  | succ N ih =>
    intro v2 v3 w H locs ls hF hI hl
    rw [L_X7_number_8] at hF
    refine lv_aload_n hx hb dX7_number_8 rfl (lv_at hl 0 rfl) ?_
    obtain ⟨r5, w4, z6, hF⟩ := bd_some hF
    refine n_Vi (rest := []) G hI (c_X7_here hA h0 z6) my_X7_here kl_X7_268 (isX7.lt h0) (isX7.sh h0) rfl ⟨Nat.le_of_ble_eq_true rfl, Nat.le_of_ble_eq_true rfl⟩ rfl hl.1 rfl (Nat.le_of_ble_eq_true rfl) dX7_number_9 (fun H locs hI => ?_)
    refine lv_bipush (v := (48 : Int32)) hx hb dX7_number_12 (by decide) ?_
    refine lv_bipush (v := (57 : Int32)) hx hb dX7_number_14 (by decide) ?_
    obtain ⟨r8, w7, z9, hF⟩ := bd_some hF
    refine n_Si (rest := []) G hI (c_X7_in hA  z9) my_X7_in kl_X7_86 ⟨Nat.le_of_ble_eq_true rfl, Nat.le_of_ble_eq_true rfl⟩ rfl hl.1 rfl (Nat.le_of_ble_eq_true rfl) dX7_number_16 (fun H locs hI => ?_)
    refine lv_if_eq (tgt := 60) hx hb dX7_number_19 (by decide) (fun c17 => ?_) (fun c17 => ?_)
    · replace hF := itp c17 hF
      exact hk _ _ _ _ _ _ hF hI (lv_sub hl [0, 1, 2, 3] rfl)
    · replace hF := itn c17 hF
      refine lv_iload_n hx hb dX7_number_22 rfl (lv_at hl 2 rfl) ?_
      refine lv_iconst (v := (3 : Int32)) hx hb dX7_number_23 (by decide) ?_
      refine lv_icmp_ge (tgt := 42) hx hb dX7_number_24 (by decide) (fun c16 => ?_) (fun c16 => ?_)
      · replace hF := itp c16 hF
        refine lv_iload_n hx hb dX7_number_42 rfl (lv_at hl 3 rfl) ?_
        refine lv_istore_n (lv' := [(3, .int v3), (0, .ref (ad 0)), (1, .int a1), (2, .int v2)]) hx hb dX7_number_43 rfl hl (by decide) rfl (fun ls hl => ?_)
        refine lv_iinc (v := (v2 + (1 : Int32))) (lv' := [(2, .int (v2 + (1 : Int32))), (3, .int v3), (0, .ref (ad 0)), (1, .int a1)]) hx hb dX7_number_44 hl (k := 3) rfl rfl (by decide) rfl (fun ls hl => ?_)
        refine lv_aload_n hx hb dX7_number_47 rfl (lv_at hl 2 rfl) ?_
        refine lv_dup hx hb dX7_number_48 rfl ?_
        refine gf_X7_265 G hI h0 dX7_number_49 ?_
        refine lv_iconst (v := (1 : Int32)) hx hb dX7_number_52 (by decide) ?_
        refine lv_iadd hx hb dX7_number_53 ?_
        obtain ⟨w10, ew10, hF⟩ := lt_some hF
        refine pf_X7_265 G hI h0 dX7_number_54 (fun H locs hI => ?_)
        replace hI : Iv n sh D cA ad A s.heap w10 H locs := by rw [ew10]; exact hI
        refine lv_goto (tgt := 8) hx hb dX7_number_57 (by decide) ?_
        exact ih _ _ _ _ _ _ hF hI (lv_sub hl [2, 3, 0, 1] rfl)
      · replace hF := itn c16 hF
        refine lv_bipush (v := (10 : Int32)) hx hb dX7_number_27 (by decide) ?_
        refine lv_iload_n hx hb dX7_number_29 rfl (lv_at hl 3 rfl) ?_
        refine lv_imul hx hb dX7_number_30 ?_
        refine lv_aload_n hx hb dX7_number_31 rfl (lv_at hl 0 rfl) ?_
        obtain ⟨r12, w11, z13, hF⟩ := bd_some hF
        refine n_Vi (rest := [.int ((10 : Int32) * v3)]) G hI (c_X7_here hA h0 z13) my_X7_here kl_X7_268 (isX7.lt h0) (isX7.sh h0) rfl ⟨Nat.le_of_ble_eq_true rfl, Nat.le_of_ble_eq_true rfl⟩ rfl hl.1 rfl (Nat.le_of_ble_eq_true rfl) dX7_number_32 (fun H locs hI => ?_)
        refine lv_iadd hx hb dX7_number_35 ?_
        refine lv_bipush (v := (48 : Int32)) hx hb dX7_number_36 (by decide) ?_
        refine lv_isub hx hb dX7_number_38 ?_
        refine lv_goto (tgt := 43) hx hb dX7_number_39 (by decide) ?_
        obtain ⟨x14, ex14, hF⟩ := lt_some hF
        refine W.eq (g2 := F0 m 43 ls [.int x14]) (by rw [ex14]) ?_
        refine lv_istore_n (lv' := [(3, .int x14), (0, .ref (ad 0)), (1, .int a1), (2, .int v2)]) hx hb dX7_number_43 rfl hl (by decide) rfl (fun ls hl => ?_)
        refine lv_iinc (v := (v2 + (1 : Int32))) (lv' := [(2, .int (v2 + (1 : Int32))), (3, .int x14), (0, .ref (ad 0)), (1, .int a1)]) hx hb dX7_number_44 hl (k := 3) rfl rfl (by decide) rfl (fun ls hl => ?_)
        refine lv_aload_n hx hb dX7_number_47 rfl (lv_at hl 2 rfl) ?_
        refine lv_dup hx hb dX7_number_48 rfl ?_
        refine gf_X7_265 G hI h0 dX7_number_49 ?_
        refine lv_iconst (v := (1 : Int32)) hx hb dX7_number_52 (by decide) ?_
        refine lv_iadd hx hb dX7_number_53 ?_
        obtain ⟨w15, ew15, hF⟩ := lt_some hF
        refine pf_X7_265 G hI h0 dX7_number_54 (fun H locs hI => ?_)
        replace hI : Iv n sh D cA ad A s.heap w15 H locs := by rw [ew15]; exact hI
        refine lv_goto (tgt := 8) hx hb dX7_number_57 (by decide) ?_
        exact ih _ _ _ _ _ _ hF hI (lv_sub hl [2, 3, 0, 1] rfl)
set_option maxHeartbeats 4000000 in
theorem c_X7_number (hA : AdOk n ad A) (h0 : isX7 n sh 0) {a1 : Int32} {w w' : Mem} {r : Int32} (hF : F_X7_number a1 w = some (r, w')) : Ctr l n sh D cA ad A sa yX7_number cX7_number 4 (some .boolean) 2 40 [.ref (ad 0), .int a1] w (some (.int r)) w' := by
  refine m_enter hA (by decide) (Nat.le_of_ble_eq_true rfl) ?_
  intro p e s m args below meth c ls G hI hl
  replace hl : lv_has ls 4 [(0, .ref (ad 0)), (1, .int a1)] := hl
  replace G : Mx n D cA ad A sa p s m args meth c RX7 cX7_number 4 (some .boolean) := G
  obtain ⟨hx, hb, -, -, hown, hg, -⟩ := id G
  unfold F_X7_number at hF
  refine lv_aload_n hx hb dX7_number_0 rfl (lv_at hl 0 rfl) ?_
  obtain ⟨r2, w1, z3, hF⟩ := bd_some hF
  refine n_Vv (rest := []) G hI (c_X7_skips hA h0 z3) my_X7_skips kl_X7_274 (isX7.lt h0) (isX7.sh h0) rfl ⟨Nat.le_of_ble_eq_true rfl, Nat.le_of_ble_eq_true rfl⟩ rfl hl.1 rfl (Nat.le_of_ble_eq_true rfl) dX7_number_1 (fun H locs hI => ?_)
  refine lv_iconst (v := (0 : Int32)) hx hb dX7_number_4 (by decide) ?_
  refine lv_istore_n (lv' := [(2, .int (0 : Int32)), (0, .ref (ad 0)), (1, .int a1)]) hx hb dX7_number_5 rfl hl (by decide) rfl (fun ls hl => ?_)
  refine lv_iconst (v := (0 : Int32)) hx hb dX7_number_6 (by decide) ?_
  refine lv_istore_n (lv' := [(3, .int (0 : Int32)), (2, .int (0 : Int32)), (0, .ref (ad 0)), (1, .int a1)]) hx hb dX7_number_7 rfl hl (by decide) rfl (fun ls hl => ?_)
  refine l_X7_number_8 G h0 (fun x19 x20 w18 H locs ls hF hI hl => ?_) _ _ _ _ _ _ _ hF hI (lv_sub hl [2, 3, 1, 0] rfl)
  refine lv_aload_n hx hb dX7_number_60 rfl (lv_at hl 0 rfl) ?_
  refine lv_iload_n hx hb dX7_number_61 rfl (lv_at hl 3 rfl) ?_
  obtain ⟨w21, ew21, hF⟩ := lt_some hF
  refine pf_X7_277 G hI h0 dX7_number_62 (fun H locs hI => ?_)
  replace hI : Iv n sh D cA ad A s.heap w21 H locs := by rw [ew21]; exact hI
  refine lv_iload_n hx hb dX7_number_65 rfl (lv_at hl 2 rfl) ?_
  refine lv_iconst (v := (1 : Int32)) hx hb dX7_number_66 (by decide) ?_
  refine lv_iconst (v := (3 : Int32)) hx hb dX7_number_67 (by decide) ?_
  obtain ⟨r23, w22, z24, hF⟩ := bd_some hF
  refine n_Si (rest := []) G hI (c_X7_in hA  z24) my_X7_in kl_X7_86 ⟨Nat.le_of_ble_eq_true rfl, Nat.le_of_ble_eq_true rfl⟩ rfl hl.1 rfl (Nat.le_of_ble_eq_true rfl) dX7_number_68 (fun H locs hI => ?_)
  refine lv_if_eq (tgt := 83) hx hb dX7_number_71 (by decide) (fun c26 => ?_) (fun c26 => ?_)
  · replace hF := itp c26 hF
    refine lv_iconst (v := (0 : Int32)) hx hb dX7_number_83 (by decide) ?_
    exact n_zret G hI (by decide) hF rfl dX7_number_84
  · replace hF := itn c26 hF
    refine lv_iload_n hx hb dX7_number_74 rfl (lv_at hl 3 rfl) ?_
    refine lv_iload_n hx hb dX7_number_75 rfl (lv_at hl 1 rfl) ?_
    refine lv_icmp_gt (tgt := 83) hx hb dX7_number_76 (by decide) (fun c25 => ?_) (fun c25 => ?_)
    · replace hF := itp c25 hF
      refine lv_iconst (v := (0 : Int32)) hx hb dX7_number_83 (by decide) ?_
      exact n_zret G hI (by decide) hF rfl dX7_number_84
    · replace hF := itn c25 hF
      refine lv_iconst (v := (1 : Int32)) hx hb dX7_number_79 (by decide) ?_
      refine lv_goto (tgt := 84) hx hb dX7_number_80 (by decide) ?_
      exact n_zret G hI (by decide) hF rfl dX7_number_84
set_option maxHeartbeats 4000000 in
theorem c_X7_readsWish (hA : AdOk n ad A) (h0 : isX7 n sh 0) {a1 : Int32} {w w' : Mem} {r : Int32} (hF : F_X7_readsWish a1 w = some (r, w')) : Ctr l n sh D cA ad A sa yX7_readsWish cX7_readsWish 6 (some .boolean) 3 63 [.ref (ad 0), .int a1] w (some (.int r)) w' := by
  refine m_enter hA (by decide) (Nat.le_of_ble_eq_true rfl) ?_
  intro p e s m args below meth c ls G hI hl
  replace hl : lv_has ls 6 [(0, .ref (ad 0)), (1, .int a1)] := hl
  replace G : Mx n D cA ad A sa p s m args meth c RX7 cX7_readsWish 6 (some .boolean) := G
  obtain ⟨hx, hb, -, -, hown, hg, -⟩ := id G
  unfold F_X7_readsWish at hF
  refine lv_aload_n hx hb dX7_readsWish_0 rfl (lv_at hl 0 rfl) ?_
  obtain ⟨r2, w1, z3, hF⟩ := bd_some hF
  refine n_Vv (rest := []) G hI (c_X7_skips hA h0 z3) my_X7_skips kl_X7_274 (isX7.lt h0) (isX7.sh h0) rfl ⟨Nat.le_of_ble_eq_true rfl, Nat.le_of_ble_eq_true rfl⟩ rfl hl.1 rfl (Nat.le_of_ble_eq_true rfl) dX7_readsWish_1 (fun H locs hI => ?_)
  refine lv_aload_n hx hb dX7_readsWish_4 rfl (lv_at hl 0 rfl) ?_
  obtain ⟨r5, w4, z6, hF⟩ := bd_some hF
  refine n_Vi (rest := []) G hI (c_X7_here hA h0 z6) my_X7_here kl_X7_268 (isX7.lt h0) (isX7.sh h0) rfl ⟨Nat.le_of_ble_eq_true rfl, Nat.le_of_ble_eq_true rfl⟩ rfl hl.1 rfl (Nat.le_of_ble_eq_true rfl) dX7_readsWish_5 (fun H locs hI => ?_)
  refine lv_istore_n (lv' := [(2, .int r5), (0, .ref (ad 0)), (1, .int a1)]) hx hb dX7_readsWish_8 rfl hl (by decide) rfl (fun ls hl => ?_)
  refine lv_iload_n hx hb dX7_readsWish_9 rfl (lv_at hl 0 rfl) ?_
  refine lv_bipush (v := (117 : Int32)) hx hb dX7_readsWish_10 (by decide) ?_
  refine lv_bipush (v := (119 : Int32)) hx hb dX7_readsWish_12 (by decide) ?_
  obtain ⟨r8, w7, z9, hF⟩ := bd_some hF
  refine n_Si (rest := []) G hI (c_X7_in hA  z9) my_X7_in kl_X7_86 ⟨Nat.le_of_ble_eq_true rfl, Nat.le_of_ble_eq_true rfl⟩ rfl hl.1 rfl (Nat.le_of_ble_eq_true rfl) dX7_readsWish_14 (fun H locs hI => ?_)
  refine lv_if_eq (tgt := 29) hx hb dX7_readsWish_17 (by decide) (fun c64 => ?_) (fun c64 => ?_)
  · replace hF := itp c64 hF
    refine lv_iconst (v := (0 : Int32)) hx hb dX7_readsWish_29 (by decide) ?_
    exact n_zret G hI (by decide) hF rfl dX7_readsWish_30
  · replace hF := itn c64 hF
    refine lv_aload_n hx hb dX7_readsWish_20 rfl (lv_at hl 1 rfl) ?_
    refine gf_X7_280 G hI h0 dX7_readsWish_21 ?_
    refine lv_bipush (v := (12 : Int32)) hx hb dX7_readsWish_24 (by decide) ?_
    refine lv_icmp_ne (tgt := 31) hx hb dX7_readsWish_26 (by decide) (fun c63 => ?_) (fun c63 => ?_)
    · replace hF := itn c63 hF
      refine lv_aload_n hx hb dX7_readsWish_31 rfl (lv_at hl 1 rfl) ?_
      refine lv_dup hx hb dX7_readsWish_32 rfl ?_
      refine gf_X7_265 G hI h0 dX7_readsWish_33 ?_
      refine lv_iconst (v := (1 : Int32)) hx hb dX7_readsWish_36 (by decide) ?_
      refine lv_iadd hx hb dX7_readsWish_37 ?_
      obtain ⟨w10, ew10, hF⟩ := lt_some hF
      refine pf_X7_265 G hI h0 dX7_readsWish_38 (fun H locs hI => ?_)
      replace hI : Iv n sh D cA ad A s.heap w10 H locs := by rw [ew10]; exact hI
      refine lv_iconst (v := (0 : Int32)) hx hb dX7_readsWish_41 (by decide) ?_
      refine lv_istore_n (lv' := [(3, .int (0 : Int32)), (2, .int r5), (0, .ref (ad 0)), (1, .int a1)]) hx hb dX7_readsWish_42 rfl hl (by decide) rfl (fun ls hl => ?_)
      refine lv_aload_n hx hb dX7_readsWish_43 rfl (lv_at hl 2 rfl) ?_
      refine gf_X7_76 G hI h0 dX7_readsWish_44 ?_
      refine lv_sipush (v := (999 : Int32)) hx hb dX7_readsWish_47 (by decide) ?_
      obtain ⟨k11, ek11, hF⟩ := jn_some hF
      have hJ11 : ∀ (x12 : Int32) (H : Heap) (locs : List Loc) (ls : Array Slot), k11 x12 = some (r, w') → Iv n sh D cA ad A s.heap w10 H locs → lv_has ls 6 [(0, .ref (ad 0)), (1, .int a1), (2, .int r5), (3, .int (0 : Int32))] → W p l e ({ frames := 3, cells := 0, slots := 0, locals := 63 } : Room) s m args below meth c H locs 0 0 (QM n sh D cA ad A below args s (some (.int r)) w') (F0 m 63 ls [.int x12]) := by
        intro x12 H locs ls hF hI hl
        replace hF := (congrFun ek11 x12).symm.trans hF
        refine lv_istore (lv' := [(4, .int x12), (0, .ref (ad 0)), (1, .int a1), (2, .int r5), (3, .int (0 : Int32))]) hx hb dX7_readsWish_63 hl (by decide) rfl (fun ls hl => ?_)
        refine lv_aload_n hx hb dX7_readsWish_65 rfl (lv_at hl 1 rfl) ?_
        obtain ⟨r14, w13, z15, hF⟩ := bd_some hF
        refine n_Vv (rest := []) G hI (c_X7_skips hA h0 z15) my_X7_skips kl_X7_274 (isX7.lt h0) (isX7.sh h0) rfl ⟨Nat.le_of_ble_eq_true rfl, Nat.le_of_ble_eq_true rfl⟩ rfl hl.1 rfl (Nat.le_of_ble_eq_true rfl) dX7_readsWish_66 (fun H locs hI => ?_)
        refine lv_aload_n hx hb dX7_readsWish_69 rfl (lv_at hl 1 rfl) ?_
        obtain ⟨r17, w16, z18, hF⟩ := bd_some hF
        refine n_Vi (rest := []) G hI (c_X7_here hA h0 z18) my_X7_here kl_X7_268 (isX7.lt h0) (isX7.sh h0) rfl ⟨Nat.le_of_ble_eq_true rfl, Nat.le_of_ble_eq_true rfl⟩ rfl hl.1 rfl (Nat.le_of_ble_eq_true rfl) dX7_readsWish_70 (fun H locs hI => ?_)
        refine lv_istore (lv' := [(5, .int r17), (4, .int x12), (0, .ref (ad 0)), (1, .int a1), (2, .int r5), (3, .int (0 : Int32))]) hx hb dX7_readsWish_73 hl (by decide) rfl (fun ls hl => ?_)
        refine lv_iload hx hb dX7_readsWish_75 (lv_at hl 0 rfl) ?_
        refine lv_bipush (v := (43 : Int32)) hx hb dX7_readsWish_77 (by decide) ?_
        obtain ⟨k19, ek19, hF⟩ := jn_some hF
        have hJ19 : ∀ (x20 : Int32) (w21 : Mem) (H : Heap) (locs : List Loc) (ls : Array Slot), k19 x20 w21 = some (r, w') → Iv n sh D cA ad A s.heap w21 H locs → lv_has ls 6 [(0, .ref (ad 0)), (1, .int a1), (2, .int r5), (3, .int x20), (4, .int x12)] → W p l e ({ frames := 3, cells := 0, slots := 0, locals := 63 } : Room) s m args below meth c H locs 0 0 (QM n sh D cA ad A below args s (some (.int r)) w') (F0 m 135 ls []) := by
          intro x20 w21 H locs ls hF hI hl
          replace hF := (congrFun (congrFun ek19 x20) w21).symm.trans hF
          refine lv_aload_n hx hb dX7_readsWish_135 rfl (lv_at hl 0 rfl) ?_
          obtain ⟨r23, w22, z24, hF⟩ := bd_some hF
          refine n_Vi (rest := []) G hI (c_X7_here hA h0 z24) my_X7_here kl_X7_268 (isX7.lt h0) (isX7.sh h0) rfl ⟨Nat.le_of_ble_eq_true rfl, Nat.le_of_ble_eq_true rfl⟩ rfl hl.1 rfl (Nat.le_of_ble_eq_true rfl) dX7_readsWish_136 (fun H locs hI => ?_)
          refine lv_bipush (v := (64 : Int32)) hx hb dX7_readsWish_139 (by decide) ?_
          obtain ⟨k25, ek25, hF⟩ := jn_some hF
          have hJ25 : ∀ (x26 : Int32) (w27 : Mem) (H : Heap) (locs : List Loc) (ls : Array Slot), k25 x26 w27 = some (r, w') → Iv n sh D cA ad A s.heap w27 H locs → lv_has ls 6 [(0, .ref (ad 0)), (1, .int a1), (2, .int r5), (3, .int x20), (4, .int x26)] → W p l e ({ frames := 3, cells := 0, slots := 0, locals := 63 } : Room) s m args below meth c H locs 0 0 (QM n sh D cA ad A below args s (some (.int r)) w') (F0 m 176 ls []) := by
            intro x26 w27 H locs ls hF hI hl
            replace hF := (congrFun (congrFun ek25 x26) w27).symm.trans hF
            refine lv_aload_n hx hb dX7_readsWish_176 rfl (lv_at hl 0 rfl) ?_
            obtain ⟨r29, w28, z30, hF⟩ := bd_some hF
            refine n_Vi (rest := []) G hI (c_X7_here hA h0 z30) my_X7_here kl_X7_268 (isX7.lt h0) (isX7.sh h0) rfl ⟨Nat.le_of_ble_eq_true rfl, Nat.le_of_ble_eq_true rfl⟩ rfl hl.1 rfl (Nat.le_of_ble_eq_true rfl) dX7_readsWish_177 (fun H locs hI => ?_)
            refine lv_bipush (v := (59 : Int32)) hx hb dX7_readsWish_180 (by decide) ?_
            refine lv_icmp_eq (tgt := 187) hx hb dX7_readsWish_182 (by decide) (fun c37 => ?_) (fun c37 => ?_)
            · replace hF := itp c37 hF
              refine lv_aload_n hx hb dX7_readsWish_187 rfl (lv_at hl 0 rfl) ?_
              refine lv_dup hx hb dX7_readsWish_188 rfl ?_
              refine gf_X7_265 G hI h0 dX7_readsWish_189 ?_
              refine lv_iconst (v := (1 : Int32)) hx hb dX7_readsWish_192 (by decide) ?_
              refine lv_iadd hx hb dX7_readsWish_193 ?_
              obtain ⟨w31, ew31, hF⟩ := lt_some hF
              refine pf_X7_265 G hI h0 dX7_readsWish_194 (fun H locs hI => ?_)
              replace hI : Iv n sh D cA ad A s.heap w31 H locs := by rw [ew31]; exact hI
              refine lv_aload_n hx hb dX7_readsWish_197 rfl (lv_at hl 0 rfl) ?_
              refine lv_dup hx hb dX7_readsWish_198 rfl ?_
              refine gf_X7_280 G hI h0 dX7_readsWish_199 ?_
              refine lv_iconst (v := (1 : Int32)) hx hb dX7_readsWish_202 (by decide) ?_
              refine lv_iadd hx hb dX7_readsWish_203 ?_
              obtain ⟨w32, ew32, hF⟩ := lt_some hF
              refine pf_X7_280 G hI h0 dX7_readsWish_204 (fun H locs hI => ?_)
              replace hI : Iv n sh D cA ad A s.heap w32 H locs := by rw [ew32]; exact hI
              refine lv_iload_n hx hb dX7_readsWish_207 rfl (lv_at hl 1 rfl) ?_
              refine lv_if_eq (tgt := 222) hx hb dX7_readsWish_208 (by decide) (fun c36 => ?_) (fun c36 => ?_)
              · replace hF := itp c36 hF
                refine lv_iconst (v := (1 : Int32)) hx hb dX7_readsWish_222 (by decide) ?_
                exact n_zret G hI (by decide) hF rfl dX7_readsWish_223
              · replace hF := itn c36 hF
                refine lv_aload_n hx hb dX7_readsWish_211 rfl (lv_at hl 0 rfl) ?_
                refine lv_iload_n hx hb dX7_readsWish_212 rfl (lv_at hl 2 rfl) ?_
                refine lv_bipush (v := (117 : Int32)) hx hb dX7_readsWish_213 (by decide) ?_
                refine lv_isub hx hb dX7_readsWish_215 ?_
                refine lv_iload hx hb dX7_readsWish_216 (lv_at hl 4 rfl) ?_
                refine lv_iload_n hx hb dX7_readsWish_218 rfl (lv_at hl 3 rfl) ?_
                obtain ⟨r34, w33, z35, hF⟩ := bd_some hF
                refine n_Vv (rest := []) G hI (c_X7_comesWish hA h0 z35) my_X7_comesWish kl_X7_224 (isX7.lt h0) (isX7.sh h0) rfl ⟨Nat.le_of_ble_eq_true rfl, Nat.le_of_ble_eq_true rfl⟩ rfl hl.1 rfl (Nat.le_of_ble_eq_true rfl) dX7_readsWish_219 (fun H locs hI => ?_)
                refine lv_iconst (v := (1 : Int32)) hx hb dX7_readsWish_222 (by decide) ?_
                exact n_zret G hI (by decide) hF rfl dX7_readsWish_223
            · replace hF := itn c37 hF
              refine lv_iconst (v := (0 : Int32)) hx hb dX7_readsWish_185 (by decide) ?_
              exact n_zret G hI (by decide) hF rfl dX7_readsWish_186
          refine lv_icmp_ne (tgt := 176) hx hb dX7_readsWish_141 (by decide) (fun c46 => ?_) (fun c46 => ?_)
          · replace hF := itn c46 hF
            exact hJ25 _ _ _ _ _ hF hI (lv_sub hl [0, 1, 2, 3, 4] rfl)
          · replace hF := itp c46 hF
            refine lv_aload_n hx hb dX7_readsWish_144 rfl (lv_at hl 0 rfl) ?_
            refine lv_dup hx hb dX7_readsWish_145 rfl ?_
            refine gf_X7_265 G hI h0 dX7_readsWish_146 ?_
            refine lv_iconst (v := (1 : Int32)) hx hb dX7_readsWish_149 (by decide) ?_
            refine lv_iadd hx hb dX7_readsWish_150 ?_
            obtain ⟨w38, ew38, hF⟩ := lt_some hF
            refine pf_X7_265 G hI h0 dX7_readsWish_151 (fun H locs hI => ?_)
            replace hI : Iv n sh D cA ad A s.heap w38 H locs := by rw [ew38]; exact hI
            refine lv_aload_n hx hb dX7_readsWish_154 rfl (lv_at hl 0 rfl) ?_
            refine lv_sipush (v := (999 : Int32)) hx hb dX7_readsWish_155 (by decide) ?_
            obtain ⟨r40, w39, z41, hF⟩ := bd_some hF
            refine n_Vi (rest := []) G hI (c_X7_number hA h0 z41) my_X7_number kl_X7_283 (isX7.lt h0) (isX7.sh h0) rfl ⟨Nat.le_of_ble_eq_true rfl, Nat.le_of_ble_eq_true rfl⟩ rfl hl.1 rfl (Nat.le_of_ble_eq_true rfl) dX7_readsWish_158 (fun H locs hI => ?_)
            refine lv_if_ne (tgt := 166) hx hb dX7_readsWish_161 (by decide) (fun c45 => ?_) (fun c45 => ?_)
            · replace hF := itn c45 hF
              refine lv_aload_n hx hb dX7_readsWish_166 rfl (lv_at hl 0 rfl) ?_
              refine gf_X7_277 G hI h0 dX7_readsWish_167 ?_
              refine lv_istore (lv' := [(4, .int (w39 0 35)), (0, .ref (ad 0)), (1, .int a1), (2, .int r5), (3, .int x20)]) hx hb dX7_readsWish_170 hl (by decide) rfl (fun ls hl => ?_)
              refine lv_aload_n hx hb dX7_readsWish_172 rfl (lv_at hl 1 rfl) ?_
              obtain ⟨r43, w42, z44, hF⟩ := bd_some hF
              refine n_Vv (rest := []) G hI (c_X7_skips hA h0 z44) my_X7_skips kl_X7_274 (isX7.lt h0) (isX7.sh h0) rfl ⟨Nat.le_of_ble_eq_true rfl, Nat.le_of_ble_eq_true rfl⟩ rfl hl.1 rfl (Nat.le_of_ble_eq_true rfl) dX7_readsWish_173 (fun H locs hI => ?_)
              exact hJ25 _ _ _ _ _ hF hI (lv_sub hl [1, 2, 3, 4, 0] rfl)
            · replace hF := itp c45 hF
              refine lv_iconst (v := (0 : Int32)) hx hb dX7_readsWish_164 (by decide) ?_
              exact n_zret G hI (by decide) hF rfl dX7_readsWish_165
        obtain ⟨k47, ek47, hF⟩ := jn_some hF
        have hJ47 : ∀  (H : Heap) (locs : List Loc) (ls : Array Slot), k47  = some (r, w') → Iv n sh D cA ad A s.heap w16 H locs → lv_has ls 6 [(0, .ref (ad 0)), (1, .int a1), (2, .int r5), (4, .int x12), (5, .int r17)] → W p l e ({ frames := 3, cells := 0, slots := 0, locals := 63 } : Room) s m args below meth c H locs 0 0 (QM n sh D cA ad A below args s (some (.int r)) w') (F0 m 89 ls []) := by
          intro  H locs ls hF hI hl
          replace hF := ek47.symm.trans hF
          refine lv_aload_n hx hb dX7_readsWish_89 rfl (lv_at hl 0 rfl) ?_
          refine lv_dup hx hb dX7_readsWish_90 rfl ?_
          refine gf_X7_265 G hI h0 dX7_readsWish_91 ?_
          refine lv_iconst (v := (1 : Int32)) hx hb dX7_readsWish_94 (by decide) ?_
          refine lv_iadd hx hb dX7_readsWish_95 ?_
          obtain ⟨w48, ew48, hF⟩ := lt_some hF
          refine pf_X7_265 G hI h0 dX7_readsWish_96 (fun H locs hI => ?_)
          replace hI : Iv n sh D cA ad A s.heap w48 H locs := by rw [ew48]; exact hI
          refine lv_aload_n hx hb dX7_readsWish_99 rfl (lv_at hl 0 rfl) ?_
          refine lv_sipush (v := (500 : Int32)) hx hb dX7_readsWish_100 (by decide) ?_
          obtain ⟨r50, w49, z51, hF⟩ := bd_some hF
          refine n_Vi (rest := []) G hI (c_X7_number hA h0 z51) my_X7_number kl_X7_283 (isX7.lt h0) (isX7.sh h0) rfl ⟨Nat.le_of_ble_eq_true rfl, Nat.le_of_ble_eq_true rfl⟩ rfl hl.1 rfl (Nat.le_of_ble_eq_true rfl) dX7_readsWish_103 (fun H locs hI => ?_)
          refine lv_if_ne (tgt := 111) hx hb dX7_readsWish_106 (by decide) (fun c59 => ?_) (fun c59 => ?_)
          · replace hF := itn c59 hF
            refine lv_iload hx hb dX7_readsWish_111 (lv_at hl 4 rfl) ?_
            refine lv_bipush (v := (45 : Int32)) hx hb dX7_readsWish_113 (by decide) ?_
            refine lv_icmp_ne (tgt := 126) hx hb dX7_readsWish_115 (by decide) (fun c58 => ?_) (fun c58 => ?_)
            · replace hF := itn c58 hF
              refine lv_aload_n hx hb dX7_readsWish_126 rfl (lv_at hl 0 rfl) ?_
              refine gf_X7_277 G hI h0 dX7_readsWish_127 ?_
              refine lv_istore_n (lv' := [(3, .int (w49 0 35)), (0, .ref (ad 0)), (1, .int a1), (2, .int r5), (4, .int x12), (5, .int r17)]) hx hb dX7_readsWish_130 rfl hl (by decide) rfl (fun ls hl => ?_)
              refine lv_aload_n hx hb dX7_readsWish_131 rfl (lv_at hl 1 rfl) ?_
              obtain ⟨r53, w52, z54, hF⟩ := bd_some hF
              refine n_Vv (rest := []) G hI (c_X7_skips hA h0 z54) my_X7_skips kl_X7_274 (isX7.lt h0) (isX7.sh h0) rfl ⟨Nat.le_of_ble_eq_true rfl, Nat.le_of_ble_eq_true rfl⟩ rfl hl.1 rfl (Nat.le_of_ble_eq_true rfl) dX7_readsWish_132 (fun H locs hI => ?_)
              exact hJ19 _ _ _ _ _ hF hI (lv_sub hl [1, 2, 3, 0, 4] rfl)
            · replace hF := itp c58 hF
              refine lv_aload_n hx hb dX7_readsWish_118 rfl (lv_at hl 0 rfl) ?_
              refine gf_X7_277 G hI h0 dX7_readsWish_119 ?_
              refine lv_ineg hx hb dX7_readsWish_122 ?_
              refine lv_goto (tgt := 130) hx hb dX7_readsWish_123 (by decide) ?_
              refine lv_istore_n (lv' := [(3, .int (-(w49 0 35))), (0, .ref (ad 0)), (1, .int a1), (2, .int r5), (4, .int x12), (5, .int r17)]) hx hb dX7_readsWish_130 rfl hl (by decide) rfl (fun ls hl => ?_)
              refine lv_aload_n hx hb dX7_readsWish_131 rfl (lv_at hl 1 rfl) ?_
              obtain ⟨r56, w55, z57, hF⟩ := bd_some hF
              refine n_Vv (rest := []) G hI (c_X7_skips hA h0 z57) my_X7_skips kl_X7_274 (isX7.lt h0) (isX7.sh h0) rfl ⟨Nat.le_of_ble_eq_true rfl, Nat.le_of_ble_eq_true rfl⟩ rfl hl.1 rfl (Nat.le_of_ble_eq_true rfl) dX7_readsWish_132 (fun H locs hI => ?_)
              exact hJ19 _ _ _ _ _ hF hI (lv_sub hl [1, 2, 3, 0, 4] rfl)
          · replace hF := itp c59 hF
            refine lv_iconst (v := (0 : Int32)) hx hb dX7_readsWish_109 (by decide) ?_
            exact n_zret G hI (by decide) hF rfl dX7_readsWish_110
        refine lv_icmp_eq (tgt := 89) hx hb dX7_readsWish_79 (by decide) (fun c61 => ?_) (fun c61 => ?_)
        · replace hF := itp c61 hF
          exact hJ47  _ _ _ hF hI (lv_sub hl [2, 3, 4, 1, 0] rfl)
        · replace hF := itn c61 hF
          refine lv_iload hx hb dX7_readsWish_82 (lv_at hl 0 rfl) ?_
          refine lv_bipush (v := (45 : Int32)) hx hb dX7_readsWish_84 (by decide) ?_
          refine lv_icmp_ne (tgt := 135) hx hb dX7_readsWish_86 (by decide) (fun c60 => ?_) (fun c60 => ?_)
          · replace hF := itn c60 hF
            exact hJ19 _ _ _ _ _ hF hI (lv_sub hl [2, 3, 4, 5, 1] rfl)
          · replace hF := itp c60 hF
            exact hJ47  _ _ _ hF hI (lv_sub hl [2, 3, 4, 1, 0] rfl)
      refine lv_icmp_ge (tgt := 60) hx hb dX7_readsWish_50 (by decide) (fun c62 => ?_) (fun c62 => ?_)
      · replace hF := itp c62 hF
        refine lv_sipush (v := (999 : Int32)) hx hb dX7_readsWish_60 (by decide) ?_
        exact hJ11 _ _ _ _ hF hI (lv_sub hl [2, 3, 1, 0] rfl)
      · replace hF := itn c62 hF
        refine lv_aload_n hx hb dX7_readsWish_53 rfl (lv_at hl 2 rfl) ?_
        refine gf_X7_76 G hI h0 dX7_readsWish_54 ?_
        refine lv_goto (tgt := 63) hx hb dX7_readsWish_57 (by decide) ?_
        exact hJ11 _ _ _ _ hF hI (lv_sub hl [2, 3, 1, 0] rfl)
    · replace hF := itp c63 hF
      refine lv_iconst (v := (0 : Int32)) hx hb dX7_readsWish_29 (by decide) ?_
      exact n_zret G hI (by decide) hF rfl dX7_readsWish_30
set_option maxHeartbeats 4000000 in
theorem l_X7_goesThrough_38 {p : Program} {e : Env} {s : State} {m : MethodId} {args : Array Value} {below : List Frame} {meth : Method} {c : Code} (G : Mx n D cA ad A sa p s m args meth c RX7 cX7_goesThrough 3 (some .int)) {a1 : Int32} (h0 : isX7 n sh 0) {k : Int32 → Mem → Option (Int32 × Mem)} {r : Int32} {w' : Mem}
    (hk : ∀ (v2 : Int32) (w : Mem) (H : Heap) (locs : List Loc) (ls : Array Slot), k v2 w = some (r, w') → Iv n sh D cA ad A s.heap w H locs → lv_has ls 3 [(2, .int v2)] → W p l e ({ frames := 4, cells := 0, slots := 0, locals := 88 } : Room) s m args below meth c H locs 0 0 (QM n sh D cA ad A below args s (some (.int r)) w') (F0 m 75 ls [])) :
    ∀ (N : Nat) (v2 : Int32) (w : Mem) (H : Heap) (locs : List Loc) (ls : Array Slot), L_X7_goesThrough_38 a1 k N v2 w = some (r, w') → Iv n sh D cA ad A s.heap w H locs → lv_has ls 3 [(0, .ref (ad 0)), (1, .int a1), (2, .int v2)] → W p l e ({ frames := 4, cells := 0, slots := 0, locals := 88 } : Room) s m args below meth c H locs 0 0 (QM n sh D cA ad A below args s (some (.int r)) w') (F0 m 38 ls []) := by
  obtain ⟨hx, hb, -, -, hown, hg, -, -, -, -, hA⟩ := id G
  intro N
  induction N with
  | zero =>
    intro v2 w H locs ls hF hI hl
    cases hF
  | succ N ih =>
    intro v2 w H locs ls hF hI hl
    rw [L_X7_goesThrough_38] at hF
    refine lv_aload_n hx hb dX7_goesThrough_38 rfl (lv_at hl 0 rfl) ?_
    refine gf_X7_265 G hI h0 dX7_goesThrough_39 ?_
    refine lv_aload_n hx hb dX7_goesThrough_42 rfl (lv_at hl 0 rfl) ?_
    refine gf_X7_262 G hI h0 dX7_goesThrough_43 ?_
    refine lv_icmp_ge (tgt := 75) hx hb dX7_goesThrough_46 (by decide) (fun c13 => ?_) (fun c13 => ?_)
    · replace hF := itp c13 hF
      exact hk _ _ _ _ _ hF hI (lv_sub hl [2] rfl)
    · replace hF := itn c13 hF
      refine lv_aload_n hx hb dX7_goesThrough_49 rfl (lv_at hl 0 rfl) ?_
      refine lv_iload_n hx hb dX7_goesThrough_50 rfl (lv_at hl 1 rfl) ?_
      obtain ⟨r7, w6, z8, hF⟩ := bd_some hF
      refine n_Vi (rest := []) G hI (c_X7_readsWish hA h0 z8) my_X7_readsWish kl_X7_286 (isX7.lt h0) (isX7.sh h0) rfl ⟨Nat.le_of_ble_eq_true rfl, Nat.le_of_ble_eq_true rfl⟩ rfl hl.1 rfl (Nat.le_of_ble_eq_true rfl) dX7_goesThrough_51 (fun H locs hI => ?_)
      refine lv_if_ne (tgt := 65) hx hb dX7_goesThrough_54 (by decide) (fun c12 => ?_) (fun c12 => ?_)
      · replace hF := itn c12 hF
        refine lv_iinc (v := (v2 + (1 : Int32))) (lv' := [(2, .int (v2 + (1 : Int32))), (0, .ref (ad 0)), (1, .int a1)]) hx hb dX7_goesThrough_65 hl (k := 2) rfl rfl (by decide) rfl (fun ls hl => ?_)
        refine lv_aload_n hx hb dX7_goesThrough_68 rfl (lv_at hl 1 rfl) ?_
        obtain ⟨r10, w9, z11, hF⟩ := bd_some hF
        refine n_Vv (rest := []) G hI (c_X7_skips hA h0 z11) my_X7_skips kl_X7_274 (isX7.lt h0) (isX7.sh h0) rfl ⟨Nat.le_of_ble_eq_true rfl, Nat.le_of_ble_eq_true rfl⟩ rfl hl.1 rfl (Nat.le_of_ble_eq_true rfl) dX7_goesThrough_69 (fun H locs hI => ?_)
        refine lv_goto (tgt := 38) hx hb dX7_goesThrough_72 (by decide) ?_
        exact ih _ _ _ _ _ hF hI (lv_sub hl [1, 2, 0] rfl)
      · replace hF := itp c12 hF
        refine lv_bipush (v := (-10 : Int32)) hx hb dX7_goesThrough_57 (by decide) ?_
        refine lv_aload_n hx hb dX7_goesThrough_59 rfl (lv_at hl 0 rfl) ?_
        refine gf_X7_271 G hI h0 dX7_goesThrough_60 ?_
        refine lv_isub hx hb dX7_goesThrough_63 ?_
        exact n_iret G hI hF rfl dX7_goesThrough_64
set_option maxHeartbeats 4000000 in
theorem c_X7_goesThrough (hA : AdOk n ad A) (h0 : isX7 n sh 0) {a1 : Int32} {w w' : Mem} {r : Int32} (hF : F_X7_goesThrough a1 w = some (r, w')) : Ctr l n sh D cA ad A sa yX7_goesThrough cX7_goesThrough 3 (some .int) 4 88 [.ref (ad 0), .int a1] w (some (.int r)) w' := by
  refine m_enter hA (by decide) (Nat.le_of_ble_eq_true rfl) ?_
  intro p e s m args below meth c ls G hI hl
  replace hl : lv_has ls 3 [(0, .ref (ad 0)), (1, .int a1)] := hl
  replace G : Mx n D cA ad A sa p s m args meth c RX7 cX7_goesThrough 3 (some .int) := G
  obtain ⟨hx, hb, -, -, hown, hg, -⟩ := id G
  unfold F_X7_goesThrough at hF
  refine lv_aload_n hx hb dX7_goesThrough_0 rfl (lv_at hl 0 rfl) ?_
  refine lv_iconst (v := (0 : Int32)) hx hb dX7_goesThrough_1 (by decide) ?_
  obtain ⟨w1, ew1, hF⟩ := lt_some hF
  refine pf_X7_265 G hI h0 dX7_goesThrough_2 (fun H locs hI => ?_)
  replace hI : Iv n sh D cA ad A s.heap w1 H locs := by rw [ew1]; exact hI
  refine lv_aload_n hx hb dX7_goesThrough_5 rfl (lv_at hl 0 rfl) ?_
  refine lv_aload_n hx hb dX7_goesThrough_6 rfl (lv_at hl 0 rfl) ?_
  refine gf_X7_80 G hI h0 dX7_goesThrough_7 ?_
  obtain ⟨w2, ew2, hF⟩ := lt_some hF
  refine pf_X7_280 G hI h0 dX7_goesThrough_10 (fun H locs hI => ?_)
  replace hI : Iv n sh D cA ad A s.heap w2 H locs := by rw [ew2]; exact hI
  refine lv_iconst (v := (0 : Int32)) hx hb dX7_goesThrough_13 (by decide) ?_
  refine lv_istore_n (lv' := [(2, .int (0 : Int32)), (0, .ref (ad 0)), (1, .int a1)]) hx hb dX7_goesThrough_14 rfl hl (by decide) rfl (fun ls hl => ?_)
  refine lv_aload_n hx hb dX7_goesThrough_15 rfl (lv_at hl 1 rfl) ?_
  obtain ⟨r4, w3, z5, hF⟩ := bd_some hF
  refine n_Vv (rest := []) G hI (c_X7_skips hA h0 z5) my_X7_skips kl_X7_274 (isX7.lt h0) (isX7.sh h0) rfl ⟨Nat.le_of_ble_eq_true rfl, Nat.le_of_ble_eq_true rfl⟩ rfl hl.1 rfl (Nat.le_of_ble_eq_true rfl) dX7_goesThrough_16 (fun H locs hI => ?_)
  refine lv_aload_n hx hb dX7_goesThrough_19 rfl (lv_at hl 1 rfl) ?_
  refine gf_X7_265 G hI h0 dX7_goesThrough_20 ?_
  refine lv_aload_n hx hb dX7_goesThrough_23 rfl (lv_at hl 1 rfl) ?_
  refine gf_X7_262 G hI h0 dX7_goesThrough_24 ?_
  refine lv_icmp_ne (tgt := 38) hx hb dX7_goesThrough_27 (by decide) (fun c16 => ?_) (fun c16 => ?_)
  · replace hF := itn c16 hF
    refine l_X7_goesThrough_38 G h0 (fun x15 w14 H locs ls hF hI hl => ?_) _ _ _ _ _ _ hF hI (lv_sub hl [1, 2, 0] rfl)
    refine lv_iload_n hx hb dX7_goesThrough_75 rfl (lv_at hl 0 rfl) ?_
    exact n_iret G hI hF rfl dX7_goesThrough_76
  · replace hF := itp c16 hF
    refine lv_bipush (v := (-10 : Int32)) hx hb dX7_goesThrough_30 (by decide) ?_
    refine lv_aload_n hx hb dX7_goesThrough_32 rfl (lv_at hl 1 rfl) ?_
    refine gf_X7_262 G hI h0 dX7_goesThrough_33 ?_
    refine lv_isub hx hb dX7_goesThrough_36 ?_
    exact n_iret G hI hF rfl dX7_goesThrough_37
set_option maxHeartbeats 4000000 in
theorem c_X7_reads (hA : AdOk n ad A) (h0 : isX7 n sh 0) {w w' : Mem} {r : Int32} (hF : F_X7_reads  w = some (r, w')) : Ctr l n sh D cA ad A sa yX7_reads cX7_reads 2 (some .int) 5 110 [.ref (ad 0)] w (some (.int r)) w' := by
  refine m_enter hA (by decide) (Nat.le_of_ble_eq_true rfl) ?_
  intro p e s m args below meth c ls G hI hl
  replace hl : lv_has ls 2 [(0, .ref (ad 0))] := hl
  replace G : Mx n D cA ad A sa p s m args meth c RX7 cX7_reads 2 (some .int) := G
  obtain ⟨hx, hb, -, -, hown, hg, -⟩ := id G
  unfold F_X7_reads at hF
  refine lv_aload_n hx hb dX7_reads_0 rfl (lv_at hl 0 rfl) ?_
  refine lv_iconst (v := (0 : Int32)) hx hb dX7_reads_1 (by decide) ?_
  obtain ⟨r2, w1, z3, hF⟩ := bd_some hF
  refine n_Vi (rest := []) G hI (c_X7_goesThrough hA h0 z3) my_X7_goesThrough kl_X7_290 (isX7.lt h0) (isX7.sh h0) rfl ⟨Nat.le_of_ble_eq_true rfl, Nat.le_of_ble_eq_true rfl⟩ rfl hl.1 rfl (Nat.le_of_ble_eq_true rfl) dX7_reads_2 (fun H locs hI => ?_)
  refine lv_istore_n (lv' := [(1, .int r2), (0, .ref (ad 0))]) hx hb dX7_reads_5 rfl hl (by decide) rfl (fun ls hl => ?_)
  refine lv_iload_n hx hb dX7_reads_6 rfl (lv_at hl 0 rfl) ?_
  refine lv_if_ge (tgt := 14) hx hb dX7_reads_7 (by decide) (fun c7 => ?_) (fun c7 => ?_)
  · replace hF := itp c7 hF
    refine lv_aload_n hx hb dX7_reads_14 rfl (lv_at hl 1 rfl) ?_
    refine lv_iconst (v := (1 : Int32)) hx hb dX7_reads_15 (by decide) ?_
    obtain ⟨r5, w4, z6, hF⟩ := bd_some hF
    refine n_Vi (rest := []) G hI (c_X7_goesThrough hA h0 z6) my_X7_goesThrough kl_X7_290 (isX7.lt h0) (isX7.sh h0) rfl ⟨Nat.le_of_ble_eq_true rfl, Nat.le_of_ble_eq_true rfl⟩ rfl hl.1 rfl (Nat.le_of_ble_eq_true rfl) dX7_reads_16 (fun H locs hI => ?_)
    exact n_iret G hI hF rfl dX7_reads_19
  · replace hF := itn c7 hF
    refine lv_iload_n hx hb dX7_reads_10 rfl (lv_at hl 0 rfl) ?_
    refine lv_goto (tgt := 19) hx hb dX7_reads_11 (by decide) ?_
    exact n_iret G hI hF rfl dX7_reads_19
set_option maxHeartbeats 4000000 in
theorem c_X7_countBy (hA : AdOk n ad A) (h0 : isX7 n sh 0) {a1 : Int32} {w w' : Mem} {r : Int32} (hF : F_X7_countBy a1 w = some (r, w')) : Ctr l n sh D cA ad A sa yX7_countBy cX7_countBy 2 (some .int) 0 0 [.ref (ad 0), .int a1] w (some (.int r)) w' := by
  refine m_enter hA (by decide) (Nat.le_of_ble_eq_true rfl) ?_
  intro p e s m args below meth c ls G hI hl
  replace hl : lv_has ls 2 [(0, .ref (ad 0)), (1, .int a1)] := hl
  replace G : Mx n D cA ad A sa p s m args meth c RX7 cX7_countBy 2 (some .int) := G
  obtain ⟨hx, hb, -, -, hown, hg, -⟩ := id G
  unfold F_X7_countBy at hF
  refine lv_iload_n hx hb dX7_countBy_0 rfl (lv_at hl 1 rfl) ?_
  refine lv_iconst (v := (3 : Int32)) hx hb dX7_countBy_1 (by decide) ?_
  refine lv_icmp_ge (tgt := 14) hx hb dX7_countBy_2 (by decide) (fun c6 => ?_) (fun c6 => ?_)
  · replace hF := itp c6 hF
    refine lv_iload_n hx hb dX7_countBy_14 rfl (lv_at hl 1 rfl) ?_
    refine lv_iconst (v := (3 : Int32)) hx hb dX7_countBy_15 (by decide) ?_
    refine lv_icmp_ne (tgt := 26) hx hb dX7_countBy_16 (by decide) (fun c4 => ?_) (fun c4 => ?_)
    · replace hF := itn c4 hF
      refine lv_iload_n hx hb dX7_countBy_26 rfl (lv_at hl 1 rfl) ?_
      refine lv_iconst (v := (4 : Int32)) hx hb dX7_countBy_27 (by decide) ?_
      refine lv_icmp_ne (tgt := 38) hx hb dX7_countBy_28 (by decide) (fun c3 => ?_) (fun c3 => ?_)
      · replace hF := itn c3 hF
        refine lv_iload_n hx hb dX7_countBy_38 rfl (lv_at hl 1 rfl) ?_
        refine lv_bipush (v := (12 : Int32)) hx hb dX7_countBy_39 (by decide) ?_
        refine lv_icmp_ne (tgt := 51) hx hb dX7_countBy_41 (by decide) (fun c2 => ?_) (fun c2 => ?_)
        · replace hF := itn c2 hF
          refine lv_aload_n hx hb dX7_countBy_51 rfl (lv_at hl 0 rfl) ?_
          refine gf_X7_13 G hI h0 dX7_countBy_52 ?_
          refine lv_iload_n hx hb dX7_countBy_55 rfl (lv_at hl 1 rfl) ?_
          refine lv_iconst (v := (5 : Int32)) hx hb dX7_countBy_56 (by decide) ?_
          refine lv_isub hx hb dX7_countBy_57 ?_
          obtain ⟨g1, hF⟩ := gd_some hF
          refine n_ald G hI (isX7.told h0) g1 dX7_countBy_58 ?_
          exact n_iret G hI hF rfl dX7_countBy_59
        · replace hF := itp c2 hF
          refine lv_aload_n hx hb dX7_countBy_44 rfl (lv_at hl 0 rfl) ?_
          refine gf_X7_262 G hI h0 dX7_countBy_45 ?_
          refine lv_goto (tgt := 59) hx hb dX7_countBy_48 (by decide) ?_
          exact n_iret G hI hF rfl dX7_countBy_59
      · replace hF := itp c3 hF
        refine lv_aload_n hx hb dX7_countBy_31 rfl (lv_at hl 0 rfl) ?_
        refine gf_X7_80 G hI h0 dX7_countBy_32 ?_
        refine lv_goto (tgt := 59) hx hb dX7_countBy_35 (by decide) ?_
        exact n_iret G hI hF rfl dX7_countBy_59
    · replace hF := itp c4 hF
      refine lv_aload_n hx hb dX7_countBy_19 rfl (lv_at hl 0 rfl) ?_
      refine gf_X7_76 G hI h0 dX7_countBy_20 ?_
      refine lv_goto (tgt := 59) hx hb dX7_countBy_23 (by decide) ?_
      exact n_iret G hI hF rfl dX7_countBy_59
  · replace hF := itn c6 hF
    refine lv_aload_n hx hb dX7_countBy_5 rfl (lv_at hl 0 rfl) ?_
    refine gf_X7_1 G hI h0 dX7_countBy_6 ?_
    refine lv_iload_n hx hb dX7_countBy_9 rfl (lv_at hl 1 rfl) ?_
    obtain ⟨g5, hF⟩ := gd_some hF
    refine n_ald G hI (isX7.refused h0) g5 dX7_countBy_10 ?_
    refine lv_goto (tgt := 59) hx hb dX7_countBy_11 (by decide) ?_
    exact n_iret G hI hF rfl dX7_countBy_59
set_option maxHeartbeats 4000000 in
theorem c_X7_count (hA : AdOk n ad A) (h0 : isX7 n sh 0) {a1 : Int32} {w w' : Mem} {r : Int32} (hF : F_X7_count a1 w = some (r, w')) : Ctr l n sh D cA ad A sa yX7_count cX7_count 2 (some .int) 1 22 [.ref (ad 0), .int a1] w (some (.int r)) w' := by
  refine m_enter hA (by decide) (Nat.le_of_ble_eq_true rfl) ?_
  intro p e s m args below meth c ls G hI hl
  replace hl : lv_has ls 2 [(0, .ref (ad 0)), (1, .int a1)] := hl
  replace G : Mx n D cA ad A sa p s m args meth c RX7 cX7_count 2 (some .int) := G
  obtain ⟨hx, hb, -, -, hown, hg, -⟩ := id G
  unfold F_X7_count at hF
  refine lv_iload_n hx hb dX7_count_0 rfl (lv_at hl 1 rfl) ?_
  refine lv_iconst (v := (0 : Int32)) hx hb dX7_count_1 (by decide) ?_
  refine lv_bipush (v := (12 : Int32)) hx hb dX7_count_2 (by decide) ?_
  obtain ⟨r2, w1, z3, hF⟩ := bd_some hF
  refine n_Si (rest := []) G hI (c_X7_in hA  z3) my_X7_in kl_X7_86 ⟨Nat.le_of_ble_eq_true rfl, Nat.le_of_ble_eq_true rfl⟩ rfl hl.1 rfl (Nat.le_of_ble_eq_true rfl) dX7_count_4 (fun H locs hI => ?_)
  refine lv_if_eq (tgt := 18) hx hb dX7_count_7 (by decide) (fun c10 => ?_) (fun c10 => ?_)
  · replace hF := itp c10 hF
    refine lv_aload_n hx hb dX7_count_18 rfl (lv_at hl 0 rfl) ?_
    obtain ⟨r5, w4, z6, hF⟩ := bd_some hF
    refine n_Vi (rest := []) G hI (c_X7_bad hA h0 z6) my_X7_bad kl_X7_94 (isX7.lt h0) (isX7.sh h0) rfl ⟨Nat.le_of_ble_eq_true rfl, Nat.le_of_ble_eq_true rfl⟩ rfl hl.1 rfl (Nat.le_of_ble_eq_true rfl) dX7_count_19 (fun H locs hI => ?_)
    exact n_iret G hI hF rfl dX7_count_22
  · replace hF := itn c10 hF
    refine lv_aload_n hx hb dX7_count_10 rfl (lv_at hl 0 rfl) ?_
    refine lv_iload_n hx hb dX7_count_11 rfl (lv_at hl 1 rfl) ?_
    obtain ⟨r8, w7, z9, hF⟩ := bd_some hF
    refine n_Vi (rest := []) G hI (c_X7_countBy hA h0 z9) my_X7_countBy kl_X7_294 (isX7.lt h0) (isX7.sh h0) rfl ⟨Nat.le_of_ble_eq_true rfl, Nat.le_of_ble_eq_true rfl⟩ rfl hl.1 rfl (Nat.le_of_ble_eq_true rfl) dX7_count_12 (fun H locs hI => ?_)
    refine lv_goto (tgt := 22) hx hb dX7_count_15 (by decide) ?_
    exact n_iret G hI hF rfl dX7_count_22
set_option maxHeartbeats 4000000 in
theorem l_X7_digest_6 {p : Program} {e : Env} {s : State} {m : MethodId} {args : Array Value} {below : List Frame} {meth : Method} {c : Code} (G : Mx n D cA ad A sa p s m args meth c RX7 cX7_digest 5 (some .long))  (h0 : isX7 n sh 0) {k : Int64 → Mem → Option (Int64 × Mem)} {r : Int64} {w' : Mem}
    (hk : ∀ (v1 : Int64) (w : Mem) (H : Heap) (locs : List Loc) (ls : Array Slot), k v1 w = some (r, w') → Iv n sh D cA ad A s.heap w H locs → lv_has ls 5 [(0, .ref (ad 0)), (1, .long v1)] → W p l e ({ frames := 5, cells := 0, slots := 0, locals := 118 } : Room) s m args below meth c H locs 0 0 (QM n sh D cA ad A below args s (some (.long r)) w') (F0 m 31 ls [])) :
    ∀ (N : Nat) (v1 : Int64) (v3 : Int32) (w : Mem) (H : Heap) (locs : List Loc) (ls : Array Slot), L_X7_digest_6  k N v1 v3 w = some (r, w') → Iv n sh D cA ad A s.heap w H locs → lv_has ls 5 [(0, .ref (ad 0)), (1, .long v1), (3, .int v3)] → W p l e ({ frames := 5, cells := 0, slots := 0, locals := 118 } : Room) s m args below meth c H locs 0 0 (QM n sh D cA ad A below args s (some (.long r)) w') (F0 m 6 ls []) := by
  obtain ⟨hx, hb, -, -, hown, hg, -, -, -, -, hA⟩ := id G
  intro N
  induction N with
  | zero =>
    intro v1 v3 w H locs ls hF hI hl
    cases hF
  | succ N ih =>
    intro v1 v3 w H locs ls hF hI hl
    rw [L_X7_digest_6] at hF
    refine lv_iload_n hx hb dX7_digest_6 rfl (lv_at hl 2 rfl) ?_
    refine lv_bipush (v := (13 : Int32)) hx hb dX7_digest_7 (by decide) ?_
    refine lv_icmp_ge (tgt := 31) hx hb dX7_digest_9 (by decide) (fun c5 => ?_) (fun c5 => ?_)
    · replace hF := itp c5 hF
      exact hk _ _ _ _ _ hF hI (lv_sub hl [0, 1] rfl)
    · replace hF := itn c5 hF
      refine lv_ldc2 hx hb hown (hg _ kc_X7_299) dX7_digest_12 ?_
      refine lv_lload_n hx hb dX7_digest_15 rfl (lv_at hl 1 rfl) ?_
      refine lv_lmul hx hb dX7_digest_16 ?_
      refine lv_aload_n hx hb dX7_digest_17 rfl (lv_at hl 0 rfl) ?_
      refine lv_iload_n hx hb dX7_digest_18 rfl (lv_at hl 2 rfl) ?_
      obtain ⟨r2, w1, z3, hF⟩ := bd_some hF
      refine n_Vi (rest := [.long ((31 : Int64) * v1)]) G hI (c_X7_countBy hA h0 z3) my_X7_countBy kl_X7_294 (isX7.lt h0) (isX7.sh h0) rfl ⟨Nat.le_of_ble_eq_true rfl, Nat.le_of_ble_eq_true rfl⟩ rfl hl.1 rfl (Nat.le_of_ble_eq_true rfl) dX7_digest_19 (fun H locs hI => ?_)
      refine lv_i2l hx hb dX7_digest_22 rfl ?_
      refine lv_ladd hx hb dX7_digest_23 ?_
      obtain ⟨x4, ex4, hF⟩ := lt_some hF
      refine W.eq (g2 := F0 m 24 ls [.long x4]) (by rw [ex4]) ?_
      refine lv_lstore_n (lv' := [(1, .long x4), (0, .ref (ad 0)), (3, .int v3)]) hx hb dX7_digest_24 rfl hl (by decide) rfl (fun ls hl => ?_)
      refine lv_iinc (v := (v3 + (1 : Int32))) (lv' := [(3, .int (v3 + (1 : Int32))), (1, .long x4), (0, .ref (ad 0))]) hx hb dX7_digest_25 hl (k := 2) rfl rfl (by decide) rfl (fun ls hl => ?_)
      refine lv_goto (tgt := 6) hx hb dX7_digest_28 (by decide) ?_
      exact ih _ _ _ _ _ _ hF hI (lv_sub hl [2, 1, 0] rfl)
set_option maxHeartbeats 4000000 in
theorem l_X7_digest_41 {p : Program} {e : Env} {s : State} {m : MethodId} {args : Array Value} {below : List Frame} {meth : Method} {c : Code} (G : Mx n D cA ad A sa p s m args meth c RX7 cX7_digest 5 (some .long)) {a3 : Int32} (h0 : isX7 n sh 0) {k : Int64 → Mem → Option (Int64 × Mem)} {r : Int64} {w' : Mem}
    (hk : ∀ (v1 : Int64) (w : Mem) (H : Heap) (locs : List Loc) (ls : Array Slot), k v1 w = some (r, w') → Iv n sh D cA ad A s.heap w H locs → lv_has ls 5 [(0, .ref (ad 0)), (1, .long v1), (3, .int a3)] → W p l e ({ frames := 5, cells := 0, slots := 0, locals := 118 } : Room) s m args below meth c H locs 0 0 (QM n sh D cA ad A below args s (some (.long r)) w') (F0 m 68 ls [])) :
    ∀ (N : Nat) (v1 : Int64) (v4 : Int32) (w : Mem) (H : Heap) (locs : List Loc) (ls : Array Slot), L_X7_digest_41 a3 k N v1 v4 w = some (r, w') → Iv n sh D cA ad A s.heap w H locs → lv_has ls 5 [(0, .ref (ad 0)), (1, .long v1), (3, .int a3), (4, .int v4)] → W p l e ({ frames := 5, cells := 0, slots := 0, locals := 118 } : Room) s m args below meth c H locs 0 0 (QM n sh D cA ad A below args s (some (.long r)) w') (F0 m 41 ls []) := by
  obtain ⟨hx, hb, -, -, hown, hg, -, -, -, -, hA⟩ := id G
  intro N
  induction N with
  | zero =>
    intro v1 v4 w H locs ls hF hI hl
    cases hF
  | succ N ih =>
    intro v1 v4 w H locs ls hF hI hl
    rw [L_X7_digest_41] at hF
    refine lv_iload hx hb dX7_digest_41 (lv_at hl 3 rfl) ?_
    refine lv_iconst (v := (4 : Int32)) hx hb dX7_digest_43 (by decide) ?_
    refine lv_icmp_ge (tgt := 68) hx hb dX7_digest_44 (by decide) (fun c12 => ?_) (fun c12 => ?_)
    · replace hF := itp c12 hF
      exact hk _ _ _ _ _ hF hI (lv_sub hl [0, 1, 2] rfl)
    · replace hF := itn c12 hF
      refine lv_ldc2 hx hb hown (hg _ kc_X7_299) dX7_digest_47 ?_
      refine lv_lload_n hx hb dX7_digest_50 rfl (lv_at hl 1 rfl) ?_
      refine lv_lmul hx hb dX7_digest_51 ?_
      refine lv_aload_n hx hb dX7_digest_52 rfl (lv_at hl 0 rfl) ?_
      refine lv_iload_n hx hb dX7_digest_53 rfl (lv_at hl 2 rfl) ?_
      refine lv_iload hx hb dX7_digest_54 (lv_at hl 3 rfl) ?_
      obtain ⟨r9, w8, z10, hF⟩ := bd_some hF
      refine n_Vi (rest := [.long ((31 : Int64) * v1)]) G hI (c_X7_stateBy hA h0 z10) my_X7_stateBy kl_X7_259 (isX7.lt h0) (isX7.sh h0) rfl ⟨Nat.le_of_ble_eq_true rfl, Nat.le_of_ble_eq_true rfl⟩ rfl hl.1 rfl (Nat.le_of_ble_eq_true rfl) dX7_digest_56 (fun H locs hI => ?_)
      refine lv_i2l hx hb dX7_digest_59 rfl ?_
      refine lv_ladd hx hb dX7_digest_60 ?_
      obtain ⟨x11, ex11, hF⟩ := lt_some hF
      refine W.eq (g2 := F0 m 61 ls [.long x11]) (by rw [ex11]) ?_
      refine lv_lstore_n (lv' := [(1, .long x11), (0, .ref (ad 0)), (3, .int a3), (4, .int v4)]) hx hb dX7_digest_61 rfl hl (by decide) rfl (fun ls hl => ?_)
      refine lv_iinc (v := (v4 + (1 : Int32))) (lv' := [(4, .int (v4 + (1 : Int32))), (1, .long x11), (0, .ref (ad 0)), (3, .int a3)]) hx hb dX7_digest_62 hl (k := 3) rfl rfl (by decide) rfl (fun ls hl => ?_)
      refine lv_goto (tgt := 41) hx hb dX7_digest_65 (by decide) ?_
      exact ih _ _ _ _ _ _ hF hI (lv_sub hl [2, 1, 3, 0] rfl)
set_option maxHeartbeats 4000000 in
theorem l_X7_digest_33 {p : Program} {e : Env} {s : State} {m : MethodId} {args : Array Value} {below : List Frame} {meth : Method} {c : Code} (G : Mx n D cA ad A sa p s m args meth c RX7 cX7_digest 5 (some .long))  (h0 : isX7 n sh 0) {k : Int64 → Mem → Option (Int64 × Mem)} {r : Int64} {w' : Mem}
    (hk : ∀ (v1 : Int64) (w : Mem) (H : Heap) (locs : List Loc) (ls : Array Slot), k v1 w = some (r, w') → Iv n sh D cA ad A s.heap w H locs → lv_has ls 5 [(0, .ref (ad 0)), (1, .long v1)] → W p l e ({ frames := 5, cells := 0, slots := 0, locals := 118 } : Room) s m args below meth c H locs 0 0 (QM n sh D cA ad A below args s (some (.long r)) w') (F0 m 102 ls [])) :
    ∀ (N : Nat) (v1 : Int64) (v3 : Int32) (w : Mem) (H : Heap) (locs : List Loc) (ls : Array Slot), L_X7_digest_33  k N v1 v3 w = some (r, w') → Iv n sh D cA ad A s.heap w H locs → lv_has ls 5 [(0, .ref (ad 0)), (1, .long v1), (3, .int v3)] → W p l e ({ frames := 5, cells := 0, slots := 0, locals := 118 } : Room) s m args below meth c H locs 0 0 (QM n sh D cA ad A below args s (some (.long r)) w') (F0 m 33 ls []) := by
  obtain ⟨hx, hb, -, -, hown, hg, -, -, -, -, hA⟩ := id G
  intro N
  induction N with
  | zero =>
    intro v1 v3 w H locs ls hF hI hl
    cases hF
  | succ N ih =>
    intro v1 v3 w H locs ls hF hI hl
    rw [L_X7_digest_33] at hF
    refine lv_iload_n hx hb dX7_digest_33 rfl (lv_at hl 2 rfl) ?_
    refine lv_iconst (v := (3 : Int32)) hx hb dX7_digest_34 (by decide) ?_
    refine lv_icmp_ge (tgt := 102) hx hb dX7_digest_35 (by decide) (fun c23 => ?_) (fun c23 => ?_)
    · replace hF := itp c23 hF
      exact hk _ _ _ _ _ hF hI (lv_sub hl [0, 1] rfl)
    · replace hF := itn c23 hF
      refine lv_iconst (v := (0 : Int32)) hx hb dX7_digest_38 (by decide) ?_
      refine lv_istore (lv' := [(4, .int (0 : Int32)), (0, .ref (ad 0)), (1, .long v1), (3, .int v3)]) hx hb dX7_digest_39 hl (by decide) rfl (fun ls hl => ?_)
      refine l_X7_digest_41 G h0 (fun x14 w13 H locs ls hF hI hl => ?_) _ _ _ _ _ _ _ hF hI (lv_sub hl [1, 2, 3, 0] rfl)
      refine lv_ldc2 hx hb hown (hg _ kc_X7_299) dX7_digest_68 ?_
      refine lv_lload_n hx hb dX7_digest_71 rfl (lv_at hl 1 rfl) ?_
      refine lv_lmul hx hb dX7_digest_72 ?_
      refine lv_aload_n hx hb dX7_digest_73 rfl (lv_at hl 0 rfl) ?_
      refine lv_iload_n hx hb dX7_digest_74 rfl (lv_at hl 2 rfl) ?_
      refine lv_iconst (v := (0 : Int32)) hx hb dX7_digest_75 (by decide) ?_
      obtain ⟨r16, w15, z17, hF⟩ := bd_some hF
      refine n_Vi (rest := [.long ((31 : Int64) * x14)]) G hI (c_X7_ofBy hA h0 z17) my_X7_ofBy kl_X7_178 (isX7.lt h0) (isX7.sh h0) rfl ⟨Nat.le_of_ble_eq_true rfl, Nat.le_of_ble_eq_true rfl⟩ rfl hl.1 rfl (Nat.le_of_ble_eq_true rfl) dX7_digest_76 (fun H locs hI => ?_)
      refine lv_i2l hx hb dX7_digest_79 rfl ?_
      refine lv_ladd hx hb dX7_digest_80 ?_
      obtain ⟨x18, ex18, hF⟩ := lt_some hF
      refine W.eq (g2 := F0 m 81 ls [.long x18]) (by rw [ex18]) ?_
      refine lv_lstore_n (lv' := [(1, .long x18), (0, .ref (ad 0)), (3, .int v3)]) hx hb dX7_digest_81 rfl hl (by decide) rfl (fun ls hl => ?_)
      refine lv_ldc2 hx hb hown (hg _ kc_X7_299) dX7_digest_82 ?_
      refine lv_lload_n hx hb dX7_digest_85 rfl (lv_at hl 0 rfl) ?_
      refine lv_lmul hx hb dX7_digest_86 ?_
      refine lv_aload_n hx hb dX7_digest_87 rfl (lv_at hl 1 rfl) ?_
      refine lv_iload_n hx hb dX7_digest_88 rfl (lv_at hl 2 rfl) ?_
      refine lv_iconst (v := (2 : Int32)) hx hb dX7_digest_89 (by decide) ?_
      obtain ⟨r20, w19, z21, hF⟩ := bd_some hF
      refine n_Vi (rest := [.long ((31 : Int64) * x18)]) G hI (c_X7_ofBy hA h0 z21) my_X7_ofBy kl_X7_178 (isX7.lt h0) (isX7.sh h0) rfl ⟨Nat.le_of_ble_eq_true rfl, Nat.le_of_ble_eq_true rfl⟩ rfl hl.1 rfl (Nat.le_of_ble_eq_true rfl) dX7_digest_90 (fun H locs hI => ?_)
      refine lv_i2l hx hb dX7_digest_93 rfl ?_
      refine lv_ladd hx hb dX7_digest_94 ?_
      obtain ⟨x22, ex22, hF⟩ := lt_some hF
      refine W.eq (g2 := F0 m 95 ls [.long x22]) (by rw [ex22]) ?_
      refine lv_lstore_n (lv' := [(1, .long x22), (0, .ref (ad 0)), (3, .int v3)]) hx hb dX7_digest_95 rfl hl (by decide) rfl (fun ls hl => ?_)
      refine lv_iinc (v := (v3 + (1 : Int32))) (lv' := [(3, .int (v3 + (1 : Int32))), (1, .long x22), (0, .ref (ad 0))]) hx hb dX7_digest_96 hl (k := 2) rfl rfl (by decide) rfl (fun ls hl => ?_)
      refine lv_goto (tgt := 33) hx hb dX7_digest_99 (by decide) ?_
      exact ih _ _ _ _ _ _ hF hI (lv_sub hl [2, 1, 0] rfl)
set_option maxHeartbeats 4000000 in
theorem l_X7_digest_104 {p : Program} {e : Env} {s : State} {m : MethodId} {args : Array Value} {below : List Frame} {meth : Method} {c : Code} (G : Mx n D cA ad A sa p s m args meth c RX7 cX7_digest 5 (some .long))  (h0 : isX7 n sh 0) {k : Int64 → Mem → Option (Int64 × Mem)} {r : Int64} {w' : Mem}
    (hk : ∀ (v1 : Int64) (w : Mem) (H : Heap) (locs : List Loc) (ls : Array Slot), k v1 w = some (r, w') → Iv n sh D cA ad A s.heap w H locs → lv_has ls 5 [(0, .ref (ad 0)), (1, .long v1)] → W p l e ({ frames := 5, cells := 0, slots := 0, locals := 118 } : Room) s m args below meth c H locs 0 0 (QM n sh D cA ad A below args s (some (.long r)) w') (F0 m 160 ls [])) :
    ∀ (N : Nat) (v1 : Int64) (v3 : Int32) (w : Mem) (H : Heap) (locs : List Loc) (ls : Array Slot), L_X7_digest_104  k N v1 v3 w = some (r, w') → Iv n sh D cA ad A s.heap w H locs → lv_has ls 5 [(0, .ref (ad 0)), (1, .long v1), (3, .int v3)] → W p l e ({ frames := 5, cells := 0, slots := 0, locals := 118 } : Room) s m args below meth c H locs 0 0 (QM n sh D cA ad A below args s (some (.long r)) w') (F0 m 104 ls []) := by
  obtain ⟨hx, hb, -, -, hown, hg, -, -, -, -, hA⟩ := id G
  intro N
  induction N with
  | zero =>
    intro v1 v3 w H locs ls hF hI hl
    cases hF
  | succ N ih =>
    intro v1 v3 w H locs ls hF hI hl
    rw [L_X7_digest_104] at hF
    refine lv_iload_n hx hb dX7_digest_104 rfl (lv_at hl 2 rfl) ?_
    refine lv_aload_n hx hb dX7_digest_105 rfl (lv_at hl 0 rfl) ?_
    refine gf_X7_80 G hI h0 dX7_digest_106 ?_
    refine lv_icmp_ge (tgt := 160) hx hb dX7_digest_109 (by decide) (fun c32 => ?_) (fun c32 => ?_)
    · replace hF := itp c32 hF
      exact hk _ _ _ _ _ hF hI (lv_sub hl [0, 1] rfl)
    · replace hF := itn c32 hF
      refine lv_ldc2 hx hb hown (hg _ kc_X7_299) dX7_digest_112 ?_
      refine lv_lload_n hx hb dX7_digest_115 rfl (lv_at hl 1 rfl) ?_
      refine lv_lmul hx hb dX7_digest_116 ?_
      refine lv_aload_n hx hb dX7_digest_117 rfl (lv_at hl 0 rfl) ?_
      refine gf_X7_28 G hI h0 dX7_digest_118 ?_
      refine lv_iload_n hx hb dX7_digest_121 rfl (lv_at hl 2 rfl) ?_
      obtain ⟨g26, hF⟩ := gd_some hF
      refine n_ald G hI (isX7.wishLeg h0) g26 dX7_digest_122 ?_
      refine lv_i2l hx hb dX7_digest_123 rfl ?_
      refine lv_ladd hx hb dX7_digest_124 ?_
      obtain ⟨x27, ex27, hF⟩ := lt_some hF
      refine W.eq (g2 := F0 m 125 ls [.long x27]) (by rw [ex27]) ?_
      refine lv_lstore_n (lv' := [(1, .long x27), (0, .ref (ad 0)), (3, .int v3)]) hx hb dX7_digest_125 rfl hl (by decide) rfl (fun ls hl => ?_)
      refine lv_ldc2 hx hb hown (hg _ kc_X7_299) dX7_digest_126 ?_
      refine lv_lload_n hx hb dX7_digest_129 rfl (lv_at hl 0 rfl) ?_
      refine lv_lmul hx hb dX7_digest_130 ?_
      refine lv_aload_n hx hb dX7_digest_131 rfl (lv_at hl 1 rfl) ?_
      refine gf_X7_31 G hI h0 dX7_digest_132 ?_
      refine lv_iload_n hx hb dX7_digest_135 rfl (lv_at hl 2 rfl) ?_
      obtain ⟨g28, hF⟩ := gd_some hF
      refine n_ald G hI (isX7.wishPeriod h0) g28 dX7_digest_136 ?_
      refine lv_i2l hx hb dX7_digest_137 rfl ?_
      refine lv_ladd hx hb dX7_digest_138 ?_
      obtain ⟨x29, ex29, hF⟩ := lt_some hF
      refine W.eq (g2 := F0 m 139 ls [.long x29]) (by rw [ex29]) ?_
      refine lv_lstore_n (lv' := [(1, .long x29), (0, .ref (ad 0)), (3, .int v3)]) hx hb dX7_digest_139 rfl hl (by decide) rfl (fun ls hl => ?_)
      refine lv_ldc2 hx hb hown (hg _ kc_X7_299) dX7_digest_140 ?_
      refine lv_lload_n hx hb dX7_digest_143 rfl (lv_at hl 0 rfl) ?_
      refine lv_lmul hx hb dX7_digest_144 ?_
      refine lv_aload_n hx hb dX7_digest_145 rfl (lv_at hl 1 rfl) ?_
      refine gf_X7_34 G hI h0 dX7_digest_146 ?_
      refine lv_iload_n hx hb dX7_digest_149 rfl (lv_at hl 2 rfl) ?_
      obtain ⟨g30, hF⟩ := gd_some hF
      refine n_ald G hI (isX7.wishValue h0) g30 dX7_digest_150 ?_
      refine lv_i2l hx hb dX7_digest_151 rfl ?_
      refine lv_ladd hx hb dX7_digest_152 ?_
      obtain ⟨x31, ex31, hF⟩ := lt_some hF
      refine W.eq (g2 := F0 m 153 ls [.long x31]) (by rw [ex31]) ?_
      refine lv_lstore_n (lv' := [(1, .long x31), (0, .ref (ad 0)), (3, .int v3)]) hx hb dX7_digest_153 rfl hl (by decide) rfl (fun ls hl => ?_)
      refine lv_iinc (v := (v3 + (1 : Int32))) (lv' := [(3, .int (v3 + (1 : Int32))), (1, .long x31), (0, .ref (ad 0))]) hx hb dX7_digest_154 hl (k := 2) rfl rfl (by decide) rfl (fun ls hl => ?_)
      refine lv_goto (tgt := 104) hx hb dX7_digest_157 (by decide) ?_
      exact ih _ _ _ _ _ _ hF hI (lv_sub hl [2, 1, 0] rfl)
set_option maxHeartbeats 4000000 in
theorem c_X7_digest (hA : AdOk n ad A) (h0 : isX7 n sh 0) {w w' : Mem} {r : Int64} (hF : F_X7_digest  w = some (r, w')) : Ctr l n sh D cA ad A sa yX7_digest cX7_digest 5 (some .long) 5 118 [.ref (ad 0)] w (some (.long r)) w' := by
  refine m_enter hA (by decide) (Nat.le_of_ble_eq_true rfl) ?_
  intro p e s m args below meth c ls G hI hl
  replace hl : lv_has ls 5 [(0, .ref (ad 0))] := hl
  replace G : Mx n D cA ad A sa p s m args meth c RX7 cX7_digest 5 (some .long) := G
  obtain ⟨hx, hb, -, -, hown, hg, -⟩ := id G
  unfold F_X7_digest at hF
  refine lv_ldc2 hx hb hown (hg _ kc_X7_297) dX7_digest_0 ?_
  refine lv_lstore_n (lv' := [(1, .long (2069 : Int64)), (0, .ref (ad 0))]) hx hb dX7_digest_3 rfl hl (by decide) rfl (fun ls hl => ?_)
  refine lv_iconst (v := (0 : Int32)) hx hb dX7_digest_4 (by decide) ?_
  refine lv_istore_n (lv' := [(3, .int (0 : Int32)), (1, .long (2069 : Int64)), (0, .ref (ad 0))]) hx hb dX7_digest_5 rfl hl (by decide) rfl (fun ls hl => ?_)
  refine l_X7_digest_6 G h0 (fun x7 w6 H locs ls hF hI hl => ?_) _ _ _ _ _ _ _ hF hI (lv_sub hl [2, 1, 0] rfl)
  refine lv_iconst (v := (0 : Int32)) hx hb dX7_digest_31 (by decide) ?_
  refine lv_istore_n (lv' := [(3, .int (0 : Int32)), (0, .ref (ad 0)), (1, .long x7)]) hx hb dX7_digest_32 rfl hl (by decide) rfl (fun ls hl => ?_)
  refine l_X7_digest_33 G h0 (fun x25 w24 H locs ls hF hI hl => ?_) _ _ _ _ _ _ _ hF hI (lv_sub hl [1, 2, 0] rfl)
  refine lv_iconst (v := (0 : Int32)) hx hb dX7_digest_102 (by decide) ?_
  refine lv_istore_n (lv' := [(3, .int (0 : Int32)), (0, .ref (ad 0)), (1, .long x25)]) hx hb dX7_digest_103 rfl hl (by decide) rfl (fun ls hl => ?_)
  refine l_X7_digest_104 G h0 (fun x34 w33 H locs ls hF hI hl => ?_) _ _ _ _ _ _ _ hF hI (lv_sub hl [1, 2, 0] rfl)
  refine lv_ldc2 hx hb hown (hg _ kc_X7_299) dX7_digest_160 ?_
  refine lv_lload_n hx hb dX7_digest_163 rfl (lv_at hl 1 rfl) ?_
  refine lv_lmul hx hb dX7_digest_164 ?_
  refine lv_aload_n hx hb dX7_digest_165 rfl (lv_at hl 0 rfl) ?_
  refine lv_iconst (v := (0 : Int32)) hx hb dX7_digest_166 (by decide) ?_
  obtain ⟨r36, w35, z37, hF⟩ := bd_some hF
  refine n_Vi (rest := [.long ((31 : Int64) * x34)]) G hI (c_X7_plansBy hA h0 z37) my_X7_plansBy kl_X7_163 (isX7.lt h0) (isX7.sh h0) rfl ⟨Nat.le_of_ble_eq_true rfl, Nat.le_of_ble_eq_true rfl⟩ rfl hl.1 rfl (Nat.le_of_ble_eq_true rfl) dX7_digest_167 (fun H locs hI => ?_)
  refine lv_i2l hx hb dX7_digest_170 rfl ?_
  refine lv_ladd hx hb dX7_digest_171 ?_
  obtain ⟨x38, ex38, hF⟩ := lt_some hF
  refine W.eq (g2 := F0 m 172 ls [.long x38]) (by rw [ex38]) ?_
  refine lv_lstore_n (lv' := [(1, .long x38), (0, .ref (ad 0))]) hx hb dX7_digest_172 rfl hl (by decide) rfl (fun ls hl => ?_)
  refine lv_ldc2 hx hb hown (hg _ kc_X7_299) dX7_digest_173 ?_
  refine lv_lload_n hx hb dX7_digest_176 rfl (lv_at hl 0 rfl) ?_
  refine lv_lmul hx hb dX7_digest_177 ?_
  refine lv_aload_n hx hb dX7_digest_178 rfl (lv_at hl 1 rfl) ?_
  refine lv_iconst (v := (4 : Int32)) hx hb dX7_digest_179 (by decide) ?_
  obtain ⟨r40, w39, z41, hF⟩ := bd_some hF
  refine n_Vi (rest := [.long ((31 : Int64) * x38)]) G hI (c_X7_plansBy hA h0 z41) my_X7_plansBy kl_X7_163 (isX7.lt h0) (isX7.sh h0) rfl ⟨Nat.le_of_ble_eq_true rfl, Nat.le_of_ble_eq_true rfl⟩ rfl hl.1 rfl (Nat.le_of_ble_eq_true rfl) dX7_digest_180 (fun H locs hI => ?_)
  refine lv_i2l hx hb dX7_digest_183 rfl ?_
  refine lv_ladd hx hb dX7_digest_184 ?_
  exact n_lret G hI hF rfl dX7_digest_185
end WK15
