/-! walks, by program (wip/gen/walk.py): X6_run, X6_seen, X6_currentByTheOthers, X6_told, X6_both, X6_off, X6_dies, X6_eventsNow, X6_event, X6_events, X6_shift, X6_refuseFull, X6_wish, X6_unwish, X6_wished, X6_remember, X6_steps -/
section WK6
variable {n : Nat} {sh : Nat → Shp} {D : va_G} {cA : ClassId} {ad : Nat → Nat} {A : Nat → Prop} {sa : Nat → Nat} {l : Launch}
set_option maxHeartbeats 4000000 in
theorem c_X6_run (hA : AdOk n ad A) (h0 : isX6 n sh 0) {a1 : Int32} {a2 : Int32} {w w' : Mem} {r : Int32} (hF : F_X6_run a1 a2 w = some (r, w')) : Ctr l n sh D cA ad A sa yX6_run cX6_run 3 (some .int) 7 155 [.ref (ad 0), .int a1, .int a2] w (some (.int r)) w' := by
  refine m_enter hA (by decide) (Nat.le_of_ble_eq_true rfl) ?_
  intro p e s m args below meth c ls G hI hl
  replace hl : lv_has ls 3 [(0, .ref (ad 0)), (1, .int a1), (2, .int a2)] := hl
  replace G : Mx n D cA ad A sa p s m args meth c RX6 cX6_run 3 (some .int) := G
  obtain ⟨hx, hb, -, -, hown, hg, -⟩ := id G
  unfold F_X6_run at hF
  refine lv_iload_n hx hb dX6_run_0 rfl (lv_at hl 1 rfl) ?_
  refine lv_if_lt (tgt := 13) hx hb dX6_run_1 (by decide) (fun c17 => ?_) (fun c17 => ?_)
  · replace hF := itp c17 hF
    refine lv_aload_n hx hb dX6_run_13 rfl (lv_at hl 0 rfl) ?_
    obtain ⟨r2, w1, z3, hF⟩ := bd_some hF
    refine n_Vi (rest := []) G hI (c_X6_refuseBad hA h0 z3) my_X6_refuseBad kl_X6_66 (isX6.lt h0) (isX6.sh h0) rfl ⟨Nat.le_of_ble_eq_true rfl, Nat.le_of_ble_eq_true rfl⟩ rfl hl.1 rfl (Nat.le_of_ble_eq_true rfl) dX6_run_14 (fun H locs hI => ?_)
    exact n_iret G hI hF rfl dX6_run_17
  · replace hF := itn c17 hF
    refine lv_iload_n hx hb dX6_run_4 rfl (lv_at hl 2 rfl) ?_
    refine lv_iconst (v := (0 : Int32)) hx hb dX6_run_5 (by decide) ?_
    refine lv_iconst (v := (3 : Int32)) hx hb dX6_run_6 (by decide) ?_
    obtain ⟨r5, w4, z6, hF⟩ := bd_some hF
    refine n_Si (rest := []) G hI (c_X6_within hA  z6) my_X6_within kl_X6_56 ⟨Nat.le_of_ble_eq_true rfl, Nat.le_of_ble_eq_true rfl⟩ rfl hl.1 rfl (Nat.le_of_ble_eq_true rfl) dX6_run_7 (fun H locs hI => ?_)
    refine lv_if_ne (tgt := 18) hx hb dX6_run_10 (by decide) (fun c16 => ?_) (fun c16 => ?_)
    · replace hF := itn c16 hF
      refine lv_aload_n hx hb dX6_run_18 rfl (lv_at hl 0 rfl) ?_
      obtain ⟨r8, w7, z9, hF⟩ := bd_some hF
      refine n_Vr (rest := []) G hI (c_X6_runsNow hA h0 z9) my_X6_runsNow kl_X6_121 (isX6.lt h0) (isX6.sh h0) rfl ⟨Nat.le_of_ble_eq_true rfl, Nat.le_of_ble_eq_true rfl⟩ rfl hl.1 rfl (Nat.le_of_ble_eq_true rfl) dX6_run_19 (fun H locs hI => ?_)
      refine gf_X6_129 G hI (isX6.runs h0) dX6_run_22 ?_
      refine lv_iconst (v := (-1 : Int32)) hx hb dX6_run_25 (by decide) ?_
      refine lv_iload_n hx hb dX6_run_26 rfl (lv_at hl 1 rfl) ?_
      refine lv_iload_n hx hb dX6_run_27 rfl (lv_at hl 2 rfl) ?_
      obtain ⟨r11, w10, z12, hF⟩ := bd_some hF
      refine n_Vi (rest := []) G hI (c_X4_cellOr hA (isX2.rows (isX6.runs h0)) z12) my_X4_cellOr kl_X6_166 (isX4.lt (isX2.rows (isX6.runs h0))) (isX4.sh (isX2.rows (isX6.runs h0))) rfl ⟨Nat.le_of_ble_eq_true rfl, Nat.le_of_ble_eq_true rfl⟩ rfl hl.1 rfl (Nat.le_of_ble_eq_true rfl) dX6_run_28 (fun H locs hI => ?_)
      exact n_iret G hI hF rfl dX6_run_31
    · replace hF := itp c16 hF
      refine lv_aload_n hx hb dX6_run_13 rfl (lv_at hl 0 rfl) ?_
      obtain ⟨r14, w13, z15, hF⟩ := bd_some hF
      refine n_Vi (rest := []) G hI (c_X6_refuseBad hA h0 z15) my_X6_refuseBad kl_X6_66 (isX6.lt h0) (isX6.sh h0) rfl ⟨Nat.le_of_ble_eq_true rfl, Nat.le_of_ble_eq_true rfl⟩ rfl hl.1 rfl (Nat.le_of_ble_eq_true rfl) dX6_run_14 (fun H locs hI => ?_)
      exact n_iret G hI hF rfl dX6_run_17
set_option maxHeartbeats 4000000 in
theorem c_X6_seen (hA : AdOk n ad A) (h0 : isX6 n sh 0) {a1 : Int32} {w w' : Mem} {r : Int32} (hF : F_X6_seen a1 w = some (r, w')) : Ctr l n sh D cA ad A sa yX6_seen cX6_seen 2 (some .int) 7 155 [.ref (ad 0), .int a1] w (some (.int r)) w' := by
  refine m_enter hA (by decide) (Nat.le_of_ble_eq_true rfl) ?_
  intro p e s m args below meth c ls G hI hl
  replace hl : lv_has ls 2 [(0, .ref (ad 0)), (1, .int a1)] := hl
  replace G : Mx n D cA ad A sa p s m args meth c RX6 cX6_seen 2 (some .int) := G
  obtain ⟨hx, hb, -, -, hown, hg, -⟩ := id G
  unfold F_X6_seen at hF
  refine lv_iload_n hx hb dX6_seen_0 rfl (lv_at hl 1 rfl) ?_
  by_cases c13 : a1 = (0 : Int32)
  · replace hF := itp c13 hF
    refine lv_lookup (tgt := 28) (off := 27) hx hb dX6_seen_1 (by decide) (by rw [c13]; try rfl) (by decide) ?_
    refine lv_aload_n hx hb dX6_seen_28 rfl (lv_at hl 0 rfl) ?_
    obtain ⟨r5, w4, z6, hF⟩ := bd_some hF
    refine n_Vr (rest := []) G hI (c_X6_runsNow hA h0 z6) my_X6_runsNow kl_X6_121 (isX6.lt h0) (isX6.sh h0) rfl ⟨Nat.le_of_ble_eq_true rfl, Nat.le_of_ble_eq_true rfl⟩ rfl hl.1 rfl (Nat.le_of_ble_eq_true rfl) dX6_seen_29 (fun H locs hI => ?_)
    refine gf_X6_170 G hI (isX6.runs h0) dX6_seen_32 ?_
    exact n_iret G hI hF rfl dX6_seen_35
  · replace hF := itn c13 hF
    by_cases c14 : a1 = (1 : Int32)
    · replace hF := itp c14 hF
      refine lv_lookup (tgt := 36) (off := 35) hx hb dX6_seen_1 (by decide) (by rw [c14]; try rfl) (by decide) ?_
      refine lv_aload_n hx hb dX6_seen_36 rfl (lv_at hl 0 rfl) ?_
      obtain ⟨r8, w7, z9, hF⟩ := bd_some hF
      refine n_Vr (rest := []) G hI (c_X6_runsNow hA h0 z9) my_X6_runsNow kl_X6_121 (isX6.lt h0) (isX6.sh h0) rfl ⟨Nat.le_of_ble_eq_true rfl, Nat.le_of_ble_eq_true rfl⟩ rfl hl.1 rfl (Nat.le_of_ble_eq_true rfl) dX6_seen_37 (fun H locs hI => ?_)
      obtain ⟨r11, w10, z12, hF⟩ := bd_some hF
      refine n_Vi (rest := []) G hI (c_X2_howManySeen hA (isX6.runs h0) z12) my_X2_howManySeen kl_X6_173 (isX2.lt (isX6.runs h0)) (isX2.sh (isX6.runs h0)) rfl ⟨Nat.le_of_ble_eq_true rfl, Nat.le_of_ble_eq_true rfl⟩ rfl hl.1 rfl (Nat.le_of_ble_eq_true rfl) dX6_seen_40 (fun H locs hI => ?_)
      exact n_iret G hI hF rfl dX6_seen_43
    · replace hF := itn c14 hF
      refine lv_lookup (tgt := 44) (off := 43) hx hb dX6_seen_1 (by decide) (by show Op.lookupswitch.offset [(0, 27), (1, 35)] _ _ = _; rw [lv_osw c13 (by decide), lv_osw c14 (by decide)]; try rfl) (by decide) ?_
      refine lv_aload_n hx hb dX6_seen_44 rfl (lv_at hl 0 rfl) ?_
      obtain ⟨r2, w1, z3, hF⟩ := bd_some hF
      refine n_Vi (rest := []) G hI (c_X6_refuseBad hA h0 z3) my_X6_refuseBad kl_X6_66 (isX6.lt h0) (isX6.sh h0) rfl ⟨Nat.le_of_ble_eq_true rfl, Nat.le_of_ble_eq_true rfl⟩ rfl hl.1 rfl (Nat.le_of_ble_eq_true rfl) dX6_seen_45 (fun H locs hI => ?_)
      exact n_iret G hI hF rfl dX6_seen_48
set_option maxHeartbeats 4000000 in
theorem l_X6_currentByTheOthers_4 {p : Program} {e : Env} {s : State} {m : MethodId} {args : Array Value} {below : List Frame} {meth : Method} {c : Code} (G : Mx n D cA ad A sa p s m args meth c RX6 cX6_currentByTheOthers 4 (some .int)) {a1 : Int32} (h0 : isX6 n sh 0) {k : Int32 → Mem → Option (Int32 × Mem)} {r : Int32} {w' : Mem}
    (hk : ∀ (v2 : Int32) (w : Mem) (H : Heap) (locs : List Loc) (ls : Array Slot), k v2 w = some (r, w') → Iv n sh D cA ad A s.heap w H locs → lv_has ls 4 [(2, .int v2)] → W p l e ({ frames := 0, cells := 0, slots := 0, locals := 0 } : Room) s m args below meth c H locs 0 0 (QM n sh D cA ad A below args s (some (.int r)) w') (F0 m 32 ls [])) :
    ∀ (N : Nat) (v2 : Int32) (v3 : Int32) (w : Mem) (H : Heap) (locs : List Loc) (ls : Array Slot), L_X6_currentByTheOthers_4 a1 k N v2 v3 w = some (r, w') → Iv n sh D cA ad A s.heap w H locs → lv_has ls 4 [(0, .ref (ad 0)), (1, .int a1), (2, .int v2), (3, .int v3)] → W p l e ({ frames := 0, cells := 0, slots := 0, locals := 0 } : Room) s m args below meth c H locs 0 0 (QM n sh D cA ad A below args s (some (.int r)) w') (F0 m 4 ls []) := by
  obtain ⟨hx, hb, -, -, hown, hg, -, -, -, -, hA⟩ := id G
  intro N
  induction N with
  | zero =>
    intro v2 v3 w H locs ls hF hI hl
    cases hF
  | succ N ih =>
    intro v2 v3 w H locs ls hF hI hl
    rw [L_X6_currentByTheOthers_4] at hF
    refine lv_iload_n hx hb dX6_currentByTheOthers_4 rfl (lv_at hl 3 rfl) ?_
    refine lv_iconst (v := (3 : Int32)) hx hb dX6_currentByTheOthers_5 (by decide) ?_
    refine lv_icmp_ge (tgt := 32) hx hb dX6_currentByTheOthers_6 (by decide) (fun c3 => ?_) (fun c3 => ?_)
    · replace hF := itp c3 hF
      exact hk _ _ _ _ _ hF hI (lv_sub hl [2] rfl)
    · replace hF := itn c3 hF
      refine lv_iload_n hx hb dX6_currentByTheOthers_9 rfl (lv_at hl 3 rfl) ?_
      refine lv_iload_n hx hb dX6_currentByTheOthers_10 rfl (lv_at hl 1 rfl) ?_
      refine lv_icmp_eq (tgt := 26) hx hb dX6_currentByTheOthers_11 (by decide) (fun c2 => ?_) (fun c2 => ?_)
      · replace hF := itp c2 hF
        refine lv_iinc (v := (v3 + (1 : Int32))) (lv' := [(3, .int (v3 + (1 : Int32))), (0, .ref (ad 0)), (1, .int a1), (2, .int v2)]) hx hb dX6_currentByTheOthers_26 hl (k := 3) rfl rfl (by decide) rfl (fun ls hl => ?_)
        refine lv_goto (tgt := 4) hx hb dX6_currentByTheOthers_29 (by decide) ?_
        exact ih _ _ _ _ _ _ hF hI (lv_sub hl [1, 2, 3, 0] rfl)
      · replace hF := itn c2 hF
        refine lv_iload_n hx hb dX6_currentByTheOthers_14 rfl (lv_at hl 2 rfl) ?_
        refine lv_aload_n hx hb dX6_currentByTheOthers_15 rfl (lv_at hl 0 rfl) ?_
        refine gf_X6_10 G hI h0 dX6_currentByTheOthers_16 ?_
        refine gf_X6_80 G hI (isX6.drive h0) dX6_currentByTheOthers_19 ?_
        refine lv_iload_n hx hb dX6_currentByTheOthers_22 rfl (lv_at hl 3 rfl) ?_
        obtain ⟨g1, hF⟩ := gd_some hF
        refine n_ald G hI (isX0.current (isX6.drive h0)) g1 dX6_currentByTheOthers_23 ?_
        refine lv_iadd hx hb dX6_currentByTheOthers_24 ?_
        refine lv_istore_n (lv' := [(2, .int (v2 + (w 4 (ix v3)))), (0, .ref (ad 0)), (1, .int a1), (3, .int v3)]) hx hb dX6_currentByTheOthers_25 rfl hl (by decide) rfl (fun ls hl => ?_)
        refine lv_iinc (v := (v3 + (1 : Int32))) (lv' := [(3, .int (v3 + (1 : Int32))), (2, .int (v2 + (w 4 (ix v3)))), (0, .ref (ad 0)), (1, .int a1)]) hx hb dX6_currentByTheOthers_26 hl (k := 3) rfl rfl (by decide) rfl (fun ls hl => ?_)
        refine lv_goto (tgt := 4) hx hb dX6_currentByTheOthers_29 (by decide) ?_
        exact ih _ _ _ _ _ _ hF hI (lv_sub hl [2, 3, 1, 0] rfl)
set_option maxHeartbeats 4000000 in
theorem c_X6_currentByTheOthers (hA : AdOk n ad A) (h0 : isX6 n sh 0) {a1 : Int32} {w w' : Mem} {r : Int32} (hF : F_X6_currentByTheOthers a1 w = some (r, w')) : Ctr l n sh D cA ad A sa yX6_currentByTheOthers cX6_currentByTheOthers 4 (some .int) 0 0 [.ref (ad 0), .int a1] w (some (.int r)) w' := by
  refine m_enter hA (by decide) (Nat.le_of_ble_eq_true rfl) ?_
  intro p e s m args below meth c ls G hI hl
  replace hl : lv_has ls 4 [(0, .ref (ad 0)), (1, .int a1)] := hl
  replace G : Mx n D cA ad A sa p s m args meth c RX6 cX6_currentByTheOthers 4 (some .int) := G
  obtain ⟨hx, hb, -, -, hown, hg, -⟩ := id G
  unfold F_X6_currentByTheOthers at hF
  refine lv_iconst (v := (0 : Int32)) hx hb dX6_currentByTheOthers_0 (by decide) ?_
  refine lv_istore_n (lv' := [(2, .int (0 : Int32)), (0, .ref (ad 0)), (1, .int a1)]) hx hb dX6_currentByTheOthers_1 rfl hl (by decide) rfl (fun ls hl => ?_)
  refine lv_iconst (v := (0 : Int32)) hx hb dX6_currentByTheOthers_2 (by decide) ?_
  refine lv_istore_n (lv' := [(3, .int (0 : Int32)), (2, .int (0 : Int32)), (0, .ref (ad 0)), (1, .int a1)]) hx hb dX6_currentByTheOthers_3 rfl hl (by decide) rfl (fun ls hl => ?_)
  refine l_X6_currentByTheOthers_4 G h0 (fun x5 w4 H locs ls hF hI hl => ?_) _ _ _ _ _ _ _ hF hI (lv_sub hl [2, 3, 1, 0] rfl)
  refine lv_iload_n hx hb dX6_currentByTheOthers_32 rfl (lv_at hl 0 rfl) ?_
  refine lv_ineg hx hb dX6_currentByTheOthers_33 ?_
  exact n_iret G hI hF rfl dX6_currentByTheOthers_34
set_option maxHeartbeats 4000000 in
theorem c_X6_told (hA : AdOk n ad A) (h0 : isX6 n sh 0) {a1 : Int32} {w w' : Mem} {r : Int32} (hF : F_X6_told a1 w = some (r, w')) : Ctr l n sh D cA ad A sa yX6_told cX6_told 3 (some .int) 7 155 [.ref (ad 0), .int a1] w (some (.int r)) w' := by
  refine m_enter hA (by decide) (Nat.le_of_ble_eq_true rfl) ?_
  intro p e s m args below meth c ls G hI hl
  replace hl : lv_has ls 3 [(0, .ref (ad 0)), (1, .int a1)] := hl
  replace G : Mx n D cA ad A sa p s m args meth c RX6 cX6_told 3 (some .int) := G
  obtain ⟨hx, hb, -, -, hown, hg, -⟩ := id G
  unfold F_X6_told at hF
  refine lv_iload_n hx hb dX6_told_0 rfl (lv_at hl 1 rfl) ?_
  obtain ⟨r2, w1, z3, hF⟩ := bd_some hF
  refine n_Si (rest := []) G hI (c_X6_isLeg hA  z3) my_X6_isLeg kl_X6_73 ⟨Nat.le_of_ble_eq_true rfl, Nat.le_of_ble_eq_true rfl⟩ rfl hl.1 rfl (Nat.le_of_ble_eq_true rfl) dX6_told_1 (fun H locs hI => ?_)
  refine lv_if_ne (tgt := 12) hx hb dX6_told_4 (by decide) (fun c22 => ?_) (fun c22 => ?_)
  · replace hF := itn c22 hF
    refine lv_aload_n hx hb dX6_told_12 rfl (lv_at hl 0 rfl) ?_
    obtain ⟨r5, w4, z6, hF⟩ := bd_some hF
    refine n_Vr (rest := []) G hI (c_X6_runsNow hA h0 z6) my_X6_runsNow kl_X6_121 (isX6.lt h0) (isX6.sh h0) rfl ⟨Nat.le_of_ble_eq_true rfl, Nat.le_of_ble_eq_true rfl⟩ rfl hl.1 rfl (Nat.le_of_ble_eq_true rfl) dX6_told_13 (fun H locs hI => ?_)
    refine lv_astore_n (lv' := [(2, .ref (ad 27)), (0, .ref (ad 0)), (1, .int a1)]) hx hb dX6_told_16 rfl hl (by decide) rfl (fun ls hl => ?_)
    refine lv_aload_n hx hb dX6_told_17 rfl (lv_at hl 0 rfl) ?_
    refine lv_iload_n hx hb dX6_told_18 rfl (lv_at hl 2 rfl) ?_
    obtain ⟨r8, w7, z9, hF⟩ := bd_some hF
    refine n_Vi (rest := []) G hI (c_X2_sees hA (isX6.runs h0) z9) my_X2_sees kl_X6_176 (isX2.lt (isX6.runs h0)) (isX2.sh (isX6.runs h0)) rfl ⟨Nat.le_of_ble_eq_true rfl, Nat.le_of_ble_eq_true rfl⟩ rfl hl.1 rfl (Nat.le_of_ble_eq_true rfl) dX6_told_19 (fun H locs hI => ?_)
    refine lv_if_eq (tgt := 35) hx hb dX6_told_22 (by decide) (fun c18 => ?_) (fun c18 => ?_)
    · replace hF := itp c18 hF
      refine lv_aload_n hx hb dX6_told_35 rfl (lv_at hl 0 rfl) ?_
      obtain ⟨r11, w10, z12, hF⟩ := bd_some hF
      refine n_Vi (rest := []) G hI (c_X2_howManySeen hA (isX6.runs h0) z12) my_X2_howManySeen kl_X6_173 (isX2.lt (isX6.runs h0)) (isX2.sh (isX6.runs h0)) rfl ⟨Nat.le_of_ble_eq_true rfl, Nat.le_of_ble_eq_true rfl⟩ rfl hl.1 rfl (Nat.le_of_ble_eq_true rfl) dX6_told_36 (fun H locs hI => ?_)
      refine lv_iconst (v := (2 : Int32)) hx hb dX6_told_39 (by decide) ?_
      refine lv_icmp_ne (tgt := 51) hx hb dX6_told_40 (by decide) (fun c16 => ?_) (fun c16 => ?_)
      · replace hF := itn c16 hF
        refine lv_sipush (v := (-1000 : Int32)) hx hb dX6_told_51 (by decide) ?_
        exact n_iret G hI hF rfl dX6_told_54
      · replace hF := itp c16 hF
        refine lv_aload_n hx hb dX6_told_43 rfl (lv_at hl 1 rfl) ?_
        refine lv_iload_n hx hb dX6_told_44 rfl (lv_at hl 2 rfl) ?_
        obtain ⟨r14, w13, z15, hF⟩ := bd_some hF
        refine n_Vi (rest := []) G hI (c_X6_currentByTheOthers hA h0 z15) my_X6_currentByTheOthers kl_X6_179 (isX6.lt h0) (isX6.sh h0) rfl ⟨Nat.le_of_ble_eq_true rfl, Nat.le_of_ble_eq_true rfl⟩ rfl hl.1 rfl (Nat.le_of_ble_eq_true rfl) dX6_told_45 (fun H locs hI => ?_)
        refine lv_goto (tgt := 54) hx hb dX6_told_48 (by decide) ?_
        exact n_iret G hI hF rfl dX6_told_54
    · replace hF := itn c18 hF
      refine lv_aload_n hx hb dX6_told_25 rfl (lv_at hl 1 rfl) ?_
      refine gf_X6_10 G hI h0 dX6_told_26 ?_
      refine gf_X6_80 G hI (isX6.drive h0) dX6_told_29 ?_
      refine lv_iload_n hx hb dX6_told_32 rfl (lv_at hl 2 rfl) ?_
      obtain ⟨g17, hF⟩ := gd_some hF
      refine n_ald G hI (isX0.current (isX6.drive h0)) g17 dX6_told_33 ?_
      exact n_iret G hI hF rfl dX6_told_34
  · replace hF := itp c22 hF
    refine lv_aload_n hx hb dX6_told_7 rfl (lv_at hl 0 rfl) ?_
    obtain ⟨r20, w19, z21, hF⟩ := bd_some hF
    refine n_Vi (rest := []) G hI (c_X6_refuseBad hA h0 z21) my_X6_refuseBad kl_X6_66 (isX6.lt h0) (isX6.sh h0) rfl ⟨Nat.le_of_ble_eq_true rfl, Nat.le_of_ble_eq_true rfl⟩ rfl hl.1 rfl (Nat.le_of_ble_eq_true rfl) dX6_told_8 (fun H locs hI => ?_)
    exact n_iret G hI hF rfl dX6_told_11
set_option maxHeartbeats 4000000 in
theorem l_X6_both_14 {p : Program} {e : Env} {s : State} {m : MethodId} {args : Array Value} {below : List Frame} {meth : Method} {c : Code} (G : Mx n D cA ad A sa p s m args meth c RX6 cX6_both 4 (some .int)) {q1 : Nat} {a2 : Int32} (h1 : isX1 n sh q1) {k : Mem → Option (Int32 × Mem)} {r : Int32} {w' : Mem}
    (hk : ∀  (w : Mem) (H : Heap) (locs : List Loc) (ls : Array Slot), k  w = some (r, w') → Iv n sh D cA ad A s.heap w H locs → lv_has ls 4 [(1, .ref (ad q1)), (2, .int a2)] → W p l e ({ frames := 6, cells := 0, slots := 0, locals := 134 } : Room) s m args below meth c H locs 0 0 (QM n sh D cA ad A below args s (some (.int r)) w') (F0 m 50 ls [])) :
    ∀ (N : Nat) (v3 : Int32) (w : Mem) (H : Heap) (locs : List Loc) (ls : Array Slot), L_X6_both_14 q1 a2 k N v3 w = some (r, w') → Iv n sh D cA ad A s.heap w H locs → lv_has ls 4 [(1, .ref (ad q1)), (2, .int a2), (3, .int v3)] → W p l e ({ frames := 6, cells := 0, slots := 0, locals := 134 } : Room) s m args below meth c H locs 0 0 (QM n sh D cA ad A below args s (some (.int r)) w') (F0 m 14 ls []) := by
  obtain ⟨hx, hb, -, -, hown, hg, -, -, -, -, hA⟩ := id G
  intro N
  induction N with
  | zero =>
    intro v3 w H locs ls hF hI hl
    cases hF
  | succ N ih =>
    intro v3 w H locs ls hF hI hl
    rw [L_X6_both_14] at hF
    refine lv_iload_n hx hb dX6_both_14 rfl (lv_at hl 2 rfl) ?_
    refine lv_aload_n hx hb dX6_both_15 rfl (lv_at hl 0 rfl) ?_
    refine gf_X6_182 G hI h1 dX6_both_16 ?_
    refine lv_icmp_ge (tgt := 50) hx hb dX6_both_19 (by decide) (fun c12 => ?_) (fun c12 => ?_)
    · replace hF := itp c12 hF
      exact hk _ _ _ _ hF hI (lv_sub hl [0, 1] rfl)
    · replace hF := itn c12 hF
      refine lv_aload_n hx hb dX6_both_22 rfl (lv_at hl 0 rfl) ?_
      refine lv_iload_n hx hb dX6_both_23 rfl (lv_at hl 1 rfl) ?_
      refine lv_iconst (v := (0 : Int32)) hx hb dX6_both_24 (by decide) ?_
      refine lv_iload_n hx hb dX6_both_25 rfl (lv_at hl 2 rfl) ?_
      obtain ⟨r5, w4, z6, hF⟩ := bd_some hF
      refine n_Vi (rest := []) G hI (c_X1_isOn hA h1 z6) my_X1_isOn kl_X6_160 (isX1.lt h1) (isX1.sh h1) rfl ⟨Nat.le_of_ble_eq_true rfl, Nat.le_of_ble_eq_true rfl⟩ rfl hl.1 rfl (Nat.le_of_ble_eq_true rfl) dX6_both_26 (fun H locs hI => ?_)
      refine lv_if_eq (tgt := 44) hx hb dX6_both_29 (by decide) (fun c11 => ?_) (fun c11 => ?_)
      · replace hF := itp c11 hF
        refine lv_iinc (v := (v3 + (1 : Int32))) (lv' := [(3, .int (v3 + (1 : Int32))), (1, .ref (ad q1)), (2, .int a2)]) hx hb dX6_both_44 hl (k := 2) rfl rfl (by decide) rfl (fun ls hl => ?_)
        refine lv_goto (tgt := 14) hx hb dX6_both_47 (by decide) ?_
        exact ih _ _ _ _ _ hF hI (lv_sub hl [1, 2, 0] rfl)
      · replace hF := itn c11 hF
        refine lv_aload_n hx hb dX6_both_32 rfl (lv_at hl 0 rfl) ?_
        refine lv_iload_n hx hb dX6_both_33 rfl (lv_at hl 1 rfl) ?_
        refine lv_iconst (v := (1 : Int32)) hx hb dX6_both_34 (by decide) ?_
        refine lv_iload_n hx hb dX6_both_35 rfl (lv_at hl 2 rfl) ?_
        obtain ⟨r8, w7, z9, hF⟩ := bd_some hF
        refine n_Vi (rest := []) G hI (c_X1_isOn hA h1 z9) my_X1_isOn kl_X6_160 (isX1.lt h1) (isX1.sh h1) rfl ⟨Nat.le_of_ble_eq_true rfl, Nat.le_of_ble_eq_true rfl⟩ rfl hl.1 rfl (Nat.le_of_ble_eq_true rfl) dX6_both_36 (fun H locs hI => ?_)
        refine lv_if_eq (tgt := 44) hx hb dX6_both_39 (by decide) (fun c10 => ?_) (fun c10 => ?_)
        · replace hF := itp c10 hF
          refine lv_iinc (v := (v3 + (1 : Int32))) (lv' := [(3, .int (v3 + (1 : Int32))), (1, .ref (ad q1)), (2, .int a2)]) hx hb dX6_both_44 hl (k := 2) rfl rfl (by decide) rfl (fun ls hl => ?_)
          refine lv_goto (tgt := 14) hx hb dX6_both_47 (by decide) ?_
          exact ih _ _ _ _ _ hF hI (lv_sub hl [1, 2, 0] rfl)
        · replace hF := itn c10 hF
          refine lv_iconst (v := (1 : Int32)) hx hb dX6_both_42 (by decide) ?_
          exact n_iret G hI hF rfl dX6_both_43
set_option maxHeartbeats 4000000 in
theorem l_X6_both_7 {p : Program} {e : Env} {s : State} {m : MethodId} {args : Array Value} {below : List Frame} {meth : Method} {c : Code} (G : Mx n D cA ad A sa p s m args meth c RX6 cX6_both 4 (some .int)) {q1 : Nat} (h1 : isX1 n sh q1) {k : Mem → Option (Int32 × Mem)} {r : Int32} {w' : Mem}
    (hk : ∀  (w : Mem) (H : Heap) (locs : List Loc) (ls : Array Slot), k  w = some (r, w') → Iv n sh D cA ad A s.heap w H locs → lv_has ls 4 [] → W p l e ({ frames := 6, cells := 0, slots := 0, locals := 134 } : Room) s m args below meth c H locs 0 0 (QM n sh D cA ad A below args s (some (.int r)) w') (F0 m 56 ls [])) :
    ∀ (N : Nat) (v2 : Int32) (w : Mem) (H : Heap) (locs : List Loc) (ls : Array Slot), L_X6_both_7 q1 k N v2 w = some (r, w') → Iv n sh D cA ad A s.heap w H locs → lv_has ls 4 [(1, .ref (ad q1)), (2, .int v2)] → W p l e ({ frames := 6, cells := 0, slots := 0, locals := 134 } : Room) s m args below meth c H locs 0 0 (QM n sh D cA ad A below args s (some (.int r)) w') (F0 m 7 ls []) := by
  obtain ⟨hx, hb, -, -, hown, hg, -, -, -, -, hA⟩ := id G
  intro N
  induction N with
  | zero =>
    intro v2 w H locs ls hF hI hl
    cases hF
  | succ N ih =>
    intro v2 w H locs ls hF hI hl
    rw [L_X6_both_7] at hF
    refine lv_iload_n hx hb dX6_both_7 rfl (lv_at hl 1 rfl) ?_
    refine lv_iconst (v := (3 : Int32)) hx hb dX6_both_8 (by decide) ?_
    refine lv_icmp_ge (tgt := 56) hx hb dX6_both_9 (by decide) (fun c14 => ?_) (fun c14 => ?_)
    · replace hF := itp c14 hF
      exact hk _ _ _ _ hF hI (lv_sub hl [] rfl)
    · replace hF := itn c14 hF
      refine lv_iconst (v := (0 : Int32)) hx hb dX6_both_12 (by decide) ?_
      refine lv_istore_n (lv' := [(3, .int (0 : Int32)), (1, .ref (ad q1)), (2, .int v2)]) hx hb dX6_both_13 rfl hl (by decide) rfl (fun ls hl => ?_)
      refine l_X6_both_14 G h1 (fun w13 H locs ls hF hI hl => ?_) _ _ _ _ _ _ hF hI (lv_sub hl [1, 2, 0] rfl)
      refine lv_iinc (v := (v2 + (1 : Int32))) (lv' := [(2, .int (v2 + (1 : Int32))), (1, .ref (ad q1))]) hx hb dX6_both_50 hl (k := 1) rfl rfl (by decide) rfl (fun ls hl => ?_)
      refine lv_goto (tgt := 7) hx hb dX6_both_53 (by decide) ?_
      exact ih _ _ _ _ _ hF hI (lv_sub hl [1, 0] rfl)
set_option maxHeartbeats 4000000 in
theorem c_X6_both (hA : AdOk n ad A) (h0 : isX6 n sh 0) {w w' : Mem} {r : Int32} (hF : F_X6_both  w = some (r, w')) : Ctr l n sh D cA ad A sa yX6_both cX6_both 4 (some .int) 6 134 [.ref (ad 0)] w (some (.int r)) w' := by
  refine m_enter hA (by decide) (Nat.le_of_ble_eq_true rfl) ?_
  intro p e s m args below meth c ls G hI hl
  replace hl : lv_has ls 4 [(0, .ref (ad 0))] := hl
  replace G : Mx n D cA ad A sa p s m args meth c RX6 cX6_both 4 (some .int) := G
  obtain ⟨hx, hb, -, -, hown, hg, -⟩ := id G
  unfold F_X6_both at hF
  refine lv_aload_n hx hb dX6_both_0 rfl (lv_at hl 0 rfl) ?_
  obtain ⟨r2, w1, z3, hF⟩ := bd_some hF
  refine n_Vr (rest := []) G hI (c_X6_planNow hA h0 z3) my_X6_planNow kl_X6_108 (isX6.lt h0) (isX6.sh h0) rfl ⟨Nat.le_of_ble_eq_true rfl, Nat.le_of_ble_eq_true rfl⟩ rfl hl.1 rfl (Nat.le_of_ble_eq_true rfl) dX6_both_1 (fun H locs hI => ?_)
  refine lv_astore_n (lv' := [(1, .ref (ad 9)), (0, .ref (ad 0))]) hx hb dX6_both_4 rfl hl (by decide) rfl (fun ls hl => ?_)
  refine lv_iconst (v := (0 : Int32)) hx hb dX6_both_5 (by decide) ?_
  refine lv_istore_n (lv' := [(2, .int (0 : Int32)), (1, .ref (ad 9)), (0, .ref (ad 0))]) hx hb dX6_both_6 rfl hl (by decide) rfl (fun ls hl => ?_)
  refine l_X6_both_7 G (isX0.plan (isX6.drive h0)) (fun w15 H locs ls hF hI hl => ?_) _ _ _ _ _ _ hF hI (lv_sub hl [1, 0] rfl)
  refine lv_iconst (v := (0 : Int32)) hx hb dX6_both_56 (by decide) ?_
  exact n_iret G hI hF rfl dX6_both_57
set_option maxHeartbeats 4000000 in
theorem c_X6_off (hA : AdOk n ad A) (h0 : isX6 n sh 0) {a1 : Int32} {w w' : Mem} {r : Int32} (hF : F_X6_off a1 w = some (r, w')) : Ctr l n sh D cA ad A sa yX6_off cX6_off 3 (some .int) 6 134 [.ref (ad 0), .int a1] w (some (.int r)) w' := by
  refine m_enter hA (by decide) (Nat.le_of_ble_eq_true rfl) ?_
  intro p e s m args below meth c ls G hI hl
  replace hl : lv_has ls 3 [(0, .ref (ad 0)), (1, .int a1)] := hl
  replace G : Mx n D cA ad A sa p s m args meth c RX6 cX6_off 3 (some .int) := G
  obtain ⟨hx, hb, -, -, hown, hg, -⟩ := id G
  unfold F_X6_off at hF
  refine lv_iload_n hx hb dX6_off_0 rfl (lv_at hl 1 rfl) ?_
  obtain ⟨r2, w1, z3, hF⟩ := bd_some hF
  refine n_Si (rest := []) G hI (c_X6_isLeg hA  z3) my_X6_isLeg kl_X6_73 ⟨Nat.le_of_ble_eq_true rfl, Nat.le_of_ble_eq_true rfl⟩ rfl hl.1 rfl (Nat.le_of_ble_eq_true rfl) dX6_off_1 (fun H locs hI => ?_)
  refine lv_if_ne (tgt := 12) hx hb dX6_off_4 (by decide) (fun c14 => ?_) (fun c14 => ?_)
  · replace hF := itn c14 hF
    refine lv_aload_n hx hb dX6_off_12 rfl (lv_at hl 0 rfl) ?_
    obtain ⟨r5, w4, z6, hF⟩ := bd_some hF
    refine n_Vr (rest := []) G hI (c_X6_planNow hA h0 z6) my_X6_planNow kl_X6_108 (isX6.lt h0) (isX6.sh h0) rfl ⟨Nat.le_of_ble_eq_true rfl, Nat.le_of_ble_eq_true rfl⟩ rfl hl.1 rfl (Nat.le_of_ble_eq_true rfl) dX6_off_13 (fun H locs hI => ?_)
    refine lv_astore_n (lv' := [(2, .ref (ad 9)), (0, .ref (ad 0)), (1, .int a1)]) hx hb dX6_off_16 rfl hl (by decide) rfl (fun ls hl => ?_)
    refine lv_aload_n hx hb dX6_off_17 rfl (lv_at hl 0 rfl) ?_
    refine lv_iload_n hx hb dX6_off_18 rfl (lv_at hl 2 rfl) ?_
    obtain ⟨r8, w7, z9, hF⟩ := bd_some hF
    refine n_Vi (rest := []) G hI (c_X1_mean hA (isX0.plan (isX6.drive h0)) z9) my_X1_mean kl_X6_141 (isX1.lt (isX0.plan (isX6.drive h0))) (isX1.sh (isX0.plan (isX6.drive h0))) rfl ⟨Nat.le_of_ble_eq_true rfl, Nat.le_of_ble_eq_true rfl⟩ rfl hl.1 rfl (Nat.le_of_ble_eq_true rfl) dX6_off_19 (fun H locs hI => ?_)
    refine lv_aload_n hx hb dX6_off_22 rfl (lv_at hl 0 rfl) ?_
    refine gf_X6_185 G hI (isX0.plan (isX6.drive h0)) dX6_off_23 ?_
    refine lv_iload_n hx hb dX6_off_26 rfl (lv_at hl 2 rfl) ?_
    obtain ⟨g10, hF⟩ := gd_some hF
    refine n_ald G hI (isX1.uncorrected (isX0.plan (isX6.drive h0))) g10 dX6_off_27 ?_
    refine lv_isub hx hb dX6_off_28 ?_
    exact n_iret G hI hF rfl dX6_off_29
  · replace hF := itp c14 hF
    refine lv_aload_n hx hb dX6_off_7 rfl (lv_at hl 0 rfl) ?_
    obtain ⟨r12, w11, z13, hF⟩ := bd_some hF
    refine n_Vi (rest := []) G hI (c_X6_refuseBad hA h0 z13) my_X6_refuseBad kl_X6_66 (isX6.lt h0) (isX6.sh h0) rfl ⟨Nat.le_of_ble_eq_true rfl, Nat.le_of_ble_eq_true rfl⟩ rfl hl.1 rfl (Nat.le_of_ble_eq_true rfl) dX6_off_8 (fun H locs hI => ?_)
    exact n_iret G hI hF rfl dX6_off_11
set_option maxHeartbeats 4000000 in
theorem c_X6_dies (hA : AdOk n ad A) (h0 : isX6 n sh 0) {a1 : Int32} {w w' : Mem} {r : Int32} (hF : F_X6_dies a1 w = some (r, w')) : Ctr l n sh D cA ad A sa yX6_dies cX6_dies 2 (some .int) 6 134 [.ref (ad 0), .int a1] w (some (.int r)) w' := by
  refine m_enter hA (by decide) (Nat.le_of_ble_eq_true rfl) ?_
  intro p e s m args below meth c ls G hI hl
  replace hl : lv_has ls 2 [(0, .ref (ad 0)), (1, .int a1)] := hl
  replace G : Mx n D cA ad A sa p s m args meth c RX6 cX6_dies 2 (some .int) := G
  obtain ⟨hx, hb, -, -, hown, hg, -⟩ := id G
  unfold F_X6_dies at hF
  refine lv_iload_n hx hb dX6_dies_0 rfl (lv_at hl 1 rfl) ?_
  obtain ⟨r2, w1, z3, hF⟩ := bd_some hF
  refine n_Si (rest := []) G hI (c_X6_isLeg hA  z3) my_X6_isLeg kl_X6_73 ⟨Nat.le_of_ble_eq_true rfl, Nat.le_of_ble_eq_true rfl⟩ rfl hl.1 rfl (Nat.le_of_ble_eq_true rfl) dX6_dies_1 (fun H locs hI => ?_)
  refine lv_if_ne (tgt := 12) hx hb dX6_dies_4 (by decide) (fun c13 => ?_) (fun c13 => ?_)
  · replace hF := itn c13 hF
    refine lv_aload_n hx hb dX6_dies_12 rfl (lv_at hl 0 rfl) ?_
    obtain ⟨r5, w4, z6, hF⟩ := bd_some hF
    refine n_Vr (rest := []) G hI (c_X6_planNow hA h0 z6) my_X6_planNow kl_X6_108 (isX6.lt h0) (isX6.sh h0) rfl ⟨Nat.le_of_ble_eq_true rfl, Nat.le_of_ble_eq_true rfl⟩ rfl hl.1 rfl (Nat.le_of_ble_eq_true rfl) dX6_dies_13 (fun H locs hI => ?_)
    refine lv_iload_n hx hb dX6_dies_16 rfl (lv_at hl 1 rfl) ?_
    obtain ⟨r8, w7, z9, hF⟩ := bd_some hF
    refine n_Vi (rest := []) G hI (c_X1_leastDeadWithoutUpper hA (isX0.plan (isX6.drive h0)) z9) my_X1_leastDeadWithoutUpper kl_X6_188 (isX1.lt (isX0.plan (isX6.drive h0))) (isX1.sh (isX0.plan (isX6.drive h0))) rfl ⟨Nat.le_of_ble_eq_true rfl, Nat.le_of_ble_eq_true rfl⟩ rfl hl.1 rfl (Nat.le_of_ble_eq_true rfl) dX6_dies_17 (fun H locs hI => ?_)
    exact n_iret G hI hF rfl dX6_dies_20
  · replace hF := itp c13 hF
    refine lv_aload_n hx hb dX6_dies_7 rfl (lv_at hl 0 rfl) ?_
    obtain ⟨r11, w10, z12, hF⟩ := bd_some hF
    refine n_Vi (rest := []) G hI (c_X6_refuseBad hA h0 z12) my_X6_refuseBad kl_X6_66 (isX6.lt h0) (isX6.sh h0) rfl ⟨Nat.le_of_ble_eq_true rfl, Nat.le_of_ble_eq_true rfl⟩ rfl hl.1 rfl (Nat.le_of_ble_eq_true rfl) dX6_dies_8 (fun H locs hI => ?_)
    exact n_iret G hI hF rfl dX6_dies_11
set_option maxHeartbeats 4000000 in
theorem c_X6_eventsNow (hA : AdOk n ad A) (h0 : isX6 n sh 0) {w w' : Mem} {r : Unit} (hF : F_X6_eventsNow  w = some (r, w')) : Ctr l n sh D cA ad A sa yX6_eventsNow cX6_eventsNow 1 (some (.object "DriveTicks$Table")) 6 134 [.ref (ad 0)] w (some (.ref (ad 30))) w' := by
  refine m_enter hA (by decide) (Nat.le_of_ble_eq_true rfl) ?_
  intro p e s m args below meth c ls G hI hl
  replace hl : lv_has ls 1 [(0, .ref (ad 0))] := hl
  replace G : Mx n D cA ad A sa p s m args meth c RX6 cX6_eventsNow 1 (some (.object "DriveTicks$Table")) := G
  obtain ⟨hx, hb, -, -, hown, hg, -⟩ := id G
  unfold F_X6_eventsNow at hF
  refine lv_aload_n hx hb dX6_eventsNow_0 rfl (lv_at hl 0 rfl) ?_
  obtain ⟨r2, w1, z3, hF⟩ := bd_some hF
  refine n_Vr (rest := []) G hI (c_X6_planNow hA h0 z3) my_X6_planNow kl_X6_108 (isX6.lt h0) (isX6.sh h0) rfl ⟨Nat.le_of_ble_eq_true rfl, Nat.le_of_ble_eq_true rfl⟩ rfl hl.1 rfl (Nat.le_of_ble_eq_true rfl) dX6_eventsNow_1 (fun H locs hI => ?_)
  refine lv_aload_n hx hb dX6_eventsNow_4 rfl (lv_at hl 0 rfl) ?_
  refine gf_X6_31 G hI h0 dX6_eventsNow_5 ?_
  obtain ⟨r5, w4, z6, hF⟩ := bd_some hF
  refine n_Vv (rest := []) G hI (c_X1_listEvents hA (isX0.plan (isX6.drive h0)) (isX6.gateEvents h0) z6) my_X1_listEvents kl_X6_290 (isX1.lt (isX0.plan (isX6.drive h0))) (isX1.sh (isX0.plan (isX6.drive h0))) rfl ⟨Nat.le_of_ble_eq_true rfl, Nat.le_of_ble_eq_true rfl⟩ rfl hl.1 rfl (Nat.le_of_ble_eq_true rfl) dX6_eventsNow_8 (fun H locs hI => ?_)
  refine lv_aload_n hx hb dX6_eventsNow_11 rfl (lv_at hl 0 rfl) ?_
  refine gf_X6_31 G hI h0 dX6_eventsNow_12 ?_
  exact n_aret G hI hF rfl dX6_eventsNow_15
set_option maxHeartbeats 4000000 in
theorem c_X6_event (hA : AdOk n ad A) (h0 : isX6 n sh 0) {a1 : Int32} {a2 : Int32} {w w' : Mem} {r : Int32} (hF : F_X6_event a1 a2 w = some (r, w')) : Ctr l n sh D cA ad A sa yX6_event cX6_event 3 (some .int) 7 154 [.ref (ad 0), .int a1, .int a2] w (some (.int r)) w' := by
  refine m_enter hA (by decide) (Nat.le_of_ble_eq_true rfl) ?_
  intro p e s m args below meth c ls G hI hl
  replace hl : lv_has ls 3 [(0, .ref (ad 0)), (1, .int a1), (2, .int a2)] := hl
  replace G : Mx n D cA ad A sa p s m args meth c RX6 cX6_event 3 (some .int) := G
  obtain ⟨hx, hb, -, -, hown, hg, -⟩ := id G
  unfold F_X6_event at hF
  refine lv_iload_n hx hb dX6_event_0 rfl (lv_at hl 1 rfl) ?_
  refine lv_if_lt (tgt := 13) hx hb dX6_event_1 (by decide) (fun c17 => ?_) (fun c17 => ?_)
  · replace hF := itp c17 hF
    refine lv_aload_n hx hb dX6_event_13 rfl (lv_at hl 0 rfl) ?_
    obtain ⟨r2, w1, z3, hF⟩ := bd_some hF
    refine n_Vi (rest := []) G hI (c_X6_refuseBad hA h0 z3) my_X6_refuseBad kl_X6_66 (isX6.lt h0) (isX6.sh h0) rfl ⟨Nat.le_of_ble_eq_true rfl, Nat.le_of_ble_eq_true rfl⟩ rfl hl.1 rfl (Nat.le_of_ble_eq_true rfl) dX6_event_14 (fun H locs hI => ?_)
    exact n_iret G hI hF rfl dX6_event_17
  · replace hF := itn c17 hF
    refine lv_iload_n hx hb dX6_event_4 rfl (lv_at hl 2 rfl) ?_
    refine lv_iconst (v := (0 : Int32)) hx hb dX6_event_5 (by decide) ?_
    refine lv_iconst (v := (3 : Int32)) hx hb dX6_event_6 (by decide) ?_
    obtain ⟨r5, w4, z6, hF⟩ := bd_some hF
    refine n_Si (rest := []) G hI (c_X6_within hA  z6) my_X6_within kl_X6_56 ⟨Nat.le_of_ble_eq_true rfl, Nat.le_of_ble_eq_true rfl⟩ rfl hl.1 rfl (Nat.le_of_ble_eq_true rfl) dX6_event_7 (fun H locs hI => ?_)
    refine lv_if_ne (tgt := 18) hx hb dX6_event_10 (by decide) (fun c16 => ?_) (fun c16 => ?_)
    · replace hF := itn c16 hF
      refine lv_aload_n hx hb dX6_event_18 rfl (lv_at hl 0 rfl) ?_
      obtain ⟨r8, w7, z9, hF⟩ := bd_some hF
      refine n_Vr (rest := []) G hI (c_X6_eventsNow hA h0 z9) my_X6_eventsNow kl_X6_191 (isX6.lt h0) (isX6.sh h0) rfl ⟨Nat.le_of_ble_eq_true rfl, Nat.le_of_ble_eq_true rfl⟩ rfl hl.1 rfl (Nat.le_of_ble_eq_true rfl) dX6_event_19 (fun H locs hI => ?_)
      refine lv_iconst (v := (-1 : Int32)) hx hb dX6_event_22 (by decide) ?_
      refine lv_iload_n hx hb dX6_event_23 rfl (lv_at hl 1 rfl) ?_
      refine lv_iload_n hx hb dX6_event_24 rfl (lv_at hl 2 rfl) ?_
      obtain ⟨r11, w10, z12, hF⟩ := bd_some hF
      refine n_Vi (rest := []) G hI (c_X4_cellOr hA (isX6.gateEvents h0) z12) my_X4_cellOr kl_X6_166 (isX4.lt (isX6.gateEvents h0)) (isX4.sh (isX6.gateEvents h0)) rfl ⟨Nat.le_of_ble_eq_true rfl, Nat.le_of_ble_eq_true rfl⟩ rfl hl.1 rfl (Nat.le_of_ble_eq_true rfl) dX6_event_25 (fun H locs hI => ?_)
      exact n_iret G hI hF rfl dX6_event_28
    · replace hF := itp c16 hF
      refine lv_aload_n hx hb dX6_event_13 rfl (lv_at hl 0 rfl) ?_
      obtain ⟨r14, w13, z15, hF⟩ := bd_some hF
      refine n_Vi (rest := []) G hI (c_X6_refuseBad hA h0 z15) my_X6_refuseBad kl_X6_66 (isX6.lt h0) (isX6.sh h0) rfl ⟨Nat.le_of_ble_eq_true rfl, Nat.le_of_ble_eq_true rfl⟩ rfl hl.1 rfl (Nat.le_of_ble_eq_true rfl) dX6_event_14 (fun H locs hI => ?_)
      exact n_iret G hI hF rfl dX6_event_17
set_option maxHeartbeats 4000000 in
theorem c_X6_events (hA : AdOk n ad A) (h0 : isX6 n sh 0) {w w' : Mem} {r : Int32} (hF : F_X6_events  w = some (r, w')) : Ctr l n sh D cA ad A sa yX6_events cX6_events 1 (some .int) 7 154 [.ref (ad 0)] w (some (.int r)) w' := by
  refine m_enter hA (by decide) (Nat.le_of_ble_eq_true rfl) ?_
  intro p e s m args below meth c ls G hI hl
  replace hl : lv_has ls 1 [(0, .ref (ad 0))] := hl
  replace G : Mx n D cA ad A sa p s m args meth c RX6 cX6_events 1 (some .int) := G
  obtain ⟨hx, hb, -, -, hown, hg, -⟩ := id G
  unfold F_X6_events at hF
  refine lv_aload_n hx hb dX6_events_0 rfl (lv_at hl 0 rfl) ?_
  obtain ⟨r2, w1, z3, hF⟩ := bd_some hF
  refine n_Vr (rest := []) G hI (c_X6_eventsNow hA h0 z3) my_X6_eventsNow kl_X6_191 (isX6.lt h0) (isX6.sh h0) rfl ⟨Nat.le_of_ble_eq_true rfl, Nat.le_of_ble_eq_true rfl⟩ rfl hl.1 rfl (Nat.le_of_ble_eq_true rfl) dX6_events_1 (fun H locs hI => ?_)
  refine gf_X6_132 G hI (isX6.gateEvents h0) dX6_events_4 ?_
  exact n_iret G hI hF rfl dX6_events_7
set_option maxHeartbeats 4000000 in
theorem c_X6_shift (hA : AdOk n ad A) (h0 : isX6 n sh 0) {a1 : Int32} {w w' : Mem} {r : Int32} (hF : F_X6_shift a1 w = some (r, w')) : Ctr l n sh D cA ad A sa yX6_shift cX6_shift 2 (some .int) 7 168 [.ref (ad 0), .int a1] w (some (.int r)) w' := by
  refine m_enter hA (by decide) (Nat.le_of_ble_eq_true rfl) ?_
  intro p e s m args below meth c ls G hI hl
  replace hl : lv_has ls 2 [(0, .ref (ad 0)), (1, .int a1)] := hl
  replace G : Mx n D cA ad A sa p s m args meth c RX6 cX6_shift 2 (some .int) := G
  obtain ⟨hx, hb, -, -, hown, hg, -⟩ := id G
  unfold F_X6_shift at hF
  refine lv_iload_n hx hb dX6_shift_0 rfl (lv_at hl 1 rfl) ?_
  refine lv_iconst (v := (0 : Int32)) hx hb dX6_shift_1 (by decide) ?_
  refine lv_iconst (v := (4 : Int32)) hx hb dX6_shift_2 (by decide) ?_
  obtain ⟨r2, w1, z3, hF⟩ := bd_some hF
  refine n_Si (rest := []) G hI (c_X6_within hA  z3) my_X6_within kl_X6_56 ⟨Nat.le_of_ble_eq_true rfl, Nat.le_of_ble_eq_true rfl⟩ rfl hl.1 rfl (Nat.le_of_ble_eq_true rfl) dX6_shift_3 (fun H locs hI => ?_)
  refine lv_if_ne (tgt := 14) hx hb dX6_shift_6 (by decide) (fun c17 => ?_) (fun c17 => ?_)
  · replace hF := itn c17 hF
    refine lv_aload_n hx hb dX6_shift_14 rfl (lv_at hl 0 rfl) ?_
    refine gf_X6_38 G hI h0 dX6_shift_15 ?_
    refine lv_aload_n hx hb dX6_shift_18 rfl (lv_at hl 0 rfl) ?_
    obtain ⟨r5, w4, z6, hF⟩ := bd_some hF
    refine n_Vr (rest := [.ref (ad 32)]) G hI (c_X6_planNow hA h0 z6) my_X6_planNow kl_X6_108 (isX6.lt h0) (isX6.sh h0) rfl ⟨Nat.le_of_ble_eq_true rfl, Nat.le_of_ble_eq_true rfl⟩ rfl hl.1 rfl (Nat.le_of_ble_eq_true rfl) dX6_shift_19 (fun H locs hI => ?_)
    refine lv_aload_n hx hb dX6_shift_22 rfl (lv_at hl 0 rfl) ?_
    refine gf_X6_10 G hI h0 dX6_shift_23 ?_
    refine gf_X6_70 G hI (isX6.drive h0) dX6_shift_26 ?_
    refine lv_iconst (v := (3 : Int32)) hx hb dX6_shift_29 (by decide) ?_
    refine n_ald G hI (isX0.setting (isX6.drive h0)) (by decide) dX6_shift_30 ?_
    refine W.eq (g2 := F0 m 31 ls [.int (w4 2 3), .ref (ad 9), .ref (ad 32)]) rfl ?_
    obtain ⟨r8, w7, z9, hF⟩ := bd_some hF
    refine n_Vv (rest := []) G hI (c_X3_search hA (isX6.shifts h0) (isX0.plan (isX6.drive h0)) z9) my_X3_search kl_X6_195 (isX3.lt (isX6.shifts h0)) (isX3.sh (isX6.shifts h0)) rfl ⟨Nat.le_of_ble_eq_true rfl, Nat.le_of_ble_eq_true rfl⟩ rfl hl.1 rfl (Nat.le_of_ble_eq_true rfl) dX6_shift_31 (fun H locs hI => ?_)
    refine lv_aload_n hx hb dX6_shift_34 rfl (lv_at hl 0 rfl) ?_
    refine gf_X6_38 G hI h0 dX6_shift_35 ?_
    refine gf_X6_199 G hI (isX6.shifts h0) dX6_shift_38 ?_
    refine lv_if_ne (tgt := 48) hx hb dX6_shift_41 (by decide) (fun c13 => ?_) (fun c13 => ?_)
    · replace hF := itn c13 hF
      refine lv_iload_n hx hb dX6_shift_48 rfl (lv_at hl 1 rfl) ?_
      refine lv_iconst (v := (3 : Int32)) hx hb dX6_shift_49 (by decide) ?_
      refine lv_icmp_ne (tgt := 61) hx hb dX6_shift_50 (by decide) (fun c12 => ?_) (fun c12 => ?_)
      · replace hF := itn c12 hF
        refine lv_iload_n hx hb dX6_shift_61 rfl (lv_at hl 1 rfl) ?_
        refine lv_iconst (v := (4 : Int32)) hx hb dX6_shift_62 (by decide) ?_
        refine lv_icmp_ne (tgt := 76) hx hb dX6_shift_63 (by decide) (fun c11 => ?_) (fun c11 => ?_)
        · replace hF := itn c11 hF
          refine lv_aload_n hx hb dX6_shift_76 rfl (lv_at hl 0 rfl) ?_
          refine gf_X6_38 G hI h0 dX6_shift_77 ?_
          refine gf_X6_205 G hI (isX6.shifts h0) dX6_shift_80 ?_
          refine lv_iload_n hx hb dX6_shift_83 rfl (lv_at hl 1 rfl) ?_
          obtain ⟨g10, hF⟩ := gd_some hF
          refine n_ald G hI (isX3.best (isX6.shifts h0)) g10 dX6_shift_84 ?_
          exact n_iret G hI hF rfl dX6_shift_85
        · replace hF := itp c11 hF
          refine lv_aload_n hx hb dX6_shift_66 rfl (lv_at hl 0 rfl) ?_
          refine gf_X6_38 G hI h0 dX6_shift_67 ?_
          refine gf_X6_199 G hI (isX6.shifts h0) dX6_shift_70 ?_
          refine lv_goto (tgt := 85) hx hb dX6_shift_73 (by decide) ?_
          exact n_iret G hI hF rfl dX6_shift_85
      · replace hF := itp c12 hF
        refine lv_aload_n hx hb dX6_shift_53 rfl (lv_at hl 0 rfl) ?_
        refine gf_X6_38 G hI h0 dX6_shift_54 ?_
        refine gf_X6_202 G hI (isX6.shifts h0) dX6_shift_57 ?_
        exact n_iret G hI hF rfl dX6_shift_60
    · replace hF := itp c13 hF
      refine lv_sipush (v := (-1000 : Int32)) hx hb dX6_shift_44 (by decide) ?_
      exact n_iret G hI hF rfl dX6_shift_47
  · replace hF := itp c17 hF
    refine lv_aload_n hx hb dX6_shift_9 rfl (lv_at hl 0 rfl) ?_
    obtain ⟨r15, w14, z16, hF⟩ := bd_some hF
    refine n_Vi (rest := []) G hI (c_X6_refuseBad hA h0 z16) my_X6_refuseBad kl_X6_66 (isX6.lt h0) (isX6.sh h0) rfl ⟨Nat.le_of_ble_eq_true rfl, Nat.le_of_ble_eq_true rfl⟩ rfl hl.1 rfl (Nat.le_of_ble_eq_true rfl) dX6_shift_10 (fun H locs hI => ?_)
    exact n_iret G hI hF rfl dX6_shift_13
set_option maxHeartbeats 4000000 in
theorem c_X6_refuseFull (hA : AdOk n ad A) (h0 : isX6 n sh 0) {w w' : Mem} {r : Int32} (hF : F_X6_refuseFull  w = some (r, w')) : Ctr l n sh D cA ad A sa yX6_refuseFull cX6_refuseFull 1 (some .int) 0 0 [.ref (ad 0)] w (some (.int r)) w' := by
  refine m_enter hA (by decide) (Nat.le_of_ble_eq_true rfl) ?_
  intro p e s m args below meth c ls G hI hl
  replace hl : lv_has ls 1 [(0, .ref (ad 0))] := hl
  replace G : Mx n D cA ad A sa p s m args meth c RX6 cX6_refuseFull 1 (some .int) := G
  obtain ⟨hx, hb, -, -, hown, hg, -⟩ := id G
  unfold F_X6_refuseFull at hF
  refine lv_aload_n hx hb dX6_refuseFull_0 rfl (lv_at hl 0 rfl) ?_
  refine gf_X6_52 G hI h0 dX6_refuseFull_1 ?_
  refine lv_iconst (v := (2 : Int32)) hx hb dX6_refuseFull_4 (by decide) ?_
  refine lv_dup2_11 hx hb dX6_refuseFull_5 rfl rfl ?_
  refine n_ald G hI (isX6.refused h0) (by decide) dX6_refuseFull_6 ?_
  refine W.eq (g2 := F0 m 7 ls [.int (w 45 2), .int (2 : Int32), .ref (ad 45)]) rfl ?_
  refine lv_iconst (v := (1 : Int32)) hx hb dX6_refuseFull_7 (by decide) ?_
  refine lv_iadd hx hb dX6_refuseFull_8 ?_
  obtain ⟨w1, ew1, hF⟩ := lt_some hF
  refine n_ast G hI (isX6.refused h0) (by decide) dX6_refuseFull_9 (fun H locs hI => ?_)
  replace hI : Iv n sh D cA ad A s.heap w1 H locs := by rw [ew1]; exact hI
  refine lv_bipush (v := (-4 : Int32)) hx hb dX6_refuseFull_10 (by decide) ?_
  exact n_iret G hI hF rfl dX6_refuseFull_12
set_option maxHeartbeats 4000000 in
theorem c_X6_wish (hA : AdOk n ad A) (h0 : isX6 n sh 0) {a1 : Int32} {a2 : Int32} {a3 : Int32} {w w' : Mem} {r : Int32} (hF : F_X6_wish a1 a2 a3 w = some (r, w')) : Ctr l n sh D cA ad A sa yX6_wish cX6_wish 4 (some .int) 2 45 [.ref (ad 0), .int a1, .int a2, .int a3] w (some (.int r)) w' := by
  refine m_enter hA (by decide) (Nat.le_of_ble_eq_true rfl) ?_
  intro p e s m args below meth c ls G hI hl
  replace hl : lv_has ls 4 [(0, .ref (ad 0)), (1, .int a1), (2, .int a2), (3, .int a3)] := hl
  replace G : Mx n D cA ad A sa p s m args meth c RX6 cX6_wish 4 (some .int) := G
  obtain ⟨hx, hb, -, -, hown, hg, -⟩ := id G
  unfold F_X6_wish at hF
  refine lv_iload_n hx hb dX6_wish_0 rfl (lv_at hl 1 rfl) ?_
  obtain ⟨r2, w1, z3, hF⟩ := bd_some hF
  refine n_Si (rest := []) G hI (c_X6_isLeg hA  z3) my_X6_isLeg kl_X6_73 ⟨Nat.le_of_ble_eq_true rfl, Nat.le_of_ble_eq_true rfl⟩ rfl hl.1 rfl (Nat.le_of_ble_eq_true rfl) dX6_wish_1 (fun H locs hI => ?_)
  refine lv_if_eq (tgt := 31) hx hb dX6_wish_4 (by decide) (fun c31 => ?_) (fun c31 => ?_)
  · replace hF := itp c31 hF
    refine lv_aload_n hx hb dX6_wish_31 rfl (lv_at hl 0 rfl) ?_
    obtain ⟨r5, w4, z6, hF⟩ := bd_some hF
    refine n_Vi (rest := []) G hI (c_X6_refuseBad hA h0 z6) my_X6_refuseBad kl_X6_66 (isX6.lt h0) (isX6.sh h0) rfl ⟨Nat.le_of_ble_eq_true rfl, Nat.le_of_ble_eq_true rfl⟩ rfl hl.1 rfl (Nat.le_of_ble_eq_true rfl) dX6_wish_32 (fun H locs hI => ?_)
    exact n_iret G hI hF rfl dX6_wish_35
  · replace hF := itn c31 hF
    refine lv_iload_n hx hb dX6_wish_7 rfl (lv_at hl 2 rfl) ?_
    refine lv_iconst (v := (0 : Int32)) hx hb dX6_wish_8 (by decide) ?_
    refine lv_sipush (v := (999 : Int32)) hx hb dX6_wish_9 (by decide) ?_
    obtain ⟨r8, w7, z9, hF⟩ := bd_some hF
    refine n_Si (rest := []) G hI (c_X6_within hA  z9) my_X6_within kl_X6_56 ⟨Nat.le_of_ble_eq_true rfl, Nat.le_of_ble_eq_true rfl⟩ rfl hl.1 rfl (Nat.le_of_ble_eq_true rfl) dX6_wish_12 (fun H locs hI => ?_)
    refine lv_if_eq (tgt := 31) hx hb dX6_wish_15 (by decide) (fun c30 => ?_) (fun c30 => ?_)
    · replace hF := itp c30 hF
      refine lv_aload_n hx hb dX6_wish_31 rfl (lv_at hl 0 rfl) ?_
      obtain ⟨r11, w10, z12, hF⟩ := bd_some hF
      refine n_Vi (rest := []) G hI (c_X6_refuseBad hA h0 z12) my_X6_refuseBad kl_X6_66 (isX6.lt h0) (isX6.sh h0) rfl ⟨Nat.le_of_ble_eq_true rfl, Nat.le_of_ble_eq_true rfl⟩ rfl hl.1 rfl (Nat.le_of_ble_eq_true rfl) dX6_wish_32 (fun H locs hI => ?_)
      exact n_iret G hI hF rfl dX6_wish_35
    · replace hF := itn c30 hF
      refine lv_iload_n hx hb dX6_wish_18 rfl (lv_at hl 3 rfl) ?_
      refine lv_sipush (v := (-500 : Int32)) hx hb dX6_wish_19 (by decide) ?_
      refine lv_sipush (v := (500 : Int32)) hx hb dX6_wish_22 (by decide) ?_
      obtain ⟨r14, w13, z15, hF⟩ := bd_some hF
      refine n_Si (rest := []) G hI (c_X6_within hA  z15) my_X6_within kl_X6_56 ⟨Nat.le_of_ble_eq_true rfl, Nat.le_of_ble_eq_true rfl⟩ rfl hl.1 rfl (Nat.le_of_ble_eq_true rfl) dX6_wish_25 (fun H locs hI => ?_)
      refine lv_if_ne (tgt := 36) hx hb dX6_wish_28 (by decide) (fun c29 => ?_) (fun c29 => ?_)
      · replace hF := itn c29 hF
        refine lv_aload_n hx hb dX6_wish_36 rfl (lv_at hl 0 rfl) ?_
        refine gf_X6_10 G hI h0 dX6_wish_37 ?_
        refine gf_X6_208 G hI (isX6.drive h0) dX6_wish_40 ?_
        obtain ⟨r17, w16, z18, hF⟩ := bd_some hF
        refine n_Vi (rest := []) G hI (c_X4_isFull hA (isX0.wishes (isX6.drive h0)) z18) my_X4_isFull kl_X6_211 (isX4.lt (isX0.wishes (isX6.drive h0))) (isX4.sh (isX0.wishes (isX6.drive h0))) rfl ⟨Nat.le_of_ble_eq_true rfl, Nat.le_of_ble_eq_true rfl⟩ rfl hl.1 rfl (Nat.le_of_ble_eq_true rfl) dX6_wish_43 (fun H locs hI => ?_)
        refine lv_if_eq (tgt := 54) hx hb dX6_wish_46 (by decide) (fun c25 => ?_) (fun c25 => ?_)
        · replace hF := itp c25 hF
          refine lv_aload_n hx hb dX6_wish_54 rfl (lv_at hl 0 rfl) ?_
          refine gf_X6_10 G hI h0 dX6_wish_55 ?_
          refine gf_X6_208 G hI (isX6.drive h0) dX6_wish_58 ?_
          refine lv_iload_n hx hb dX6_wish_61 rfl (lv_at hl 1 rfl) ?_
          refine lv_iload_n hx hb dX6_wish_62 rfl (lv_at hl 2 rfl) ?_
          refine lv_iload_n hx hb dX6_wish_63 rfl (lv_at hl 3 rfl) ?_
          refine lv_iconst (v := (0 : Int32)) hx hb dX6_wish_64 (by decide) ?_
          obtain ⟨r20, w19, z21, hF⟩ := bd_some hF
          refine n_Vv (rest := []) G hI (c_X4_add hA (isX0.wishes (isX6.drive h0)) z21) my_X4_add kl_X6_218 (isX4.lt (isX0.wishes (isX6.drive h0))) (isX4.sh (isX0.wishes (isX6.drive h0))) rfl ⟨Nat.le_of_ble_eq_true rfl, Nat.le_of_ble_eq_true rfl⟩ rfl hl.1 rfl (Nat.le_of_ble_eq_true rfl) dX6_wish_65 (fun H locs hI => ?_)
          refine lv_aload_n hx hb dX6_wish_68 rfl (lv_at hl 0 rfl) ?_
          refine gf_X6_10 G hI h0 dX6_wish_69 ?_
          refine gf_X6_208 G hI (isX6.drive h0) dX6_wish_72 ?_
          refine gf_X6_132 G hI (isX0.wishes (isX6.drive h0)) dX6_wish_75 ?_
          exact n_iret G hI hF rfl dX6_wish_78
        · replace hF := itn c25 hF
          refine lv_aload_n hx hb dX6_wish_49 rfl (lv_at hl 0 rfl) ?_
          obtain ⟨r23, w22, z24, hF⟩ := bd_some hF
          refine n_Vi (rest := []) G hI (c_X6_refuseFull hA h0 z24) my_X6_refuseFull kl_X6_215 (isX6.lt h0) (isX6.sh h0) rfl ⟨Nat.le_of_ble_eq_true rfl, Nat.le_of_ble_eq_true rfl⟩ rfl hl.1 rfl (Nat.le_of_ble_eq_true rfl) dX6_wish_50 (fun H locs hI => ?_)
          exact n_iret G hI hF rfl dX6_wish_53
      · replace hF := itp c29 hF
        refine lv_aload_n hx hb dX6_wish_31 rfl (lv_at hl 0 rfl) ?_
        obtain ⟨r27, w26, z28, hF⟩ := bd_some hF
        refine n_Vi (rest := []) G hI (c_X6_refuseBad hA h0 z28) my_X6_refuseBad kl_X6_66 (isX6.lt h0) (isX6.sh h0) rfl ⟨Nat.le_of_ble_eq_true rfl, Nat.le_of_ble_eq_true rfl⟩ rfl hl.1 rfl (Nat.le_of_ble_eq_true rfl) dX6_wish_32 (fun H locs hI => ?_)
        exact n_iret G hI hF rfl dX6_wish_35
set_option maxHeartbeats 4000000 in
theorem c_X6_unwish (hA : AdOk n ad A) (h0 : isX6 n sh 0) {a1 : Int32} {w w' : Mem} {r : Int32} (hF : F_X6_unwish a1 w = some (r, w')) : Ctr l n sh D cA ad A sa yX6_unwish cX6_unwish 2 (some .int) 4 88 [.ref (ad 0), .int a1] w (some (.int r)) w' := by
  refine m_enter hA (by decide) (Nat.le_of_ble_eq_true rfl) ?_
  intro p e s m args below meth c ls G hI hl
  replace hl : lv_has ls 2 [(0, .ref (ad 0)), (1, .int a1)] := hl
  replace G : Mx n D cA ad A sa p s m args meth c RX6 cX6_unwish 2 (some .int) := G
  obtain ⟨hx, hb, -, -, hown, hg, -⟩ := id G
  unfold F_X6_unwish at hF
  refine lv_iload_n hx hb dX6_unwish_0 rfl (lv_at hl 1 rfl) ?_
  obtain ⟨r2, w1, z3, hF⟩ := bd_some hF
  refine n_Si (rest := []) G hI (c_X6_isLeg hA  z3) my_X6_isLeg kl_X6_73 ⟨Nat.le_of_ble_eq_true rfl, Nat.le_of_ble_eq_true rfl⟩ rfl hl.1 rfl (Nat.le_of_ble_eq_true rfl) dX6_unwish_1 (fun H locs hI => ?_)
  refine lv_if_ne (tgt := 12) hx hb dX6_unwish_4 (by decide) (fun c10 => ?_) (fun c10 => ?_)
  · replace hF := itn c10 hF
    refine lv_aload_n hx hb dX6_unwish_12 rfl (lv_at hl 0 rfl) ?_
    refine gf_X6_10 G hI h0 dX6_unwish_13 ?_
    refine lv_iload_n hx hb dX6_unwish_16 rfl (lv_at hl 1 rfl) ?_
    obtain ⟨r5, w4, z6, hF⟩ := bd_some hF
    refine n_Vi (rest := []) G hI (c_X0_dropWishesOf hA (isX6.drive h0) z6) my_X0_dropWishesOf kl_X6_222 (isX0.lt (isX6.drive h0)) (isX0.sh (isX6.drive h0)) rfl ⟨Nat.le_of_ble_eq_true rfl, Nat.le_of_ble_eq_true rfl⟩ rfl hl.1 rfl (Nat.le_of_ble_eq_true rfl) dX6_unwish_17 (fun H locs hI => ?_)
    exact n_iret G hI hF rfl dX6_unwish_20
  · replace hF := itp c10 hF
    refine lv_aload_n hx hb dX6_unwish_7 rfl (lv_at hl 0 rfl) ?_
    obtain ⟨r8, w7, z9, hF⟩ := bd_some hF
    refine n_Vi (rest := []) G hI (c_X6_refuseBad hA h0 z9) my_X6_refuseBad kl_X6_66 (isX6.lt h0) (isX6.sh h0) rfl ⟨Nat.le_of_ble_eq_true rfl, Nat.le_of_ble_eq_true rfl⟩ rfl hl.1 rfl (Nat.le_of_ble_eq_true rfl) dX6_unwish_8 (fun H locs hI => ?_)
    exact n_iret G hI hF rfl dX6_unwish_11
set_option maxHeartbeats 4000000 in
theorem c_X6_wished (hA : AdOk n ad A) (h0 : isX6 n sh 0) {a1 : Int32} {a2 : Int32} {w w' : Mem} {r : Int32} (hF : F_X6_wished a1 a2 w = some (r, w')) : Ctr l n sh D cA ad A sa yX6_wished cX6_wished 3 (some .int) 2 45 [.ref (ad 0), .int a1, .int a2] w (some (.int r)) w' := by
  refine m_enter hA (by decide) (Nat.le_of_ble_eq_true rfl) ?_
  intro p e s m args below meth c ls G hI hl
  replace hl : lv_has ls 3 [(0, .ref (ad 0)), (1, .int a1), (2, .int a2)] := hl
  replace G : Mx n D cA ad A sa p s m args meth c RX6 cX6_wished 3 (some .int) := G
  obtain ⟨hx, hb, -, -, hown, hg, -⟩ := id G
  unfold F_X6_wished at hF
  refine lv_iload_n hx hb dX6_wished_0 rfl (lv_at hl 1 rfl) ?_
  refine lv_if_lt (tgt := 13) hx hb dX6_wished_1 (by decide) (fun c14 => ?_) (fun c14 => ?_)
  · replace hF := itp c14 hF
    refine lv_aload_n hx hb dX6_wished_13 rfl (lv_at hl 0 rfl) ?_
    obtain ⟨r2, w1, z3, hF⟩ := bd_some hF
    refine n_Vi (rest := []) G hI (c_X6_refuseBad hA h0 z3) my_X6_refuseBad kl_X6_66 (isX6.lt h0) (isX6.sh h0) rfl ⟨Nat.le_of_ble_eq_true rfl, Nat.le_of_ble_eq_true rfl⟩ rfl hl.1 rfl (Nat.le_of_ble_eq_true rfl) dX6_wished_14 (fun H locs hI => ?_)
    exact n_iret G hI hF rfl dX6_wished_17
  · replace hF := itn c14 hF
    refine lv_iload_n hx hb dX6_wished_4 rfl (lv_at hl 2 rfl) ?_
    refine lv_iconst (v := (0 : Int32)) hx hb dX6_wished_5 (by decide) ?_
    refine lv_iconst (v := (2 : Int32)) hx hb dX6_wished_6 (by decide) ?_
    obtain ⟨r5, w4, z6, hF⟩ := bd_some hF
    refine n_Si (rest := []) G hI (c_X6_within hA  z6) my_X6_within kl_X6_56 ⟨Nat.le_of_ble_eq_true rfl, Nat.le_of_ble_eq_true rfl⟩ rfl hl.1 rfl (Nat.le_of_ble_eq_true rfl) dX6_wished_7 (fun H locs hI => ?_)
    refine lv_if_ne (tgt := 18) hx hb dX6_wished_10 (by decide) (fun c13 => ?_) (fun c13 => ?_)
    · replace hF := itn c13 hF
      refine lv_aload_n hx hb dX6_wished_18 rfl (lv_at hl 0 rfl) ?_
      refine gf_X6_10 G hI h0 dX6_wished_19 ?_
      refine gf_X6_208 G hI (isX6.drive h0) dX6_wished_22 ?_
      refine lv_iconst (v := (-1 : Int32)) hx hb dX6_wished_25 (by decide) ?_
      refine lv_iload_n hx hb dX6_wished_26 rfl (lv_at hl 1 rfl) ?_
      refine lv_iload_n hx hb dX6_wished_27 rfl (lv_at hl 2 rfl) ?_
      obtain ⟨r8, w7, z9, hF⟩ := bd_some hF
      refine n_Vi (rest := []) G hI (c_X4_cellOr hA (isX0.wishes (isX6.drive h0)) z9) my_X4_cellOr kl_X6_166 (isX4.lt (isX0.wishes (isX6.drive h0))) (isX4.sh (isX0.wishes (isX6.drive h0))) rfl ⟨Nat.le_of_ble_eq_true rfl, Nat.le_of_ble_eq_true rfl⟩ rfl hl.1 rfl (Nat.le_of_ble_eq_true rfl) dX6_wished_28 (fun H locs hI => ?_)
      exact n_iret G hI hF rfl dX6_wished_31
    · replace hF := itp c13 hF
      refine lv_aload_n hx hb dX6_wished_13 rfl (lv_at hl 0 rfl) ?_
      obtain ⟨r11, w10, z12, hF⟩ := bd_some hF
      refine n_Vi (rest := []) G hI (c_X6_refuseBad hA h0 z12) my_X6_refuseBad kl_X6_66 (isX6.lt h0) (isX6.sh h0) rfl ⟨Nat.le_of_ble_eq_true rfl, Nat.le_of_ble_eq_true rfl⟩ rfl hl.1 rfl (Nat.le_of_ble_eq_true rfl) dX6_wished_14 (fun H locs hI => ?_)
      exact n_iret G hI hF rfl dX6_wished_17
set_option maxHeartbeats 4000000 in
theorem c_X6_remember (hA : AdOk n ad A) (h0 : isX6 n sh 0) {a1 : Int32} {w w' : Mem} {r : Unit} (hF : F_X6_remember a1 w = some (r, w')) : Ctr l n sh D cA ad A sa yX6_remember cX6_remember 2 none 4 85 [.ref (ad 0), .int a1] w none w' := by
  refine m_enter hA (by decide) (Nat.le_of_ble_eq_true rfl) ?_
  intro p e s m args below meth c ls G hI hl
  replace hl : lv_has ls 2 [(0, .ref (ad 0)), (1, .int a1)] := hl
  replace G : Mx n D cA ad A sa p s m args meth c RX6 cX6_remember 2 none := G
  obtain ⟨hx, hb, -, -, hown, hg, -⟩ := id G
  unfold F_X6_remember at hF
  refine lv_aload_n hx hb dX6_remember_0 rfl (lv_at hl 0 rfl) ?_
  refine gf_X6_42 G hI h0 dX6_remember_1 ?_
  obtain ⟨r2, w1, z3, hF⟩ := bd_some hF
  refine n_Vi (rest := []) G hI (c_X4_isFull hA (isX6.remembered h0) z3) my_X4_isFull kl_X6_211 (isX4.lt (isX6.remembered h0)) (isX4.sh (isX6.remembered h0)) rfl ⟨Nat.le_of_ble_eq_true rfl, Nat.le_of_ble_eq_true rfl⟩ rfl hl.1 rfl (Nat.le_of_ble_eq_true rfl) dX6_remember_4 (fun H locs hI => ?_)
  obtain ⟨k4, ek4, hF⟩ := jn_some hF
  have hJ4 : ∀ (w5 : Mem) (H : Heap) (locs : List Loc) (ls : Array Slot), k4  w5 = some (r, w') → Iv n sh D cA ad A s.heap w5 H locs → lv_has ls 2 [(0, .ref (ad 0)), (1, .int a1)] → W p l e ({ frames := 4, cells := 0, slots := 0, locals := 85 } : Room) s m args below meth c H locs 0 0 (QM n sh D cA ad A below args s none w') (F0 m 17 ls []) := by
    intro  w5 H locs ls hF hI hl
    replace hF := (congrFun ek4 w5).symm.trans hF
    refine lv_aload_n hx hb dX6_remember_17 rfl (lv_at hl 0 rfl) ?_
    refine gf_X6_42 G hI h0 dX6_remember_18 ?_
    refine lv_aload_n hx hb dX6_remember_21 rfl (lv_at hl 0 rfl) ?_
    refine gf_X6_10 G hI h0 dX6_remember_22 ?_
    refine gf_X6_80 G hI (isX6.drive h0) dX6_remember_25 ?_
    refine lv_iconst (v := (0 : Int32)) hx hb dX6_remember_28 (by decide) ?_
    refine n_ald G hI (isX0.current (isX6.drive h0)) (by decide) dX6_remember_29 ?_
    refine W.eq (g2 := F0 m 30 ls [.int (w5 4 0), .ref (ad 39)]) rfl ?_
    refine lv_aload_n hx hb dX6_remember_30 rfl (lv_at hl 0 rfl) ?_
    refine gf_X6_10 G hI h0 dX6_remember_31 ?_
    refine gf_X6_80 G hI (isX6.drive h0) dX6_remember_34 ?_
    refine lv_iconst (v := (1 : Int32)) hx hb dX6_remember_37 (by decide) ?_
    refine n_ald G hI (isX0.current (isX6.drive h0)) (by decide) dX6_remember_38 ?_
    refine W.eq (g2 := F0 m 39 ls [.int (w5 4 1), .int (w5 4 0), .ref (ad 39)]) rfl ?_
    refine lv_aload_n hx hb dX6_remember_39 rfl (lv_at hl 0 rfl) ?_
    refine gf_X6_10 G hI h0 dX6_remember_40 ?_
    refine gf_X6_80 G hI (isX6.drive h0) dX6_remember_43 ?_
    refine lv_iconst (v := (2 : Int32)) hx hb dX6_remember_46 (by decide) ?_
    refine n_ald G hI (isX0.current (isX6.drive h0)) (by decide) dX6_remember_47 ?_
    refine W.eq (g2 := F0 m 48 ls [.int (w5 4 2), .int (w5 4 1), .int (w5 4 0), .ref (ad 39)]) rfl ?_
    refine lv_iload_n hx hb dX6_remember_48 rfl (lv_at hl 1 rfl) ?_
    obtain ⟨r7, w6, z8, hF⟩ := bd_some hF
    refine n_Vv (rest := []) G hI (c_X4_add hA (isX6.remembered h0) z8) my_X4_add kl_X6_218 (isX4.lt (isX6.remembered h0)) (isX4.sh (isX6.remembered h0)) rfl ⟨Nat.le_of_ble_eq_true rfl, Nat.le_of_ble_eq_true rfl⟩ rfl hl.1 rfl (Nat.le_of_ble_eq_true rfl) dX6_remember_49 (fun H locs hI => ?_)
    exact n_vret G hI hF rfl dX6_remember_52
  refine lv_if_eq (tgt := 17) hx hb dX6_remember_7 (by decide) (fun c12 => ?_) (fun c12 => ?_)
  · replace hF := itp c12 hF
    exact hJ4 _ _ _ _ hF hI (lv_sub hl [0, 1] rfl)
  · replace hF := itn c12 hF
    refine lv_aload_n hx hb dX6_remember_10 rfl (lv_at hl 0 rfl) ?_
    refine gf_X6_42 G hI h0 dX6_remember_11 ?_
    obtain ⟨r10, w9, z11, hF⟩ := bd_some hF
    refine n_Vv (rest := []) G hI (c_X4_dropFirst hA (isX6.remembered h0) z11) my_X4_dropFirst kl_X6_293 (isX4.lt (isX6.remembered h0)) (isX4.sh (isX6.remembered h0)) rfl ⟨Nat.le_of_ble_eq_true rfl, Nat.le_of_ble_eq_true rfl⟩ rfl hl.1 rfl (Nat.le_of_ble_eq_true rfl) dX6_remember_14 (fun H locs hI => ?_)
    exact hJ4 _ _ _ _ hF hI (lv_sub hl [0, 1] rfl)
set_option maxHeartbeats 4000000 in
theorem l_X6_steps_19 {p : Program} {e : Env} {s : State} {m : MethodId} {args : Array Value} {below : List Frame} {meth : Method} {c : Code} (G : Mx n D cA ad A sa p s m args meth c RX6 cX6_steps 5 (some .int)) {a1 : Int32} (h0 : isX6 n sh 0) {k : Int32 → Mem → Option (Int32 × Mem)} {r : Int32} {w' : Mem}
    (hk : ∀ (v2 : Int32) (w : Mem) (H : Heap) (locs : List Loc) (ls : Array Slot), k v2 w = some (r, w') → Iv n sh D cA ad A s.heap w H locs → lv_has ls 5 [(2, .int v2)] → W p l e ({ frames := 6, cells := 0, slots := 0, locals := 134 } : Room) s m args below meth c H locs 0 0 (QM n sh D cA ad A below args s (some (.int r)) w') (F0 m 58 ls [])) :
    ∀ (N : Nat) (v2 : Int32) (v3 : Int32) (w : Mem) (H : Heap) (locs : List Loc) (ls : Array Slot), L_X6_steps_19 a1 k N v2 v3 w = some (r, w') → Iv n sh D cA ad A s.heap w H locs → lv_has ls 5 [(0, .ref (ad 0)), (1, .int a1), (2, .int v2), (3, .int v3)] → W p l e ({ frames := 6, cells := 0, slots := 0, locals := 134 } : Room) s m args below meth c H locs 0 0 (QM n sh D cA ad A below args s (some (.int r)) w') (F0 m 19 ls []) := by
  obtain ⟨hx, hb, -, -, hown, hg, -, -, -, -, hA⟩ := id G
  intro N
  induction N with
  | zero =>
    intro v2 v3 w H locs ls hF hI hl
    cases hF
  | succ N ih =>
    intro v2 v3 w H locs ls hF hI hl
    rw [L_X6_steps_19] at hF
    refine lv_iload_n hx hb dX6_steps_19 rfl (lv_at hl 3 rfl) ?_
    refine lv_iload_n hx hb dX6_steps_20 rfl (lv_at hl 1 rfl) ?_
    refine lv_icmp_ge (tgt := 58) hx hb dX6_steps_21 (by decide) (fun c13 => ?_) (fun c13 => ?_)
    · replace hF := itp c13 hF
      exact hk _ _ _ _ _ hF hI (lv_sub hl [2] rfl)
    · replace hF := itn c13 hF
      refine lv_aload_n hx hb dX6_steps_24 rfl (lv_at hl 0 rfl) ?_
      refine gf_X6_10 G hI h0 dX6_steps_25 ?_
      obtain ⟨r5, w4, z6, hF⟩ := bd_some hF
      refine n_Vi (rest := []) G hI (c_X0_stepOnce hA (isX6.drive h0) z6) my_X0_stepOnce kl_X6_225 (isX0.lt (isX6.drive h0)) (isX0.sh (isX6.drive h0)) rfl ⟨Nat.le_of_ble_eq_true rfl, Nat.le_of_ble_eq_true rfl⟩ rfl hl.1 rfl (Nat.le_of_ble_eq_true rfl) dX6_steps_28 (fun H locs hI => ?_)
      obtain ⟨k7, ek7, hF⟩ := jn_some hF
      have hJ7 : ∀ (x8 : Int32) (H : Heap) (locs : List Loc) (ls : Array Slot), k7 x8 = some (r, w') → Iv n sh D cA ad A s.heap w4 H locs → lv_has ls 5 [(0, .ref (ad 0)), (1, .int a1), (2, .int v2), (3, .int v3)] → W p l e ({ frames := 6, cells := 0, slots := 0, locals := 134 } : Room) s m args below meth c H locs 0 0 (QM n sh D cA ad A below args s (some (.int r)) w') (F0 m 39 ls [.int x8]) := by
        intro x8 H locs ls hF hI hl
        replace hF := (congrFun ek7 x8).symm.trans hF
        refine lv_istore (lv' := [(4, .int x8), (0, .ref (ad 0)), (1, .int a1), (2, .int v2), (3, .int v3)]) hx hb dX6_steps_39 hl (by decide) rfl (fun ls hl => ?_)
        refine lv_aload_n hx hb dX6_steps_41 rfl (lv_at hl 1 rfl) ?_
        refine lv_iload hx hb dX6_steps_42 (lv_at hl 0 rfl) ?_
        obtain ⟨r10, w9, z11, hF⟩ := bd_some hF
        refine n_Vv (rest := []) G hI (c_X6_remember hA h0 z11) my_X6_remember kl_X6_228 (isX6.lt h0) (isX6.sh h0) rfl ⟨Nat.le_of_ble_eq_true rfl, Nat.le_of_ble_eq_true rfl⟩ rfl hl.1 rfl (Nat.le_of_ble_eq_true rfl) dX6_steps_44 (fun H locs hI => ?_)
        refine lv_iload_n hx hb dX6_steps_47 rfl (lv_at hl 3 rfl) ?_
        refine lv_iload hx hb dX6_steps_48 (lv_at hl 0 rfl) ?_
        refine lv_iadd hx hb dX6_steps_50 ?_
        refine lv_istore_n (lv' := [(2, .int (v2 + x8)), (4, .int x8), (0, .ref (ad 0)), (1, .int a1), (3, .int v3)]) hx hb dX6_steps_51 rfl hl (by decide) rfl (fun ls hl => ?_)
        refine lv_iinc (v := (v3 + (1 : Int32))) (lv' := [(3, .int (v3 + (1 : Int32))), (2, .int (v2 + x8)), (4, .int x8), (0, .ref (ad 0)), (1, .int a1)]) hx hb dX6_steps_52 hl (k := 4) rfl rfl (by decide) rfl (fun ls hl => ?_)
        refine lv_goto (tgt := 19) hx hb dX6_steps_55 (by decide) ?_
        exact ih _ _ _ _ _ _ hF hI (lv_sub hl [3, 4, 1, 0] rfl)
      refine lv_if_eq (tgt := 38) hx hb dX6_steps_31 (by decide) (fun c12 => ?_) (fun c12 => ?_)
      · replace hF := itp c12 hF
        refine lv_iconst (v := (0 : Int32)) hx hb dX6_steps_38 (by decide) ?_
        exact hJ7 _ _ _ _ hF hI (lv_sub hl [0, 1, 2, 3] rfl)
      · replace hF := itn c12 hF
        refine lv_iconst (v := (1 : Int32)) hx hb dX6_steps_34 (by decide) ?_
        refine lv_goto (tgt := 39) hx hb dX6_steps_35 (by decide) ?_
        exact hJ7 _ _ _ _ hF hI (lv_sub hl [0, 1, 2, 3] rfl)
set_option maxHeartbeats 4000000 in
theorem c_X6_steps (hA : AdOk n ad A) (h0 : isX6 n sh 0) {a1 : Int32} {w w' : Mem} {r : Int32} (hF : F_X6_steps a1 w = some (r, w')) : Ctr l n sh D cA ad A sa yX6_steps cX6_steps 5 (some .int) 6 134 [.ref (ad 0), .int a1] w (some (.int r)) w' := by
  refine m_enter hA (by decide) (Nat.le_of_ble_eq_true rfl) ?_
  intro p e s m args below meth c ls G hI hl
  replace hl : lv_has ls 5 [(0, .ref (ad 0)), (1, .int a1)] := hl
  replace G : Mx n D cA ad A sa p s m args meth c RX6 cX6_steps 5 (some .int) := G
  obtain ⟨hx, hb, -, -, hown, hg, -⟩ := id G
  unfold F_X6_steps at hF
  refine lv_iload_n hx hb dX6_steps_0 rfl (lv_at hl 1 rfl) ?_
  refine lv_iconst (v := (1 : Int32)) hx hb dX6_steps_1 (by decide) ?_
  refine lv_bipush (v := (50 : Int32)) hx hb dX6_steps_2 (by decide) ?_
  obtain ⟨r2, w1, z3, hF⟩ := bd_some hF
  refine n_Si (rest := []) G hI (c_X6_within hA  z3) my_X6_within kl_X6_56 ⟨Nat.le_of_ble_eq_true rfl, Nat.le_of_ble_eq_true rfl⟩ rfl hl.1 rfl (Nat.le_of_ble_eq_true rfl) dX6_steps_4 (fun H locs hI => ?_)
  refine lv_if_ne (tgt := 15) hx hb dX6_steps_7 (by decide) (fun c19 => ?_) (fun c19 => ?_)
  · replace hF := itn c19 hF
    refine lv_iconst (v := (0 : Int32)) hx hb dX6_steps_15 (by decide) ?_
    refine lv_istore_n (lv' := [(2, .int (0 : Int32)), (0, .ref (ad 0)), (1, .int a1)]) hx hb dX6_steps_16 rfl hl (by decide) rfl (fun ls hl => ?_)
    refine lv_iconst (v := (0 : Int32)) hx hb dX6_steps_17 (by decide) ?_
    refine lv_istore_n (lv' := [(3, .int (0 : Int32)), (2, .int (0 : Int32)), (0, .ref (ad 0)), (1, .int a1)]) hx hb dX6_steps_18 rfl hl (by decide) rfl (fun ls hl => ?_)
    refine l_X6_steps_19 G h0 (fun x15 w14 H locs ls hF hI hl => ?_) _ _ _ _ _ _ _ hF hI (lv_sub hl [2, 3, 1, 0] rfl)
    refine lv_iload_n hx hb dX6_steps_58 rfl (lv_at hl 0 rfl) ?_
    exact n_iret G hI hF rfl dX6_steps_59
  · replace hF := itp c19 hF
    refine lv_aload_n hx hb dX6_steps_10 rfl (lv_at hl 0 rfl) ?_
    obtain ⟨r17, w16, z18, hF⟩ := bd_some hF
    refine n_Vi (rest := []) G hI (c_X6_refuseBad hA h0 z18) my_X6_refuseBad kl_X6_66 (isX6.lt h0) (isX6.sh h0) rfl ⟨Nat.le_of_ble_eq_true rfl, Nat.le_of_ble_eq_true rfl⟩ rfl hl.1 rfl (Nat.le_of_ble_eq_true rfl) dX6_steps_11 (fun H locs hI => ?_)
    exact n_iret G hI hF rfl dX6_steps_14
end WK6
