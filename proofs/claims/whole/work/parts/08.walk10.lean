/-! walks, by program (wip/gen/walk.py): X7_bits, X7_ticksOf, X7_plansBy, X7_plan, X7_gateMany, X7_ofBy, X7_of, X7_at, X7_run, X7_seen, X7_told -/
section WK10
variable {n : Nat} {sh : Nat → Shp} {D : va_G} {cA : ClassId} {ad : Nat → Nat} {A : Nat → Prop} {sa : Nat → Nat} {l : Launch}
set_option maxHeartbeats 4000000 in
theorem c_X7_bits (hA : AdOk n ad A) {a0 : Int32} {w w' : Mem} {r : Int32} (hF : F_X7_bits a0 w = some (r, w')) : Ctr l n sh D cA ad A sa yX7_bits cX7_bits 1 (some .int) 0 0 [.int a0] w (some (.int r)) w' := by
  refine m_enter hA (by decide) (Nat.le_of_ble_eq_true rfl) ?_
  intro p e s m args below meth c ls G hI hl
  replace hl : lv_has ls 1 [(0, .int a0)] := hl
  replace G : Mx n D cA ad A sa p s m args meth c RX7 cX7_bits 1 (some .int) := G
  obtain ⟨hx, hb, -, -, hown, hg, -⟩ := id G
  unfold F_X7_bits at hF
  refine lv_iload_n hx hb dX7_bits_0 rfl (lv_at hl 0 rfl) ?_
  refine lv_iconst (v := (1 : Int32)) hx hb dX7_bits_1 (by decide) ?_
  refine lv_iand hx hb dX7_bits_2 ?_
  refine lv_iload_n hx hb dX7_bits_3 rfl (lv_at hl 0 rfl) ?_
  refine lv_iconst (v := (1 : Int32)) hx hb dX7_bits_4 (by decide) ?_
  refine lv_ishr hx hb dX7_bits_5 ?_
  refine lv_iconst (v := (1 : Int32)) hx hb dX7_bits_6 (by decide) ?_
  refine lv_iand hx hb dX7_bits_7 ?_
  refine lv_iadd hx hb dX7_bits_8 ?_
  refine lv_iload_n hx hb dX7_bits_9 rfl (lv_at hl 0 rfl) ?_
  refine lv_iconst (v := (2 : Int32)) hx hb dX7_bits_10 (by decide) ?_
  refine lv_ishr hx hb dX7_bits_11 ?_
  refine lv_iconst (v := (1 : Int32)) hx hb dX7_bits_12 (by decide) ?_
  refine lv_iand hx hb dX7_bits_13 ?_
  refine lv_iadd hx hb dX7_bits_14 ?_
  exact n_iret G hI hF rfl dX7_bits_15
set_option maxHeartbeats 4000000 in
theorem l_X7_ticksOf_4 {p : Program} {e : Env} {s : State} {m : MethodId} {args : Array Value} {below : List Frame} {meth : Method} {c : Code} (G : Mx n D cA ad A sa p s m args meth c RX7 cX7_ticksOf 4 (some .int)) {a1 : Int32} (h0 : isX7 n sh 0) {k : Int32 → Mem → Option (Int32 × Mem)} {r : Int32} {w' : Mem}
    (hk : ∀ (v2 : Int32) (w : Mem) (H : Heap) (locs : List Loc) (ls : Array Slot), k v2 w = some (r, w') → Iv n sh D cA ad A s.heap w H locs → lv_has ls 4 [(2, .int v2)] → W p l e ({ frames := 2, cells := 0, slots := 0, locals := 43 } : Room) s m args below meth c H locs 0 0 (QM n sh D cA ad A below args s (some (.int r)) w') (F0 m 37 ls [])) :
    ∀ (N : Nat) (v2 : Int32) (v3 : Int32) (w : Mem) (H : Heap) (locs : List Loc) (ls : Array Slot), L_X7_ticksOf_4 a1 k N v2 v3 w = some (r, w') → Iv n sh D cA ad A s.heap w H locs → lv_has ls 4 [(0, .ref (ad 0)), (1, .int a1), (2, .int v2), (3, .int v3)] → W p l e ({ frames := 2, cells := 0, slots := 0, locals := 43 } : Room) s m args below meth c H locs 0 0 (QM n sh D cA ad A below args s (some (.int r)) w') (F0 m 4 ls []) := by
  obtain ⟨hx, hb, -, -, hown, hg, -, -, -, -, hA⟩ := id G
  intro N
  induction N with
  | zero =>
    intro v2 v3 w H locs ls hF hI hl
    cases hF
  | succ N ih =>
    intro v2 v3 w H locs ls hF hI hl
    rw [L_X7_ticksOf_4] at hF
    refine lv_iload_n hx hb dX7_ticksOf_4 rfl (lv_at hl 3 rfl) ?_
    refine lv_aload_n hx hb dX7_ticksOf_5 rfl (lv_at hl 0 rfl) ?_
    refine gf_X7_13 G hI h0 dX7_ticksOf_6 ?_
    refine lv_iconst (v := (0 : Int32)) hx hb dX7_ticksOf_9 (by decide) ?_
    refine n_ald G hI (isX7.told h0) (by decide) dX7_ticksOf_10 ?_
    refine W.eq (g2 := F0 m 11 ls [.int (w 2 0), .int v3]) rfl ?_
    refine lv_icmp_ge (tgt := 37) hx hb dX7_ticksOf_11 (by decide) (fun c5 => ?_) (fun c5 => ?_)
    · replace hF := itp c5 hF
      exact hk _ _ _ _ _ hF hI (lv_sub hl [2] rfl)
    · replace hF := itn c5 hF
      refine lv_iload_n hx hb dX7_ticksOf_14 rfl (lv_at hl 2 rfl) ?_
      refine lv_aload_n hx hb dX7_ticksOf_15 rfl (lv_at hl 0 rfl) ?_
      refine lv_iload_n hx hb dX7_ticksOf_16 rfl (lv_at hl 3 rfl) ?_
      obtain ⟨r2, w1, z3, hF⟩ := bd_some hF
      refine n_Vi (rest := [.int v2]) G hI (c_X7_patternAt hA h0 z3) my_X7_patternAt kl_X7_150 (isX7.lt h0) (isX7.sh h0) rfl ⟨Nat.le_of_ble_eq_true rfl, Nat.le_of_ble_eq_true rfl⟩ rfl hl.1 rfl (Nat.le_of_ble_eq_true rfl) dX7_ticksOf_17 (fun H locs hI => ?_)
      refine lv_iload_n hx hb dX7_ticksOf_20 rfl (lv_at hl 1 rfl) ?_
      refine lv_icmp_ne (tgt := 28) hx hb dX7_ticksOf_21 (by decide) (fun c4 => ?_) (fun c4 => ?_)
      · replace hF := itn c4 hF
        refine lv_iconst (v := (0 : Int32)) hx hb dX7_ticksOf_28 (by decide) ?_
        refine lv_iadd hx hb dX7_ticksOf_29 ?_
        refine lv_istore_n (lv' := [(2, .int (v2 + (0 : Int32))), (0, .ref (ad 0)), (1, .int a1), (3, .int v3)]) hx hb dX7_ticksOf_30 rfl hl (by decide) rfl (fun ls hl => ?_)
        refine lv_iinc (v := (v3 + (1 : Int32))) (lv' := [(3, .int (v3 + (1 : Int32))), (2, .int (v2 + (0 : Int32))), (0, .ref (ad 0)), (1, .int a1)]) hx hb dX7_ticksOf_31 hl (k := 3) rfl rfl (by decide) rfl (fun ls hl => ?_)
        refine lv_goto (tgt := 4) hx hb dX7_ticksOf_34 (by decide) ?_
        exact ih _ _ _ _ _ _ hF hI (lv_sub hl [2, 3, 1, 0] rfl)
      · replace hF := itp c4 hF
        refine lv_iconst (v := (1 : Int32)) hx hb dX7_ticksOf_24 (by decide) ?_
        refine lv_goto (tgt := 29) hx hb dX7_ticksOf_25 (by decide) ?_
        refine lv_iadd hx hb dX7_ticksOf_29 ?_
        refine lv_istore_n (lv' := [(2, .int (v2 + (1 : Int32))), (0, .ref (ad 0)), (1, .int a1), (3, .int v3)]) hx hb dX7_ticksOf_30 rfl hl (by decide) rfl (fun ls hl => ?_)
        refine lv_iinc (v := (v3 + (1 : Int32))) (lv' := [(3, .int (v3 + (1 : Int32))), (2, .int (v2 + (1 : Int32))), (0, .ref (ad 0)), (1, .int a1)]) hx hb dX7_ticksOf_31 hl (k := 3) rfl rfl (by decide) rfl (fun ls hl => ?_)
        refine lv_goto (tgt := 4) hx hb dX7_ticksOf_34 (by decide) ?_
        exact ih _ _ _ _ _ _ hF hI (lv_sub hl [2, 3, 1, 0] rfl)
set_option maxHeartbeats 4000000 in
theorem c_X7_ticksOf (hA : AdOk n ad A) (h0 : isX7 n sh 0) {a1 : Int32} {w w' : Mem} {r : Int32} (hF : F_X7_ticksOf a1 w = some (r, w')) : Ctr l n sh D cA ad A sa yX7_ticksOf cX7_ticksOf 4 (some .int) 2 43 [.ref (ad 0), .int a1] w (some (.int r)) w' := by
  refine m_enter hA (by decide) (Nat.le_of_ble_eq_true rfl) ?_
  intro p e s m args below meth c ls G hI hl
  replace hl : lv_has ls 4 [(0, .ref (ad 0)), (1, .int a1)] := hl
  replace G : Mx n D cA ad A sa p s m args meth c RX7 cX7_ticksOf 4 (some .int) := G
  obtain ⟨hx, hb, -, -, hown, hg, -⟩ := id G
  unfold F_X7_ticksOf at hF
  refine lv_iconst (v := (0 : Int32)) hx hb dX7_ticksOf_0 (by decide) ?_
  refine lv_istore_n (lv' := [(2, .int (0 : Int32)), (0, .ref (ad 0)), (1, .int a1)]) hx hb dX7_ticksOf_1 rfl hl (by decide) rfl (fun ls hl => ?_)
  refine lv_iconst (v := (0 : Int32)) hx hb dX7_ticksOf_2 (by decide) ?_
  refine lv_istore_n (lv' := [(3, .int (0 : Int32)), (2, .int (0 : Int32)), (0, .ref (ad 0)), (1, .int a1)]) hx hb dX7_ticksOf_3 rfl hl (by decide) rfl (fun ls hl => ?_)
  refine l_X7_ticksOf_4 G h0 (fun x7 w6 H locs ls hF hI hl => ?_) _ _ _ _ _ _ _ hF hI (lv_sub hl [2, 3, 1, 0] rfl)
  refine lv_iload_n hx hb dX7_ticksOf_37 rfl (lv_at hl 0 rfl) ?_
  exact n_iret G hI hF rfl dX7_ticksOf_38
set_option maxHeartbeats 4000000 in
theorem c_X7_plansBy (hA : AdOk n ad A) (h0 : isX7 n sh 0) {a1 : Int32} {w w' : Mem} {r : Int32} (hF : F_X7_plansBy a1 w = some (r, w')) : Ctr l n sh D cA ad A sa yX7_plansBy cX7_plansBy 2 (some .int) 3 66 [.ref (ad 0), .int a1] w (some (.int r)) w' := by
  refine m_enter hA (by decide) (Nat.le_of_ble_eq_true rfl) ?_
  intro p e s m args below meth c ls G hI hl
  replace hl : lv_has ls 2 [(0, .ref (ad 0)), (1, .int a1)] := hl
  replace G : Mx n D cA ad A sa p s m args meth c RX7 cX7_plansBy 2 (some .int) := G
  obtain ⟨hx, hb, -, -, hown, hg, -⟩ := id G
  unfold F_X7_plansBy at hF
  refine lv_aload_n hx hb dX7_plansBy_0 rfl (lv_at hl 0 rfl) ?_
  obtain ⟨r2, w1, z3, hF⟩ := bd_some hF
  refine n_Vv (rest := []) G hI (c_X7_setPlan hA h0 z3) my_X7_setPlan kl_X7_117 (isX7.lt h0) (isX7.sh h0) rfl ⟨Nat.le_of_ble_eq_true rfl, Nat.le_of_ble_eq_true rfl⟩ rfl hl.1 rfl (Nat.le_of_ble_eq_true rfl) dX7_plansBy_1 (fun H locs hI => ?_)
  refine lv_iload_n hx hb dX7_plansBy_4 rfl (lv_at hl 1 rfl) ?_
  by_cases c14 : a1 = (0 : Int32)
  · replace hF := itp c14 hF
    refine lv_tableIn (tgt := 36) hx hb dX7_plansBy_5 (by rw [c14]; decide) (by rw [c14]; decide) (by rw [c14]; rfl) (by decide) ?_
    refine lv_aload_n hx hb dX7_plansBy_36 rfl (lv_at hl 0 rfl) ?_
    refine gf_X7_120 G hI h0 dX7_plansBy_37 ?_
    exact n_iret G hI hF rfl dX7_plansBy_40
  · replace hF := itn c14 hF
    by_cases c15 : a1 = (1 : Int32)
    · replace hF := itp c15 hF
      refine lv_tableIn (tgt := 41) hx hb dX7_plansBy_5 (by rw [c15]; decide) (by rw [c15]; decide) (by rw [c15]; rfl) (by decide) ?_
      refine lv_aload_n hx hb dX7_plansBy_41 rfl (lv_at hl 0 rfl) ?_
      refine gf_X7_130 G hI h0 dX7_plansBy_42 ?_
      refine lv_if_eq (tgt := 52) hx hb dX7_plansBy_45 (by decide) (fun c7 => ?_) (fun c7 => ?_)
      · replace hF := itp c7 hF
        refine lv_iconst (v := (0 : Int32)) hx hb dX7_plansBy_52 (by decide) ?_
        exact n_iret G hI hF rfl dX7_plansBy_53
      · replace hF := itn c7 hF
        refine lv_iconst (v := (1 : Int32)) hx hb dX7_plansBy_48 (by decide) ?_
        refine lv_goto (tgt := 53) hx hb dX7_plansBy_49 (by decide) ?_
        exact n_iret G hI hF rfl dX7_plansBy_53
    · replace hF := itn c15 hF
      by_cases c16 : a1 = (2 : Int32)
      · replace hF := itp c16 hF
        refine lv_tableIn (tgt := 54) hx hb dX7_plansBy_5 (by rw [c16]; decide) (by rw [c16]; decide) (by rw [c16]; rfl) (by decide) ?_
        refine lv_aload_n hx hb dX7_plansBy_54 rfl (lv_at hl 0 rfl) ?_
        refine lv_iconst (v := (0 : Int32)) hx hb dX7_plansBy_55 (by decide) ?_
        obtain ⟨r9, w8, z10, hF⟩ := bd_some hF
        refine n_Vi (rest := []) G hI (c_X7_ticksOf hA h0 z10) my_X7_ticksOf kl_X7_160 (isX7.lt h0) (isX7.sh h0) rfl ⟨Nat.le_of_ble_eq_true rfl, Nat.le_of_ble_eq_true rfl⟩ rfl hl.1 rfl (Nat.le_of_ble_eq_true rfl) dX7_plansBy_56 (fun H locs hI => ?_)
        exact n_iret G hI hF rfl dX7_plansBy_59
      · replace hF := itn c16 hF
        by_cases c17 : a1 = (3 : Int32)
        · replace hF := itp c17 hF
          refine lv_tableIn (tgt := 60) hx hb dX7_plansBy_5 (by rw [c17]; decide) (by rw [c17]; decide) (by rw [c17]; rfl) (by decide) ?_
          refine lv_aload_n hx hb dX7_plansBy_60 rfl (lv_at hl 0 rfl) ?_
          refine lv_bipush (v := (7 : Int32)) hx hb dX7_plansBy_61 (by decide) ?_
          obtain ⟨r12, w11, z13, hF⟩ := bd_some hF
          refine n_Vi (rest := []) G hI (c_X7_ticksOf hA h0 z13) my_X7_ticksOf kl_X7_160 (isX7.lt h0) (isX7.sh h0) rfl ⟨Nat.le_of_ble_eq_true rfl, Nat.le_of_ble_eq_true rfl⟩ rfl hl.1 rfl (Nat.le_of_ble_eq_true rfl) dX7_plansBy_63 (fun H locs hI => ?_)
          exact n_iret G hI hF rfl dX7_plansBy_66
        · replace hF := itn c17 hF
          refine lv_tableOut (tgt := 67) hx hb dX7_plansBy_5 (by have q0 := lv_neT (a := 0) c14 (by decide); have q1 := lv_neT (a := 1) c15 (by decide); have q2 := lv_neT (a := 2) c16 (by decide); have q3 := lv_neT (a := 3) c17 (by decide); omega) (by decide) ?_
          refine lv_aload_n hx hb dX7_plansBy_67 rfl (lv_at hl 0 rfl) ?_
          obtain ⟨r5, w4, z6, hF⟩ := bd_some hF
          refine n_Vv (rest := []) G hI (c_X7_setRuns hA h0 z6) my_X7_setRuns kl_X7_154 (isX7.lt h0) (isX7.sh h0) rfl ⟨Nat.le_of_ble_eq_true rfl, Nat.le_of_ble_eq_true rfl⟩ rfl hl.1 rfl (Nat.le_of_ble_eq_true rfl) dX7_plansBy_68 (fun H locs hI => ?_)
          refine lv_aload_n hx hb dX7_plansBy_71 rfl (lv_at hl 0 rfl) ?_
          refine gf_X7_147 G hI h0 dX7_plansBy_72 ?_
          exact n_iret G hI hF rfl dX7_plansBy_75
set_option maxHeartbeats 4000000 in
theorem c_X7_plan (hA : AdOk n ad A) (h0 : isX7 n sh 0) {a1 : Int32} {w w' : Mem} {r : Int32} (hF : F_X7_plan a1 w = some (r, w')) : Ctr l n sh D cA ad A sa yX7_plan cX7_plan 2 (some .int) 4 87 [.ref (ad 0), .int a1] w (some (.int r)) w' := by
  refine m_enter hA (by decide) (Nat.le_of_ble_eq_true rfl) ?_
  intro p e s m args below meth c ls G hI hl
  replace hl : lv_has ls 2 [(0, .ref (ad 0)), (1, .int a1)] := hl
  replace G : Mx n D cA ad A sa p s m args meth c RX7 cX7_plan 2 (some .int) := G
  obtain ⟨hx, hb, -, -, hown, hg, -⟩ := id G
  unfold F_X7_plan at hF
  refine lv_iload_n hx hb dX7_plan_0 rfl (lv_at hl 1 rfl) ?_
  refine lv_iconst (v := (0 : Int32)) hx hb dX7_plan_1 (by decide) ?_
  refine lv_iconst (v := (4 : Int32)) hx hb dX7_plan_2 (by decide) ?_
  obtain ⟨r2, w1, z3, hF⟩ := bd_some hF
  refine n_Si (rest := []) G hI (c_X7_in hA  z3) my_X7_in kl_X7_86 ⟨Nat.le_of_ble_eq_true rfl, Nat.le_of_ble_eq_true rfl⟩ rfl hl.1 rfl (Nat.le_of_ble_eq_true rfl) dX7_plan_3 (fun H locs hI => ?_)
  refine lv_if_eq (tgt := 17) hx hb dX7_plan_6 (by decide) (fun c10 => ?_) (fun c10 => ?_)
  · replace hF := itp c10 hF
    refine lv_aload_n hx hb dX7_plan_17 rfl (lv_at hl 0 rfl) ?_
    obtain ⟨r5, w4, z6, hF⟩ := bd_some hF
    refine n_Vi (rest := []) G hI (c_X7_bad hA h0 z6) my_X7_bad kl_X7_94 (isX7.lt h0) (isX7.sh h0) rfl ⟨Nat.le_of_ble_eq_true rfl, Nat.le_of_ble_eq_true rfl⟩ rfl hl.1 rfl (Nat.le_of_ble_eq_true rfl) dX7_plan_18 (fun H locs hI => ?_)
    exact n_iret G hI hF rfl dX7_plan_21
  · replace hF := itn c10 hF
    refine lv_aload_n hx hb dX7_plan_9 rfl (lv_at hl 0 rfl) ?_
    refine lv_iload_n hx hb dX7_plan_10 rfl (lv_at hl 1 rfl) ?_
    obtain ⟨r8, w7, z9, hF⟩ := bd_some hF
    refine n_Vi (rest := []) G hI (c_X7_plansBy hA h0 z9) my_X7_plansBy kl_X7_163 (isX7.lt h0) (isX7.sh h0) rfl ⟨Nat.le_of_ble_eq_true rfl, Nat.le_of_ble_eq_true rfl⟩ rfl hl.1 rfl (Nat.le_of_ble_eq_true rfl) dX7_plan_11 (fun H locs hI => ?_)
    refine lv_goto (tgt := 21) hx hb dX7_plan_14 (by decide) ?_
    exact n_iret G hI hF rfl dX7_plan_21
set_option maxHeartbeats 4000000 in
theorem l_X7_gateMany_13 {p : Program} {e : Env} {s : State} {m : MethodId} {args : Array Value} {below : List Frame} {meth : Method} {c : Code} (G : Mx n D cA ad A sa p s m args meth c RX7 cX7_gateMany 9 (some .int)) {a1 : Int32} {a2 : Int32} {a4 : Int32} (h0 : isX7 n sh 0) {k : Int32 → Mem → Option (Int32 × Mem)} {r : Int32} {w' : Mem}
    (hk : ∀ (v3 : Int32) (w : Mem) (H : Heap) (locs : List Loc) (ls : Array Slot), k v3 w = some (r, w') → Iv n sh D cA ad A s.heap w H locs → lv_has ls 9 [(3, .int v3)] → W p l e ({ frames := 3, cells := 0, slots := 0, locals := 68 } : Room) s m args below meth c H locs 0 0 (QM n sh D cA ad A below args s (some (.int r)) w') (F0 m 129 ls [])) :
    ∀ (N : Nat) (v3 : Int32) (v5 : Int32) (w : Mem) (H : Heap) (locs : List Loc) (ls : Array Slot), L_X7_gateMany_13 a1 a2 a4 k N v3 v5 w = some (r, w') → Iv n sh D cA ad A s.heap w H locs → lv_has ls 9 [(0, .ref (ad 0)), (1, .int a1), (2, .int a2), (3, .int v3), (4, .int a4), (5, .int v5)] → W p l e ({ frames := 3, cells := 0, slots := 0, locals := 68 } : Room) s m args below meth c H locs 0 0 (QM n sh D cA ad A below args s (some (.int r)) w') (F0 m 13 ls []) := by
  obtain ⟨hx, hb, -, -, hown, hg, -, -, -, -, hA⟩ := id G
  intro N
  induction N with
  | zero =>
    intro v3 v5 w H locs ls hF hI hl
    cases hF
  | succ N ih =>
    intro v3 v5 w H locs ls hF hI hl
    rw [L_X7_gateMany_13] at hF
    refine lv_iload hx hb dX7_gateMany_13 (lv_at hl 5 rfl) ?_
    refine lv_iload hx hb dX7_gateMany_15 (lv_at hl 4 rfl) ?_
    refine lv_icmp_ge (tgt := 129) hx hb dX7_gateMany_17 (by decide) (fun c22 => ?_) (fun c22 => ?_)
    · replace hF := itp c22 hF
      exact hk _ _ _ _ _ hF hI (lv_sub hl [3] rfl)
    · replace hF := itn c22 hF
      refine lv_aload_n hx hb dX7_gateMany_20 rfl (lv_at hl 0 rfl) ?_
      refine lv_iload_n hx hb dX7_gateMany_21 rfl (lv_at hl 1 rfl) ?_
      refine lv_iload hx hb dX7_gateMany_22 (lv_at hl 5 rfl) ?_
      obtain ⟨r2, w1, z3, hF⟩ := bd_some hF
      refine n_Vi (rest := []) G hI (c_X7_upper hA h0 z3) my_X7_upper kl_X7_166 (isX7.lt h0) (isX7.sh h0) rfl ⟨Nat.le_of_ble_eq_true rfl, Nat.le_of_ble_eq_true rfl⟩ rfl hl.1 rfl (Nat.le_of_ble_eq_true rfl) dX7_gateMany_24 (fun H locs hI => ?_)
      refine lv_istore (lv' := [(6, .int r2), (0, .ref (ad 0)), (1, .int a1), (2, .int a2), (3, .int v3), (4, .int a4), (5, .int v5)]) hx hb dX7_gateMany_27 hl (by decide) rfl (fun ls hl => ?_)
      refine lv_aload_n hx hb dX7_gateMany_29 rfl (lv_at hl 1 rfl) ?_
      refine lv_iload_n hx hb dX7_gateMany_30 rfl (lv_at hl 2 rfl) ?_
      refine lv_iload hx hb dX7_gateMany_31 (lv_at hl 6 rfl) ?_
      obtain ⟨r5, w4, z6, hF⟩ := bd_some hF
      refine n_Vi (rest := []) G hI (c_X7_lower hA h0 z6) my_X7_lower kl_X7_169 (isX7.lt h0) (isX7.sh h0) rfl ⟨Nat.le_of_ble_eq_true rfl, Nat.le_of_ble_eq_true rfl⟩ rfl hl.1 rfl (Nat.le_of_ble_eq_true rfl) dX7_gateMany_33 (fun H locs hI => ?_)
      refine lv_istore (lv' := [(7, .int r5), (6, .int r2), (0, .ref (ad 0)), (1, .int a1), (2, .int a2), (3, .int v3), (4, .int a4), (5, .int v5)]) hx hb dX7_gateMany_36 hl (by decide) rfl (fun ls hl => ?_)
      refine lv_iload_n hx hb dX7_gateMany_38 rfl (lv_at hl 4 rfl) ?_
      obtain ⟨k7, ek7, hF⟩ := jn_some hF
      have hJ7 : ∀ (x8 : Int32) (w9 : Mem) (H : Heap) (locs : List Loc) (ls : Array Slot), k7 x8 w9 = some (r, w') → Iv n sh D cA ad A s.heap w9 H locs → lv_has ls 9 [(0, .ref (ad 0)), (1, .int a1), (2, .int a2), (3, .int v3), (4, .int a4), (5, .int v5)] → W p l e ({ frames := 3, cells := 0, slots := 0, locals := 68 } : Room) s m args below meth c H locs 0 0 (QM n sh D cA ad A below args s (some (.int r)) w') (F0 m 108 ls [.int x8]) := by
        intro x8 w9 H locs ls hF hI hl
        replace hF := (congrFun (congrFun ek7 x8) w9).symm.trans hF
        refine lv_istore (lv' := [(8, .int x8), (0, .ref (ad 0)), (1, .int a1), (2, .int a2), (3, .int v3), (4, .int a4), (5, .int v5)]) hx hb dX7_gateMany_108 hl (by decide) rfl (fun ls hl => ?_)
        refine lv_iload_n hx hb dX7_gateMany_110 rfl (lv_at hl 4 rfl) ?_
        refine lv_iload hx hb dX7_gateMany_111 (lv_at hl 0 rfl) ?_
        refine lv_if_eq (tgt := 120) hx hb dX7_gateMany_113 (by decide) (fun c10 => ?_) (fun c10 => ?_)
        · replace hF := itp c10 hF
          refine lv_iconst (v := (0 : Int32)) hx hb dX7_gateMany_120 (by decide) ?_
          refine lv_iadd hx hb dX7_gateMany_121 ?_
          refine lv_istore_n (lv' := [(3, .int (v3 + (0 : Int32))), (8, .int x8), (0, .ref (ad 0)), (1, .int a1), (2, .int a2), (4, .int a4), (5, .int v5)]) hx hb dX7_gateMany_122 rfl hl (by decide) rfl (fun ls hl => ?_)
          refine lv_iinc (v := (v5 + (1 : Int32))) (lv' := [(5, .int (v5 + (1 : Int32))), (3, .int (v3 + (0 : Int32))), (8, .int x8), (0, .ref (ad 0)), (1, .int a1), (2, .int a2), (4, .int a4)]) hx hb dX7_gateMany_123 hl (k := 6) rfl rfl (by decide) rfl (fun ls hl => ?_)
          refine lv_goto (tgt := 13) hx hb dX7_gateMany_126 (by decide) ?_
          exact ih _ _ _ _ _ _ hF hI (lv_sub hl [3, 4, 5, 1, 6, 0] rfl)
        · replace hF := itn c10 hF
          refine lv_iconst (v := (1 : Int32)) hx hb dX7_gateMany_116 (by decide) ?_
          refine lv_goto (tgt := 121) hx hb dX7_gateMany_117 (by decide) ?_
          refine lv_iadd hx hb dX7_gateMany_121 ?_
          refine lv_istore_n (lv' := [(3, .int (v3 + (1 : Int32))), (8, .int x8), (0, .ref (ad 0)), (1, .int a1), (2, .int a2), (4, .int a4), (5, .int v5)]) hx hb dX7_gateMany_122 rfl hl (by decide) rfl (fun ls hl => ?_)
          refine lv_iinc (v := (v5 + (1 : Int32))) (lv' := [(5, .int (v5 + (1 : Int32))), (3, .int (v3 + (1 : Int32))), (8, .int x8), (0, .ref (ad 0)), (1, .int a1), (2, .int a2), (4, .int a4)]) hx hb dX7_gateMany_123 hl (k := 6) rfl rfl (by decide) rfl (fun ls hl => ?_)
          refine lv_goto (tgt := 13) hx hb dX7_gateMany_126 (by decide) ?_
          exact ih _ _ _ _ _ _ hF hI (lv_sub hl [3, 4, 5, 1, 6, 0] rfl)
      refine lv_if_ne (tgt := 47) hx hb dX7_gateMany_39 (by decide) (fun c21 => ?_) (fun c21 => ?_)
      · replace hF := itn c21 hF
        refine lv_iload_n hx hb dX7_gateMany_47 rfl (lv_at hl 4 rfl) ?_
        refine lv_iconst (v := (1 : Int32)) hx hb dX7_gateMany_48 (by decide) ?_
        refine lv_icmp_ne (tgt := 57) hx hb dX7_gateMany_49 (by decide) (fun c20 => ?_) (fun c20 => ?_)
        · replace hF := itn c20 hF
          refine lv_iload_n hx hb dX7_gateMany_57 rfl (lv_at hl 4 rfl) ?_
          refine lv_iconst (v := (2 : Int32)) hx hb dX7_gateMany_58 (by decide) ?_
          refine lv_icmp_ne (tgt := 80) hx hb dX7_gateMany_59 (by decide) (fun c19 => ?_) (fun c19 => ?_)
          · replace hF := itn c19 hF
            refine lv_iload hx hb dX7_gateMany_80 (lv_at hl 1 rfl) ?_
            refine lv_if_eq (tgt := 107) hx hb dX7_gateMany_82 (by decide) (fun c16 => ?_) (fun c16 => ?_)
            · replace hF := itp c16 hF
              refine lv_iconst (v := (0 : Int32)) hx hb dX7_gateMany_107 (by decide) ?_
              exact hJ7 _ _ _ _ _ hF hI (lv_sub hl [2, 3, 4, 5, 6, 7] rfl)
            · replace hF := itn c16 hF
              refine lv_aload_n hx hb dX7_gateMany_85 rfl (lv_at hl 2 rfl) ?_
              refine lv_iload_n hx hb dX7_gateMany_86 rfl (lv_at hl 3 rfl) ?_
              refine lv_iload hx hb dX7_gateMany_87 (lv_at hl 7 rfl) ?_
              refine lv_iload hx hb dX7_gateMany_89 (lv_at hl 6 rfl) ?_
              refine lv_iadd hx hb dX7_gateMany_91 ?_
              refine lv_iconst (v := (1 : Int32)) hx hb dX7_gateMany_92 (by decide) ?_
              refine lv_isub hx hb dX7_gateMany_93 ?_
              refine lv_iload hx hb dX7_gateMany_94 (lv_at hl 6 rfl) ?_
              obtain ⟨g11, hF⟩ := gd_some hF
              refine n_irem G g11 dX7_gateMany_96 ?_
              obtain ⟨r13, w12, z14, hF⟩ := bd_some hF
              refine n_Vi (rest := []) G hI (c_X7_upper hA h0 z14) my_X7_upper kl_X7_166 (isX7.lt h0) (isX7.sh h0) rfl ⟨Nat.le_of_ble_eq_true rfl, Nat.le_of_ble_eq_true rfl⟩ rfl hl.1 rfl (Nat.le_of_ble_eq_true rfl) dX7_gateMany_97 (fun H locs hI => ?_)
              refine lv_if_ne (tgt := 107) hx hb dX7_gateMany_100 (by decide) (fun c15 => ?_) (fun c15 => ?_)
              · replace hF := itn c15 hF
                refine lv_iconst (v := (0 : Int32)) hx hb dX7_gateMany_107 (by decide) ?_
                exact hJ7 _ _ _ _ _ hF hI (lv_sub hl [2, 3, 4, 5, 6, 7] rfl)
              · replace hF := itp c15 hF
                refine lv_iconst (v := (1 : Int32)) hx hb dX7_gateMany_103 (by decide) ?_
                refine lv_goto (tgt := 108) hx hb dX7_gateMany_104 (by decide) ?_
                exact hJ7 _ _ _ _ _ hF hI (lv_sub hl [2, 3, 4, 5, 6, 7] rfl)
          · replace hF := itp c19 hF
            refine lv_iload hx hb dX7_gateMany_62 (lv_at hl 1 rfl) ?_
            refine lv_if_ne (tgt := 76) hx hb dX7_gateMany_64 (by decide) (fun c18 => ?_) (fun c18 => ?_)
            · replace hF := itn c18 hF
              refine lv_iconst (v := (0 : Int32)) hx hb dX7_gateMany_76 (by decide) ?_
              refine lv_goto (tgt := 108) hx hb dX7_gateMany_77 (by decide) ?_
              exact hJ7 _ _ _ _ _ hF hI (lv_sub hl [2, 3, 4, 5, 6, 7] rfl)
            · replace hF := itp c18 hF
              refine lv_iload hx hb dX7_gateMany_67 (lv_at hl 0 rfl) ?_
              refine lv_if_ne (tgt := 76) hx hb dX7_gateMany_69 (by decide) (fun c17 => ?_) (fun c17 => ?_)
              · replace hF := itn c17 hF
                refine lv_iconst (v := (0 : Int32)) hx hb dX7_gateMany_76 (by decide) ?_
                refine lv_goto (tgt := 108) hx hb dX7_gateMany_77 (by decide) ?_
                exact hJ7 _ _ _ _ _ hF hI (lv_sub hl [2, 3, 4, 5, 6, 7] rfl)
              · replace hF := itp c17 hF
                refine lv_iconst (v := (1 : Int32)) hx hb dX7_gateMany_72 (by decide) ?_
                refine lv_goto (tgt := 108) hx hb dX7_gateMany_73 (by decide) ?_
                exact hJ7 _ _ _ _ _ hF hI (lv_sub hl [2, 3, 4, 5, 6, 7] rfl)
        · replace hF := itp c20 hF
          refine lv_iload hx hb dX7_gateMany_52 (lv_at hl 0 rfl) ?_
          refine lv_goto (tgt := 108) hx hb dX7_gateMany_54 (by decide) ?_
          exact hJ7 _ _ _ _ _ hF hI (lv_sub hl [2, 3, 4, 5, 6, 7] rfl)
      · replace hF := itp c21 hF
        refine lv_iload hx hb dX7_gateMany_42 (lv_at hl 1 rfl) ?_
        refine lv_goto (tgt := 108) hx hb dX7_gateMany_44 (by decide) ?_
        exact hJ7 _ _ _ _ _ hF hI (lv_sub hl [2, 3, 4, 5, 6, 7] rfl)
set_option maxHeartbeats 4000000 in
theorem c_X7_gateMany (hA : AdOk n ad A) (h0 : isX7 n sh 0) {a1 : Int32} {a2 : Int32} {w w' : Mem} {r : Int32} (hF : F_X7_gateMany a1 a2 w = some (r, w')) : Ctr l n sh D cA ad A sa yX7_gateMany cX7_gateMany 9 (some .int) 3 68 [.ref (ad 0), .int a1, .int a2] w (some (.int r)) w' := by
  refine m_enter hA (by decide) (Nat.le_of_ble_eq_true rfl) ?_
  intro p e s m args below meth c ls G hI hl
  replace hl : lv_has ls 9 [(0, .ref (ad 0)), (1, .int a1), (2, .int a2)] := hl
  replace G : Mx n D cA ad A sa p s m args meth c RX7 cX7_gateMany 9 (some .int) := G
  obtain ⟨hx, hb, -, -, hown, hg, -⟩ := id G
  unfold F_X7_gateMany at hF
  refine lv_iconst (v := (0 : Int32)) hx hb dX7_gateMany_0 (by decide) ?_
  refine lv_istore_n (lv' := [(3, .int (0 : Int32)), (0, .ref (ad 0)), (1, .int a1), (2, .int a2)]) hx hb dX7_gateMany_1 rfl hl (by decide) rfl (fun ls hl => ?_)
  refine lv_aload_n hx hb dX7_gateMany_2 rfl (lv_at hl 1 rfl) ?_
  refine gf_X7_13 G hI h0 dX7_gateMany_3 ?_
  refine lv_iconst (v := (0 : Int32)) hx hb dX7_gateMany_6 (by decide) ?_
  refine n_ald G hI (isX7.told h0) (by decide) dX7_gateMany_7 ?_
  refine W.eq (g2 := F0 m 8 ls [.int (w 2 0)]) rfl ?_
  refine lv_istore (lv' := [(4, .int (w 2 0)), (3, .int (0 : Int32)), (0, .ref (ad 0)), (1, .int a1), (2, .int a2)]) hx hb dX7_gateMany_8 hl (by decide) rfl (fun ls hl => ?_)
  refine lv_iconst (v := (0 : Int32)) hx hb dX7_gateMany_10 (by decide) ?_
  refine lv_istore (lv' := [(5, .int (0 : Int32)), (4, .int (w 2 0)), (3, .int (0 : Int32)), (0, .ref (ad 0)), (1, .int a1), (2, .int a2)]) hx hb dX7_gateMany_11 hl (by decide) rfl (fun ls hl => ?_)
  refine l_X7_gateMany_13 G h0 (fun x24 w23 H locs ls hF hI hl => ?_) _ _ _ _ _ _ _ hF hI (lv_sub hl [3, 4, 5, 2, 1, 0] rfl)
  refine lv_iload_n hx hb dX7_gateMany_129 rfl (lv_at hl 0 rfl) ?_
  exact n_iret G hI hF rfl dX7_gateMany_130
set_option maxHeartbeats 4000000 in
theorem c_X7_ofBy (hA : AdOk n ad A) (h0 : isX7 n sh 0) {a1 : Int32} {a2 : Int32} {w w' : Mem} {r : Int32} (hF : F_X7_ofBy a1 a2 w = some (r, w')) : Ctr l n sh D cA ad A sa yX7_ofBy cX7_ofBy 3 (some .int) 4 96 [.ref (ad 0), .int a1, .int a2] w (some (.int r)) w' := by
  refine m_enter hA (by decide) (Nat.le_of_ble_eq_true rfl) ?_
  intro p e s m args below meth c ls G hI hl
  replace hl : lv_has ls 3 [(0, .ref (ad 0)), (1, .int a1), (2, .int a2)] := hl
  replace G : Mx n D cA ad A sa p s m args meth c RX7 cX7_ofBy 3 (some .int) := G
  obtain ⟨hx, hb, -, -, hown, hg, -⟩ := id G
  unfold F_X7_ofBy at hF
  refine lv_aload_n hx hb dX7_ofBy_0 rfl (lv_at hl 0 rfl) ?_
  obtain ⟨r2, w1, z3, hF⟩ := bd_some hF
  refine n_Vv (rest := []) G hI (c_X7_setPlan hA h0 z3) my_X7_setPlan kl_X7_117 (isX7.lt h0) (isX7.sh h0) rfl ⟨Nat.le_of_ble_eq_true rfl, Nat.le_of_ble_eq_true rfl⟩ rfl hl.1 rfl (Nat.le_of_ble_eq_true rfl) dX7_ofBy_1 (fun H locs hI => ?_)
  refine lv_iload_n hx hb dX7_ofBy_4 rfl (lv_at hl 2 rfl) ?_
  refine lv_if_ne (tgt := 17) hx hb dX7_ofBy_5 (by decide) (fun c14 => ?_) (fun c14 => ?_)
  · replace hF := itn c14 hF
    refine lv_iload_n hx hb dX7_ofBy_17 rfl (lv_at hl 2 rfl) ?_
    refine lv_iconst (v := (1 : Int32)) hx hb dX7_ofBy_18 (by decide) ?_
    refine lv_icmp_ne (tgt := 31) hx hb dX7_ofBy_19 (by decide) (fun c12 => ?_) (fun c12 => ?_)
    · replace hF := itn c12 hF
      refine lv_iload_n hx hb dX7_ofBy_31 rfl (lv_at hl 2 rfl) ?_
      refine lv_iconst (v := (2 : Int32)) hx hb dX7_ofBy_32 (by decide) ?_
      refine lv_icmp_ne (tgt := 44) hx hb dX7_ofBy_33 (by decide) (fun c10 => ?_) (fun c10 => ?_)
      · replace hF := itn c10 hF
        refine lv_aload_n hx hb dX7_ofBy_44 rfl (lv_at hl 0 rfl) ?_
        refine lv_iload_n hx hb dX7_ofBy_45 rfl (lv_at hl 1 rfl) ?_
        refine lv_iload_n hx hb dX7_ofBy_46 rfl (lv_at hl 2 rfl) ?_
        refine lv_iconst (v := (3 : Int32)) hx hb dX7_ofBy_47 (by decide) ?_
        refine lv_isub hx hb dX7_ofBy_48 ?_
        obtain ⟨r5, w4, z6, hF⟩ := bd_some hF
        refine n_Vi (rest := []) G hI (c_X7_gateMany hA h0 z6) my_X7_gateMany kl_X7_175 (isX7.lt h0) (isX7.sh h0) rfl ⟨Nat.le_of_ble_eq_true rfl, Nat.le_of_ble_eq_true rfl⟩ rfl hl.1 rfl (Nat.le_of_ble_eq_true rfl) dX7_ofBy_49 (fun H locs hI => ?_)
        exact n_iret G hI hF rfl dX7_ofBy_52
      · replace hF := itp c10 hF
        refine lv_aload_n hx hb dX7_ofBy_36 rfl (lv_at hl 0 rfl) ?_
        refine lv_iload_n hx hb dX7_ofBy_37 rfl (lv_at hl 1 rfl) ?_
        obtain ⟨r8, w7, z9, hF⟩ := bd_some hF
        refine n_Vi (rest := []) G hI (c_X7_meanOf hA h0 z9) my_X7_meanOf kl_X7_172 (isX7.lt h0) (isX7.sh h0) rfl ⟨Nat.le_of_ble_eq_true rfl, Nat.le_of_ble_eq_true rfl⟩ rfl hl.1 rfl (Nat.le_of_ble_eq_true rfl) dX7_ofBy_38 (fun H locs hI => ?_)
        refine lv_goto (tgt := 52) hx hb dX7_ofBy_41 (by decide) ?_
        exact n_iret G hI hF rfl dX7_ofBy_52
    · replace hF := itp c12 hF
      refine lv_aload_n hx hb dX7_ofBy_22 rfl (lv_at hl 0 rfl) ?_
      refine gf_X7_46 G hI h0 dX7_ofBy_23 ?_
      refine lv_iload_n hx hb dX7_ofBy_26 rfl (lv_at hl 1 rfl) ?_
      obtain ⟨g11, hF⟩ := gd_some hF
      refine n_ald G hI (isX7.start h0) g11 dX7_ofBy_27 ?_
      refine lv_goto (tgt := 52) hx hb dX7_ofBy_28 (by decide) ?_
      exact n_iret G hI hF rfl dX7_ofBy_52
  · replace hF := itp c14 hF
    refine lv_aload_n hx hb dX7_ofBy_8 rfl (lv_at hl 0 rfl) ?_
    refine gf_X7_43 G hI h0 dX7_ofBy_9 ?_
    refine lv_iload_n hx hb dX7_ofBy_12 rfl (lv_at hl 1 rfl) ?_
    obtain ⟨g13, hF⟩ := gd_some hF
    refine n_ald G hI (isX7.high h0) g13 dX7_ofBy_13 ?_
    refine lv_goto (tgt := 52) hx hb dX7_ofBy_14 (by decide) ?_
    exact n_iret G hI hF rfl dX7_ofBy_52
set_option maxHeartbeats 4000000 in
theorem c_X7_of (hA : AdOk n ad A) (h0 : isX7 n sh 0) {a1 : Int32} {a2 : Int32} {w w' : Mem} {r : Int32} (hF : F_X7_of a1 a2 w = some (r, w')) : Ctr l n sh D cA ad A sa yX7_of cX7_of 3 (some .int) 5 118 [.ref (ad 0), .int a1, .int a2] w (some (.int r)) w' := by
  refine m_enter hA (by decide) (Nat.le_of_ble_eq_true rfl) ?_
  intro p e s m args below meth c ls G hI hl
  replace hl : lv_has ls 3 [(0, .ref (ad 0)), (1, .int a1), (2, .int a2)] := hl
  replace G : Mx n D cA ad A sa p s m args meth c RX7 cX7_of 3 (some .int) := G
  obtain ⟨hx, hb, -, -, hown, hg, -⟩ := id G
  unfold F_X7_of at hF
  refine lv_iload_n hx hb dX7_of_0 rfl (lv_at hl 1 rfl) ?_
  obtain ⟨r2, w1, z3, hF⟩ := bd_some hF
  refine n_Si (rest := []) G hI (c_X7_isLeg hA  z3) my_X7_isLeg kl_X7_98 ⟨Nat.le_of_ble_eq_true rfl, Nat.le_of_ble_eq_true rfl⟩ rfl hl.1 rfl (Nat.le_of_ble_eq_true rfl) dX7_of_1 (fun H locs hI => ?_)
  refine lv_if_eq (tgt := 26) hx hb dX7_of_4 (by decide) (fun c17 => ?_) (fun c17 => ?_)
  · replace hF := itp c17 hF
    refine lv_aload_n hx hb dX7_of_26 rfl (lv_at hl 0 rfl) ?_
    obtain ⟨r5, w4, z6, hF⟩ := bd_some hF
    refine n_Vi (rest := []) G hI (c_X7_bad hA h0 z6) my_X7_bad kl_X7_94 (isX7.lt h0) (isX7.sh h0) rfl ⟨Nat.le_of_ble_eq_true rfl, Nat.le_of_ble_eq_true rfl⟩ rfl hl.1 rfl (Nat.le_of_ble_eq_true rfl) dX7_of_27 (fun H locs hI => ?_)
    exact n_iret G hI hF rfl dX7_of_30
  · replace hF := itn c17 hF
    refine lv_iload_n hx hb dX7_of_7 rfl (lv_at hl 2 rfl) ?_
    refine lv_iconst (v := (0 : Int32)) hx hb dX7_of_8 (by decide) ?_
    refine lv_bipush (v := (6 : Int32)) hx hb dX7_of_9 (by decide) ?_
    obtain ⟨r8, w7, z9, hF⟩ := bd_some hF
    refine n_Si (rest := []) G hI (c_X7_in hA  z9) my_X7_in kl_X7_86 ⟨Nat.le_of_ble_eq_true rfl, Nat.le_of_ble_eq_true rfl⟩ rfl hl.1 rfl (Nat.le_of_ble_eq_true rfl) dX7_of_11 (fun H locs hI => ?_)
    refine lv_if_eq (tgt := 26) hx hb dX7_of_14 (by decide) (fun c16 => ?_) (fun c16 => ?_)
    · replace hF := itp c16 hF
      refine lv_aload_n hx hb dX7_of_26 rfl (lv_at hl 0 rfl) ?_
      obtain ⟨r11, w10, z12, hF⟩ := bd_some hF
      refine n_Vi (rest := []) G hI (c_X7_bad hA h0 z12) my_X7_bad kl_X7_94 (isX7.lt h0) (isX7.sh h0) rfl ⟨Nat.le_of_ble_eq_true rfl, Nat.le_of_ble_eq_true rfl⟩ rfl hl.1 rfl (Nat.le_of_ble_eq_true rfl) dX7_of_27 (fun H locs hI => ?_)
      exact n_iret G hI hF rfl dX7_of_30
    · replace hF := itn c16 hF
      refine lv_aload_n hx hb dX7_of_17 rfl (lv_at hl 0 rfl) ?_
      refine lv_iload_n hx hb dX7_of_18 rfl (lv_at hl 1 rfl) ?_
      refine lv_iload_n hx hb dX7_of_19 rfl (lv_at hl 2 rfl) ?_
      obtain ⟨r14, w13, z15, hF⟩ := bd_some hF
      refine n_Vi (rest := []) G hI (c_X7_ofBy hA h0 z15) my_X7_ofBy kl_X7_178 (isX7.lt h0) (isX7.sh h0) rfl ⟨Nat.le_of_ble_eq_true rfl, Nat.le_of_ble_eq_true rfl⟩ rfl hl.1 rfl (Nat.le_of_ble_eq_true rfl) dX7_of_20 (fun H locs hI => ?_)
      refine lv_goto (tgt := 30) hx hb dX7_of_23 (by decide) ?_
      exact n_iret G hI hF rfl dX7_of_30
set_option maxHeartbeats 4000000 in
theorem c_X7_at (hA : AdOk n ad A) (h0 : isX7 n sh 0) {a1 : Int32} {a2 : Int32} {a3 : Int32} {w w' : Mem} {r : Int32} (hF : F_X7_at a1 a2 a3 w = some (r, w')) : Ctr l n sh D cA ad A sa yX7_at cX7_at 5 (some .int) 3 69 [.ref (ad 0), .int a1, .int a2, .int a3] w (some (.int r)) w' := by
  refine m_enter hA (by decide) (Nat.le_of_ble_eq_true rfl) ?_
  intro p e s m args below meth c ls G hI hl
  replace hl : lv_has ls 5 [(0, .ref (ad 0)), (1, .int a1), (2, .int a2), (3, .int a3)] := hl
  replace G : Mx n D cA ad A sa p s m args meth c RX7 cX7_at 5 (some .int) := G
  obtain ⟨hx, hb, -, -, hown, hg, -⟩ := id G
  unfold F_X7_at at hF
  refine lv_iload_n hx hb dX7_at_0 rfl (lv_at hl 1 rfl) ?_
  obtain ⟨r2, w1, z3, hF⟩ := bd_some hF
  refine n_Si (rest := []) G hI (c_X7_isLeg hA  z3) my_X7_isLeg kl_X7_98 ⟨Nat.le_of_ble_eq_true rfl, Nat.le_of_ble_eq_true rfl⟩ rfl hl.1 rfl (Nat.le_of_ble_eq_true rfl) dX7_at_1 (fun H locs hI => ?_)
  refine lv_if_eq (tgt := 32) hx hb dX7_at_4 (by decide) (fun c45 => ?_) (fun c45 => ?_)
  · replace hF := itp c45 hF
    refine lv_aload_n hx hb dX7_at_32 rfl (lv_at hl 0 rfl) ?_
    obtain ⟨r5, w4, z6, hF⟩ := bd_some hF
    refine n_Vi (rest := []) G hI (c_X7_bad hA h0 z6) my_X7_bad kl_X7_94 (isX7.lt h0) (isX7.sh h0) rfl ⟨Nat.le_of_ble_eq_true rfl, Nat.le_of_ble_eq_true rfl⟩ rfl hl.1 rfl (Nat.le_of_ble_eq_true rfl) dX7_at_33 (fun H locs hI => ?_)
    exact n_iret G hI hF rfl dX7_at_36
  · replace hF := itn c45 hF
    refine lv_iload_n hx hb dX7_at_7 rfl (lv_at hl 2 rfl) ?_
    refine lv_iconst (v := (0 : Int32)) hx hb dX7_at_8 (by decide) ?_
    refine lv_aload_n hx hb dX7_at_9 rfl (lv_at hl 0 rfl) ?_
    refine gf_X7_13 G hI h0 dX7_at_10 ?_
    refine lv_iconst (v := (0 : Int32)) hx hb dX7_at_13 (by decide) ?_
    refine n_ald G hI (isX7.told h0) (by decide) dX7_at_14 ?_
    refine W.eq (g2 := F0 m 15 ls [.int (w1 2 0), .int (0 : Int32), .int a2]) rfl ?_
    refine lv_iconst (v := (1 : Int32)) hx hb dX7_at_15 (by decide) ?_
    refine lv_isub hx hb dX7_at_16 ?_
    obtain ⟨r8, w7, z9, hF⟩ := bd_some hF
    refine n_Si (rest := []) G hI (c_X7_in hA  z9) my_X7_in kl_X7_86 ⟨Nat.le_of_ble_eq_true rfl, Nat.le_of_ble_eq_true rfl⟩ rfl hl.1 rfl (Nat.le_of_ble_eq_true rfl) dX7_at_17 (fun H locs hI => ?_)
    refine lv_if_eq (tgt := 32) hx hb dX7_at_20 (by decide) (fun c44 => ?_) (fun c44 => ?_)
    · replace hF := itp c44 hF
      refine lv_aload_n hx hb dX7_at_32 rfl (lv_at hl 0 rfl) ?_
      obtain ⟨r11, w10, z12, hF⟩ := bd_some hF
      refine n_Vi (rest := []) G hI (c_X7_bad hA h0 z12) my_X7_bad kl_X7_94 (isX7.lt h0) (isX7.sh h0) rfl ⟨Nat.le_of_ble_eq_true rfl, Nat.le_of_ble_eq_true rfl⟩ rfl hl.1 rfl (Nat.le_of_ble_eq_true rfl) dX7_at_33 (fun H locs hI => ?_)
      exact n_iret G hI hF rfl dX7_at_36
    · replace hF := itn c44 hF
      refine lv_iload_n hx hb dX7_at_23 rfl (lv_at hl 3 rfl) ?_
      refine lv_iconst (v := (0 : Int32)) hx hb dX7_at_24 (by decide) ?_
      refine lv_iconst (v := (3 : Int32)) hx hb dX7_at_25 (by decide) ?_
      obtain ⟨r14, w13, z15, hF⟩ := bd_some hF
      refine n_Si (rest := []) G hI (c_X7_in hA  z15) my_X7_in kl_X7_86 ⟨Nat.le_of_ble_eq_true rfl, Nat.le_of_ble_eq_true rfl⟩ rfl hl.1 rfl (Nat.le_of_ble_eq_true rfl) dX7_at_26 (fun H locs hI => ?_)
      refine lv_if_ne (tgt := 37) hx hb dX7_at_29 (by decide) (fun c43 => ?_) (fun c43 => ?_)
      · replace hF := itn c43 hF
        refine lv_aload_n hx hb dX7_at_37 rfl (lv_at hl 0 rfl) ?_
        obtain ⟨r17, w16, z18, hF⟩ := bd_some hF
        refine n_Vv (rest := []) G hI (c_X7_setPlan hA h0 z18) my_X7_setPlan kl_X7_117 (isX7.lt h0) (isX7.sh h0) rfl ⟨Nat.le_of_ble_eq_true rfl, Nat.le_of_ble_eq_true rfl⟩ rfl hl.1 rfl (Nat.le_of_ble_eq_true rfl) dX7_at_38 (fun H locs hI => ?_)
        refine lv_iload_n hx hb dX7_at_41 rfl (lv_at hl 3 rfl) ?_
        refine lv_if_ne (tgt := 54) hx hb dX7_at_42 (by decide) (fun c39 => ?_) (fun c39 => ?_)
        · replace hF := itn c39 hF
          refine lv_iload_n hx hb dX7_at_54 rfl (lv_at hl 3 rfl) ?_
          refine lv_iconst (v := (1 : Int32)) hx hb dX7_at_55 (by decide) ?_
          refine lv_icmp_ne (tgt := 68) hx hb dX7_at_56 (by decide) (fun c34 => ?_) (fun c34 => ?_)
          · replace hF := itn c34 hF
            refine lv_iload_n hx hb dX7_at_68 rfl (lv_at hl 3 rfl) ?_
            refine lv_iconst (v := (2 : Int32)) hx hb dX7_at_69 (by decide) ?_
            refine lv_icmp_ne (tgt := 82) hx hb dX7_at_70 (by decide) (fun c29 => ?_) (fun c29 => ?_)
            · replace hF := itn c29 hF
              refine lv_aload_n hx hb dX7_at_82 rfl (lv_at hl 0 rfl) ?_
              refine lv_iload_n hx hb dX7_at_83 rfl (lv_at hl 1 rfl) ?_
              refine lv_iload_n hx hb dX7_at_84 rfl (lv_at hl 2 rfl) ?_
              obtain ⟨r20, w19, z21, hF⟩ := bd_some hF
              refine n_Vi (rest := []) G hI (c_X7_gives hA h0 z21) my_X7_gives kl_X7_144 (isX7.lt h0) (isX7.sh h0) rfl ⟨Nat.le_of_ble_eq_true rfl, Nat.le_of_ble_eq_true rfl⟩ rfl hl.1 rfl (Nat.le_of_ble_eq_true rfl) dX7_at_85 (fun H locs hI => ?_)
              refine lv_iconst (v := (1 : Int32)) hx hb dX7_at_88 (by decide) ?_
              refine lv_icmp_ne (tgt := 96) hx hb dX7_at_89 (by decide) (fun c24 => ?_) (fun c24 => ?_)
              · replace hF := itn c24 hF
                refine lv_iconst (v := (0 : Int32)) hx hb dX7_at_96 (by decide) ?_
                refine lv_istore (lv' := [(4, .int (0 : Int32)), (0, .ref (ad 0)), (1, .int a1), (2, .int a2), (3, .int a3)]) hx hb dX7_at_97 hl (by decide) rfl (fun ls hl => ?_)
                refine lv_iload hx hb dX7_at_99 (lv_at hl 0 rfl) ?_
                refine lv_if_eq (tgt := 108) hx hb dX7_at_101 (by decide) (fun c22 => ?_) (fun c22 => ?_)
                · replace hF := itp c22 hF
                  refine lv_iconst (v := (0 : Int32)) hx hb dX7_at_108 (by decide) ?_
                  exact n_iret G hI hF rfl dX7_at_109
                · replace hF := itn c22 hF
                  refine lv_iconst (v := (1 : Int32)) hx hb dX7_at_104 (by decide) ?_
                  refine lv_goto (tgt := 109) hx hb dX7_at_105 (by decide) ?_
                  exact n_iret G hI hF rfl dX7_at_109
              · replace hF := itp c24 hF
                refine lv_iconst (v := (1 : Int32)) hx hb dX7_at_92 (by decide) ?_
                refine lv_goto (tgt := 97) hx hb dX7_at_93 (by decide) ?_
                refine lv_istore (lv' := [(4, .int (1 : Int32)), (0, .ref (ad 0)), (1, .int a1), (2, .int a2), (3, .int a3)]) hx hb dX7_at_97 hl (by decide) rfl (fun ls hl => ?_)
                refine lv_iload hx hb dX7_at_99 (lv_at hl 0 rfl) ?_
                refine lv_if_eq (tgt := 108) hx hb dX7_at_101 (by decide) (fun c23 => ?_) (fun c23 => ?_)
                · replace hF := itp c23 hF
                  refine lv_iconst (v := (0 : Int32)) hx hb dX7_at_108 (by decide) ?_
                  exact n_iret G hI hF rfl dX7_at_109
                · replace hF := itn c23 hF
                  refine lv_iconst (v := (1 : Int32)) hx hb dX7_at_104 (by decide) ?_
                  refine lv_goto (tgt := 109) hx hb dX7_at_105 (by decide) ?_
                  exact n_iret G hI hF rfl dX7_at_109
            · replace hF := itp c29 hF
              refine lv_aload_n hx hb dX7_at_73 rfl (lv_at hl 0 rfl) ?_
              refine lv_iload_n hx hb dX7_at_74 rfl (lv_at hl 1 rfl) ?_
              refine lv_iload_n hx hb dX7_at_75 rfl (lv_at hl 2 rfl) ?_
              obtain ⟨r26, w25, z27, hF⟩ := bd_some hF
              refine n_Vi (rest := []) G hI (c_X7_lower hA h0 z27) my_X7_lower kl_X7_169 (isX7.lt h0) (isX7.sh h0) rfl ⟨Nat.le_of_ble_eq_true rfl, Nat.le_of_ble_eq_true rfl⟩ rfl hl.1 rfl (Nat.le_of_ble_eq_true rfl) dX7_at_76 (fun H locs hI => ?_)
              refine lv_goto (tgt := 97) hx hb dX7_at_79 (by decide) ?_
              refine lv_istore (lv' := [(4, .int r26), (0, .ref (ad 0)), (1, .int a1), (2, .int a2), (3, .int a3)]) hx hb dX7_at_97 hl (by decide) rfl (fun ls hl => ?_)
              refine lv_iload hx hb dX7_at_99 (lv_at hl 0 rfl) ?_
              refine lv_if_eq (tgt := 108) hx hb dX7_at_101 (by decide) (fun c28 => ?_) (fun c28 => ?_)
              · replace hF := itp c28 hF
                refine lv_iconst (v := (0 : Int32)) hx hb dX7_at_108 (by decide) ?_
                exact n_iret G hI hF rfl dX7_at_109
              · replace hF := itn c28 hF
                refine lv_iconst (v := (1 : Int32)) hx hb dX7_at_104 (by decide) ?_
                refine lv_goto (tgt := 109) hx hb dX7_at_105 (by decide) ?_
                exact n_iret G hI hF rfl dX7_at_109
          · replace hF := itp c34 hF
            refine lv_aload_n hx hb dX7_at_59 rfl (lv_at hl 0 rfl) ?_
            refine lv_iload_n hx hb dX7_at_60 rfl (lv_at hl 1 rfl) ?_
            refine lv_iload_n hx hb dX7_at_61 rfl (lv_at hl 2 rfl) ?_
            obtain ⟨r31, w30, z32, hF⟩ := bd_some hF
            refine n_Vi (rest := []) G hI (c_X7_upper hA h0 z32) my_X7_upper kl_X7_166 (isX7.lt h0) (isX7.sh h0) rfl ⟨Nat.le_of_ble_eq_true rfl, Nat.le_of_ble_eq_true rfl⟩ rfl hl.1 rfl (Nat.le_of_ble_eq_true rfl) dX7_at_62 (fun H locs hI => ?_)
            refine lv_goto (tgt := 97) hx hb dX7_at_65 (by decide) ?_
            refine lv_istore (lv' := [(4, .int r31), (0, .ref (ad 0)), (1, .int a1), (2, .int a2), (3, .int a3)]) hx hb dX7_at_97 hl (by decide) rfl (fun ls hl => ?_)
            refine lv_iload hx hb dX7_at_99 (lv_at hl 0 rfl) ?_
            refine lv_if_eq (tgt := 108) hx hb dX7_at_101 (by decide) (fun c33 => ?_) (fun c33 => ?_)
            · replace hF := itp c33 hF
              refine lv_iconst (v := (0 : Int32)) hx hb dX7_at_108 (by decide) ?_
              exact n_iret G hI hF rfl dX7_at_109
            · replace hF := itn c33 hF
              refine lv_iconst (v := (1 : Int32)) hx hb dX7_at_104 (by decide) ?_
              refine lv_goto (tgt := 109) hx hb dX7_at_105 (by decide) ?_
              exact n_iret G hI hF rfl dX7_at_109
        · replace hF := itp c39 hF
          refine lv_aload_n hx hb dX7_at_45 rfl (lv_at hl 0 rfl) ?_
          refine lv_iload_n hx hb dX7_at_46 rfl (lv_at hl 1 rfl) ?_
          refine lv_iload_n hx hb dX7_at_47 rfl (lv_at hl 2 rfl) ?_
          obtain ⟨r36, w35, z37, hF⟩ := bd_some hF
          refine n_Vi (rest := []) G hI (c_X7_wanted hA h0 z37) my_X7_wanted kl_X7_138 (isX7.lt h0) (isX7.sh h0) rfl ⟨Nat.le_of_ble_eq_true rfl, Nat.le_of_ble_eq_true rfl⟩ rfl hl.1 rfl (Nat.le_of_ble_eq_true rfl) dX7_at_48 (fun H locs hI => ?_)
          refine lv_goto (tgt := 97) hx hb dX7_at_51 (by decide) ?_
          refine lv_istore (lv' := [(4, .int r36), (0, .ref (ad 0)), (1, .int a1), (2, .int a2), (3, .int a3)]) hx hb dX7_at_97 hl (by decide) rfl (fun ls hl => ?_)
          refine lv_iload hx hb dX7_at_99 (lv_at hl 0 rfl) ?_
          refine lv_if_eq (tgt := 108) hx hb dX7_at_101 (by decide) (fun c38 => ?_) (fun c38 => ?_)
          · replace hF := itp c38 hF
            refine lv_iconst (v := (0 : Int32)) hx hb dX7_at_108 (by decide) ?_
            exact n_iret G hI hF rfl dX7_at_109
          · replace hF := itn c38 hF
            refine lv_iconst (v := (1 : Int32)) hx hb dX7_at_104 (by decide) ?_
            refine lv_goto (tgt := 109) hx hb dX7_at_105 (by decide) ?_
            exact n_iret G hI hF rfl dX7_at_109
      · replace hF := itp c43 hF
        refine lv_aload_n hx hb dX7_at_32 rfl (lv_at hl 0 rfl) ?_
        obtain ⟨r41, w40, z42, hF⟩ := bd_some hF
        refine n_Vi (rest := []) G hI (c_X7_bad hA h0 z42) my_X7_bad kl_X7_94 (isX7.lt h0) (isX7.sh h0) rfl ⟨Nat.le_of_ble_eq_true rfl, Nat.le_of_ble_eq_true rfl⟩ rfl hl.1 rfl (Nat.le_of_ble_eq_true rfl) dX7_at_33 (fun H locs hI => ?_)
        exact n_iret G hI hF rfl dX7_at_36
set_option maxHeartbeats 4000000 in
theorem c_X7_run (hA : AdOk n ad A) (h0 : isX7 n sh 0) {a1 : Int32} {a2 : Int32} {w w' : Mem} {r : Int32} (hF : F_X7_run a1 a2 w = some (r, w')) : Ctr l n sh D cA ad A sa yX7_run cX7_run 3 (some .int) 3 65 [.ref (ad 0), .int a1, .int a2] w (some (.int r)) w' := by
  refine m_enter hA (by decide) (Nat.le_of_ble_eq_true rfl) ?_
  intro p e s m args below meth c ls G hI hl
  replace hl : lv_has ls 3 [(0, .ref (ad 0)), (1, .int a1), (2, .int a2)] := hl
  replace G : Mx n D cA ad A sa p s m args meth c RX7 cX7_run 3 (some .int) := G
  obtain ⟨hx, hb, -, -, hown, hg, -⟩ := id G
  unfold F_X7_run at hF
  refine lv_iload_n hx hb dX7_run_0 rfl (lv_at hl 1 rfl) ?_
  refine lv_if_lt (tgt := 13) hx hb dX7_run_1 (by decide) (fun c30 => ?_) (fun c30 => ?_)
  · replace hF := itp c30 hF
    refine lv_aload_n hx hb dX7_run_13 rfl (lv_at hl 0 rfl) ?_
    obtain ⟨r2, w1, z3, hF⟩ := bd_some hF
    refine n_Vi (rest := []) G hI (c_X7_bad hA h0 z3) my_X7_bad kl_X7_94 (isX7.lt h0) (isX7.sh h0) rfl ⟨Nat.le_of_ble_eq_true rfl, Nat.le_of_ble_eq_true rfl⟩ rfl hl.1 rfl (Nat.le_of_ble_eq_true rfl) dX7_run_14 (fun H locs hI => ?_)
    exact n_iret G hI hF rfl dX7_run_17
  · replace hF := itn c30 hF
    refine lv_iload_n hx hb dX7_run_4 rfl (lv_at hl 2 rfl) ?_
    refine lv_iconst (v := (0 : Int32)) hx hb dX7_run_5 (by decide) ?_
    refine lv_iconst (v := (3 : Int32)) hx hb dX7_run_6 (by decide) ?_
    obtain ⟨r5, w4, z6, hF⟩ := bd_some hF
    refine n_Si (rest := []) G hI (c_X7_in hA  z6) my_X7_in kl_X7_86 ⟨Nat.le_of_ble_eq_true rfl, Nat.le_of_ble_eq_true rfl⟩ rfl hl.1 rfl (Nat.le_of_ble_eq_true rfl) dX7_run_7 (fun H locs hI => ?_)
    refine lv_if_ne (tgt := 18) hx hb dX7_run_10 (by decide) (fun c29 => ?_) (fun c29 => ?_)
    · replace hF := itn c29 hF
      refine lv_aload_n hx hb dX7_run_18 rfl (lv_at hl 0 rfl) ?_
      obtain ⟨r8, w7, z9, hF⟩ := bd_some hF
      refine n_Vv (rest := []) G hI (c_X7_setPlan hA h0 z9) my_X7_setPlan kl_X7_117 (isX7.lt h0) (isX7.sh h0) rfl ⟨Nat.le_of_ble_eq_true rfl, Nat.le_of_ble_eq_true rfl⟩ rfl hl.1 rfl (Nat.le_of_ble_eq_true rfl) dX7_run_19 (fun H locs hI => ?_)
      refine lv_aload_n hx hb dX7_run_22 rfl (lv_at hl 0 rfl) ?_
      obtain ⟨r11, w10, z12, hF⟩ := bd_some hF
      refine n_Vv (rest := []) G hI (c_X7_setRuns hA h0 z12) my_X7_setRuns kl_X7_154 (isX7.lt h0) (isX7.sh h0) rfl ⟨Nat.le_of_ble_eq_true rfl, Nat.le_of_ble_eq_true rfl⟩ rfl hl.1 rfl (Nat.le_of_ble_eq_true rfl) dX7_run_23 (fun H locs hI => ?_)
      refine lv_iload_n hx hb dX7_run_26 rfl (lv_at hl 1 rfl) ?_
      refine lv_aload_n hx hb dX7_run_27 rfl (lv_at hl 0 rfl) ?_
      refine gf_X7_147 G hI h0 dX7_run_28 ?_
      refine lv_icmp_lt (tgt := 36) hx hb dX7_run_31 (by decide) (fun c25 => ?_) (fun c25 => ?_)
      · replace hF := itp c25 hF
        refine lv_iload_n hx hb dX7_run_36 rfl (lv_at hl 2 rfl) ?_
        refine lv_if_ne (tgt := 49) hx hb dX7_run_37 (by decide) (fun c24 => ?_) (fun c24 => ?_)
        · replace hF := itn c24 hF
          refine lv_iload_n hx hb dX7_run_49 rfl (lv_at hl 2 rfl) ?_
          refine lv_iconst (v := (1 : Int32)) hx hb dX7_run_50 (by decide) ?_
          refine lv_icmp_ne (tgt := 63) hx hb dX7_run_51 (by decide) (fun c22 => ?_) (fun c22 => ?_)
          · replace hF := itn c22 hF
            refine lv_iload_n hx hb dX7_run_63 rfl (lv_at hl 2 rfl) ?_
            refine lv_iconst (v := (2 : Int32)) hx hb dX7_run_64 (by decide) ?_
            refine lv_icmp_ne (tgt := 81) hx hb dX7_run_65 (by decide) (fun c20 => ?_) (fun c20 => ?_)
            · replace hF := itn c20 hF
              refine lv_aload_n hx hb dX7_run_81 rfl (lv_at hl 0 rfl) ?_
              refine lv_iload_n hx hb dX7_run_82 rfl (lv_at hl 1 rfl) ?_
              obtain ⟨r14, w13, z15, hF⟩ := bd_some hF
              refine n_Vi (rest := []) G hI (c_X7_tells hA h0 z15) my_X7_tells kl_X7_157 (isX7.lt h0) (isX7.sh h0) rfl ⟨Nat.le_of_ble_eq_true rfl, Nat.le_of_ble_eq_true rfl⟩ rfl hl.1 rfl (Nat.le_of_ble_eq_true rfl) dX7_run_83 (fun H locs hI => ?_)
              exact n_iret G hI hF rfl dX7_run_86
            · replace hF := itp c20 hF
              refine lv_aload_n hx hb dX7_run_68 rfl (lv_at hl 0 rfl) ?_
              refine lv_aload_n hx hb dX7_run_69 rfl (lv_at hl 0 rfl) ?_
              refine gf_X7_52 G hI h0 dX7_run_70 ?_
              refine lv_iload_n hx hb dX7_run_73 rfl (lv_at hl 1 rfl) ?_
              obtain ⟨g16, hF⟩ := gd_some hF
              refine n_ald G hI (isX7.runAt h0) g16 dX7_run_74 ?_
              obtain ⟨r18, w17, z19, hF⟩ := bd_some hF
              refine n_Vi (rest := []) G hI (c_X7_patternAt hA h0 z19) my_X7_patternAt kl_X7_150 (isX7.lt h0) (isX7.sh h0) rfl ⟨Nat.le_of_ble_eq_true rfl, Nat.le_of_ble_eq_true rfl⟩ rfl hl.1 rfl (Nat.le_of_ble_eq_true rfl) dX7_run_75 (fun H locs hI => ?_)
              refine lv_goto (tgt := 86) hx hb dX7_run_78 (by decide) ?_
              exact n_iret G hI hF rfl dX7_run_86
          · replace hF := itp c22 hF
            refine lv_aload_n hx hb dX7_run_54 rfl (lv_at hl 0 rfl) ?_
            refine gf_X7_55 G hI h0 dX7_run_55 ?_
            refine lv_iload_n hx hb dX7_run_58 rfl (lv_at hl 1 rfl) ?_
            obtain ⟨g21, hF⟩ := gd_some hF
            refine n_ald G hI (isX7.runLong h0) g21 dX7_run_59 ?_
            refine lv_goto (tgt := 86) hx hb dX7_run_60 (by decide) ?_
            exact n_iret G hI hF rfl dX7_run_86
        · replace hF := itp c24 hF
          refine lv_aload_n hx hb dX7_run_40 rfl (lv_at hl 0 rfl) ?_
          refine gf_X7_52 G hI h0 dX7_run_41 ?_
          refine lv_iload_n hx hb dX7_run_44 rfl (lv_at hl 1 rfl) ?_
          obtain ⟨g23, hF⟩ := gd_some hF
          refine n_ald G hI (isX7.runAt h0) g23 dX7_run_45 ?_
          refine lv_goto (tgt := 86) hx hb dX7_run_46 (by decide) ?_
          exact n_iret G hI hF rfl dX7_run_86
      · replace hF := itn c25 hF
        refine lv_iconst (v := (-1 : Int32)) hx hb dX7_run_34 (by decide) ?_
        exact n_iret G hI hF rfl dX7_run_35
    · replace hF := itp c29 hF
      refine lv_aload_n hx hb dX7_run_13 rfl (lv_at hl 0 rfl) ?_
      obtain ⟨r27, w26, z28, hF⟩ := bd_some hF
      refine n_Vi (rest := []) G hI (c_X7_bad hA h0 z28) my_X7_bad kl_X7_94 (isX7.lt h0) (isX7.sh h0) rfl ⟨Nat.le_of_ble_eq_true rfl, Nat.le_of_ble_eq_true rfl⟩ rfl hl.1 rfl (Nat.le_of_ble_eq_true rfl) dX7_run_14 (fun H locs hI => ?_)
      exact n_iret G hI hF rfl dX7_run_17
set_option maxHeartbeats 4000000 in
theorem c_X7_seen (hA : AdOk n ad A) (h0 : isX7 n sh 0) {a1 : Int32} {w w' : Mem} {r : Int32} (hF : F_X7_seen a1 w = some (r, w')) : Ctr l n sh D cA ad A sa yX7_seen cX7_seen 3 (some .int) 4 88 [.ref (ad 0), .int a1] w (some (.int r)) w' := by
  refine m_enter hA (by decide) (Nat.le_of_ble_eq_true rfl) ?_
  intro p e s m args below meth c ls G hI hl
  replace hl : lv_has ls 3 [(0, .ref (ad 0)), (1, .int a1)] := hl
  replace G : Mx n D cA ad A sa p s m args meth c RX7 cX7_seen 3 (some .int) := G
  obtain ⟨hx, hb, -, -, hown, hg, -⟩ := id G
  unfold F_X7_seen at hF
  refine lv_iload_n hx hb dX7_seen_0 rfl (lv_at hl 1 rfl) ?_
  refine lv_iconst (v := (0 : Int32)) hx hb dX7_seen_1 (by decide) ?_
  refine lv_iconst (v := (1 : Int32)) hx hb dX7_seen_2 (by decide) ?_
  obtain ⟨r2, w1, z3, hF⟩ := bd_some hF
  refine n_Si (rest := []) G hI (c_X7_in hA  z3) my_X7_in kl_X7_86 ⟨Nat.le_of_ble_eq_true rfl, Nat.le_of_ble_eq_true rfl⟩ rfl hl.1 rfl (Nat.le_of_ble_eq_true rfl) dX7_seen_3 (fun H locs hI => ?_)
  refine lv_if_ne (tgt := 14) hx hb dX7_seen_6 (by decide) (fun c17 => ?_) (fun c17 => ?_)
  · replace hF := itn c17 hF
    refine lv_aload_n hx hb dX7_seen_14 rfl (lv_at hl 0 rfl) ?_
    obtain ⟨r5, w4, z6, hF⟩ := bd_some hF
    refine n_Vv (rest := []) G hI (c_X7_setPlan hA h0 z6) my_X7_setPlan kl_X7_117 (isX7.lt h0) (isX7.sh h0) rfl ⟨Nat.le_of_ble_eq_true rfl, Nat.le_of_ble_eq_true rfl⟩ rfl hl.1 rfl (Nat.le_of_ble_eq_true rfl) dX7_seen_15 (fun H locs hI => ?_)
    refine lv_aload_n hx hb dX7_seen_18 rfl (lv_at hl 0 rfl) ?_
    obtain ⟨r8, w7, z9, hF⟩ := bd_some hF
    refine n_Vi (rest := []) G hI (c_X7_seenSet hA h0 z9) my_X7_seenSet kl_X7_181 (isX7.lt h0) (isX7.sh h0) rfl ⟨Nat.le_of_ble_eq_true rfl, Nat.le_of_ble_eq_true rfl⟩ rfl hl.1 rfl (Nat.le_of_ble_eq_true rfl) dX7_seen_19 (fun H locs hI => ?_)
    refine lv_istore_n (lv' := [(2, .int r8), (0, .ref (ad 0)), (1, .int a1)]) hx hb dX7_seen_22 rfl hl (by decide) rfl (fun ls hl => ?_)
    refine lv_iload_n hx hb dX7_seen_23 rfl (lv_at hl 2 rfl) ?_
    refine lv_if_ne (tgt := 31) hx hb dX7_seen_24 (by decide) (fun c13 => ?_) (fun c13 => ?_)
    · replace hF := itn c13 hF
      refine lv_iload_n hx hb dX7_seen_31 rfl (lv_at hl 0 rfl) ?_
      obtain ⟨r11, w10, z12, hF⟩ := bd_some hF
      refine n_Si (rest := []) G hI (c_X7_bits hA  z12) my_X7_bits kl_X7_184 ⟨Nat.le_of_ble_eq_true rfl, Nat.le_of_ble_eq_true rfl⟩ rfl hl.1 rfl (Nat.le_of_ble_eq_true rfl) dX7_seen_32 (fun H locs hI => ?_)
      exact n_iret G hI hF rfl dX7_seen_35
    · replace hF := itp c13 hF
      refine lv_iload_n hx hb dX7_seen_27 rfl (lv_at hl 0 rfl) ?_
      refine lv_goto (tgt := 35) hx hb dX7_seen_28 (by decide) ?_
      exact n_iret G hI hF rfl dX7_seen_35
  · replace hF := itp c17 hF
    refine lv_aload_n hx hb dX7_seen_9 rfl (lv_at hl 0 rfl) ?_
    obtain ⟨r15, w14, z16, hF⟩ := bd_some hF
    refine n_Vi (rest := []) G hI (c_X7_bad hA h0 z16) my_X7_bad kl_X7_94 (isX7.lt h0) (isX7.sh h0) rfl ⟨Nat.le_of_ble_eq_true rfl, Nat.le_of_ble_eq_true rfl⟩ rfl hl.1 rfl (Nat.le_of_ble_eq_true rfl) dX7_seen_10 (fun H locs hI => ?_)
    exact n_iret G hI hF rfl dX7_seen_13
set_option maxHeartbeats 4000000 in
theorem c_X7_told (hA : AdOk n ad A) (h0 : isX7 n sh 0) {a1 : Int32} {w w' : Mem} {r : Int32} (hF : F_X7_told a1 w = some (r, w')) : Ctr l n sh D cA ad A sa yX7_told cX7_told 3 (some .int) 4 88 [.ref (ad 0), .int a1] w (some (.int r)) w' := by
  refine m_enter hA (by decide) (Nat.le_of_ble_eq_true rfl) ?_
  intro p e s m args below meth c ls G hI hl
  replace hl : lv_has ls 3 [(0, .ref (ad 0)), (1, .int a1)] := hl
  replace G : Mx n D cA ad A sa p s m args meth c RX7 cX7_told 3 (some .int) := G
  obtain ⟨hx, hb, -, -, hown, hg, -⟩ := id G
  unfold F_X7_told at hF
  refine lv_iload_n hx hb dX7_told_0 rfl (lv_at hl 1 rfl) ?_
  obtain ⟨r2, w1, z3, hF⟩ := bd_some hF
  refine n_Si (rest := []) G hI (c_X7_isLeg hA  z3) my_X7_isLeg kl_X7_98 ⟨Nat.le_of_ble_eq_true rfl, Nat.le_of_ble_eq_true rfl⟩ rfl hl.1 rfl (Nat.le_of_ble_eq_true rfl) dX7_told_1 (fun H locs hI => ?_)
  refine lv_if_ne (tgt := 12) hx hb dX7_told_4 (by decide) (fun c21 => ?_) (fun c21 => ?_)
  · replace hF := itn c21 hF
    refine lv_aload_n hx hb dX7_told_12 rfl (lv_at hl 0 rfl) ?_
    obtain ⟨r5, w4, z6, hF⟩ := bd_some hF
    refine n_Vv (rest := []) G hI (c_X7_setPlan hA h0 z6) my_X7_setPlan kl_X7_117 (isX7.lt h0) (isX7.sh h0) rfl ⟨Nat.le_of_ble_eq_true rfl, Nat.le_of_ble_eq_true rfl⟩ rfl hl.1 rfl (Nat.le_of_ble_eq_true rfl) dX7_told_13 (fun H locs hI => ?_)
    refine lv_aload_n hx hb dX7_told_16 rfl (lv_at hl 0 rfl) ?_
    obtain ⟨r8, w7, z9, hF⟩ := bd_some hF
    refine n_Vi (rest := []) G hI (c_X7_seenSet hA h0 z9) my_X7_seenSet kl_X7_181 (isX7.lt h0) (isX7.sh h0) rfl ⟨Nat.le_of_ble_eq_true rfl, Nat.le_of_ble_eq_true rfl⟩ rfl hl.1 rfl (Nat.le_of_ble_eq_true rfl) dX7_told_17 (fun H locs hI => ?_)
    refine lv_istore_n (lv' := [(2, .int r8), (0, .ref (ad 0)), (1, .int a1)]) hx hb dX7_told_20 rfl hl (by decide) rfl (fun ls hl => ?_)
    refine lv_iload_n hx hb dX7_told_21 rfl (lv_at hl 0 rfl) ?_
    refine lv_iload_n hx hb dX7_told_22 rfl (lv_at hl 2 rfl) ?_
    refine lv_ishr hx hb dX7_told_23 ?_
    refine lv_iconst (v := (1 : Int32)) hx hb dX7_told_24 (by decide) ?_
    refine lv_iand hx hb dX7_told_25 ?_
    refine lv_iconst (v := (1 : Int32)) hx hb dX7_told_26 (by decide) ?_
    refine lv_icmp_ne (tgt := 37) hx hb dX7_told_27 (by decide) (fun c17 => ?_) (fun c17 => ?_)
    · replace hF := itn c17 hF
      refine lv_iload_n hx hb dX7_told_37 rfl (lv_at hl 0 rfl) ?_
      obtain ⟨r11, w10, z12, hF⟩ := bd_some hF
      refine n_Si (rest := []) G hI (c_X7_bits hA  z12) my_X7_bits kl_X7_184 ⟨Nat.le_of_ble_eq_true rfl, Nat.le_of_ble_eq_true rfl⟩ rfl hl.1 rfl (Nat.le_of_ble_eq_true rfl) dX7_told_38 (fun H locs hI => ?_)
      refine lv_iconst (v := (2 : Int32)) hx hb dX7_told_41 (by decide) ?_
      refine lv_icmp_ne (tgt := 70) hx hb dX7_told_42 (by decide) (fun c15 => ?_) (fun c15 => ?_)
      · replace hF := itn c15 hF
        refine lv_sipush (v := (-1000 : Int32)) hx hb dX7_told_70 (by decide) ?_
        exact n_iret G hI hF rfl dX7_told_73
      · replace hF := itp c15 hF
        refine lv_aload_n hx hb dX7_told_45 rfl (lv_at hl 1 rfl) ?_
        refine gf_X7_16 G hI h0 dX7_told_46 ?_
        refine lv_iload_n hx hb dX7_told_49 rfl (lv_at hl 2 rfl) ?_
        refine lv_iconst (v := (1 : Int32)) hx hb dX7_told_50 (by decide) ?_
        refine lv_iadd hx hb dX7_told_51 ?_
        refine lv_iconst (v := (3 : Int32)) hx hb dX7_told_52 (by decide) ?_
        refine n_irem G (by decide) dX7_told_53 ?_
        obtain ⟨g13, hF⟩ := gd_some hF
        refine n_ald G hI (isX7.current h0) g13 dX7_told_54 ?_
        refine lv_ineg hx hb dX7_told_55 ?_
        refine lv_aload_n hx hb dX7_told_56 rfl (lv_at hl 1 rfl) ?_
        refine gf_X7_16 G hI h0 dX7_told_57 ?_
        refine lv_iload_n hx hb dX7_told_60 rfl (lv_at hl 2 rfl) ?_
        refine lv_iconst (v := (2 : Int32)) hx hb dX7_told_61 (by decide) ?_
        refine lv_iadd hx hb dX7_told_62 ?_
        refine lv_iconst (v := (3 : Int32)) hx hb dX7_told_63 (by decide) ?_
        refine n_irem G (by decide) dX7_told_64 ?_
        obtain ⟨g14, hF⟩ := gd_some hF
        refine n_ald G hI (isX7.current h0) g14 dX7_told_65 ?_
        refine lv_isub hx hb dX7_told_66 ?_
        refine lv_goto (tgt := 73) hx hb dX7_told_67 (by decide) ?_
        exact n_iret G hI hF rfl dX7_told_73
    · replace hF := itp c17 hF
      refine lv_aload_n hx hb dX7_told_30 rfl (lv_at hl 1 rfl) ?_
      refine gf_X7_16 G hI h0 dX7_told_31 ?_
      refine lv_iload_n hx hb dX7_told_34 rfl (lv_at hl 2 rfl) ?_
      obtain ⟨g16, hF⟩ := gd_some hF
      refine n_ald G hI (isX7.current h0) g16 dX7_told_35 ?_
      exact n_iret G hI hF rfl dX7_told_36
  · replace hF := itp c21 hF
    refine lv_aload_n hx hb dX7_told_7 rfl (lv_at hl 0 rfl) ?_
    obtain ⟨r19, w18, z20, hF⟩ := bd_some hF
    refine n_Vi (rest := []) G hI (c_X7_bad hA h0 z20) my_X7_bad kl_X7_94 (isX7.lt h0) (isX7.sh h0) rfl ⟨Nat.le_of_ble_eq_true rfl, Nat.le_of_ble_eq_true rfl⟩ rfl hl.1 rfl (Nat.le_of_ble_eq_true rfl) dX7_told_8 (fun H locs hI => ?_)
    exact n_iret G hI hF rfl dX7_told_11
end WK10
