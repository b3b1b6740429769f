/-! walks, by program (wip/gen/walk.py): X7_goes, X7_remembers, X7_steps, X7_lays, X7_takes -/
section WK13
variable {n : Nat} {sh : Nat → Shp} {D : va_G} {cA : ClassId} {ad : Nat → Nat} {A : Nat → Prop} {sa : Nat → Nat} {l : Launch}
set_option maxHeartbeats 4000000 in
theorem l_X7_goes_25 {p : Program} {e : Env} {s : State} {m : MethodId} {args : Array Value} {below : List Frame} {meth : Method} {c : Code} (G : Mx n D cA ad A sa p s m args meth c RX7 cX7_goes 4 (some .boolean))  (h0 : isX7 n sh 0) {k : Mem → Option (Int32 × Mem)} {r : Int32} {w' : Mem}
    (hk : ∀  (w : Mem) (H : Heap) (locs : List Loc) (ls : Array Slot), k  w = some (r, w') → Iv n sh D cA ad A s.heap w H locs → lv_has ls 4 [(0, .ref (ad 0))] → W p l e ({ frames := 4, cells := 0, slots := 0, locals := 92 } : Room) s m args below meth c H locs 0 0 (QM n sh D cA ad A below args s (some (.int r)) w') (F0 m 47 ls [])) :
    ∀ (N : Nat) (v1 : Int32) (w : Mem) (H : Heap) (locs : List Loc) (ls : Array Slot), L_X7_goes_25  k N v1 w = some (r, w') → Iv n sh D cA ad A s.heap w H locs → lv_has ls 4 [(0, .ref (ad 0)), (1, .int v1)] → W p l e ({ frames := 4, cells := 0, slots := 0, locals := 92 } : Room) s m args below meth c H locs 0 0 (QM n sh D cA ad A below args s (some (.int r)) w') (F0 m 25 ls []) := by
  obtain ⟨hx, hb, -, -, hown, hg, -, -, -, -, hA⟩ := id G
  intro N
  induction N with
  | zero =>
    intro v1 w H locs ls hF hI hl
    cases hF
  | succ N ih =>
    intro v1 w H locs ls hF hI hl
    rw [L_X7_goes_25] at hF
    refine lv_iload_n hx hb dX7_goes_25 rfl (lv_at hl 1 rfl) ?_
    refine lv_iconst (v := (3 : Int32)) hx hb dX7_goes_26 (by decide) ?_
    refine lv_icmp_ge (tgt := 47) hx hb dX7_goes_27 (by decide) (fun c14 => ?_) (fun c14 => ?_)
    · replace hF := itp c14 hF
      exact hk _ _ _ _ hF hI (lv_sub hl [0] rfl)
    · replace hF := itn c14 hF
      refine lv_aload_n hx hb dX7_goes_30 rfl (lv_at hl 0 rfl) ?_
      refine gf_X7_64 G hI h0 dX7_goes_31 ?_
      refine lv_iload_n hx hb dX7_goes_34 rfl (lv_at hl 1 rfl) ?_
      refine lv_aload_n hx hb dX7_goes_35 rfl (lv_at hl 0 rfl) ?_
      refine lv_iload_n hx hb dX7_goes_36 rfl (lv_at hl 1 rfl) ?_
      obtain ⟨r10, w9, z11, hF⟩ := bd_some hF
      refine n_Vi (rest := [.int v1, .ref (ad 19)]) G hI (c_X7_meanOf hA h0 z11) my_X7_meanOf kl_X7_172 (isX7.lt h0) (isX7.sh h0) rfl ⟨Nat.le_of_ble_eq_true rfl, Nat.le_of_ble_eq_true rfl⟩ rfl hl.1 rfl (Nat.le_of_ble_eq_true rfl) dX7_goes_37 (fun H locs hI => ?_)
      obtain ⟨g12, hF⟩ := gd_some hF
      obtain ⟨w13, ew13, hF⟩ := lt_some hF
      refine n_ast G hI (isX7.means h0) g12 dX7_goes_40 (fun H locs hI => ?_)
      replace hI : Iv n sh D cA ad A s.heap w13 H locs := by rw [ew13]; exact hI
      refine lv_iinc (v := (v1 + (1 : Int32))) (lv' := [(1, .int (v1 + (1 : Int32))), (0, .ref (ad 0))]) hx hb dX7_goes_41 hl (k := 1) rfl rfl (by decide) rfl (fun ls hl => ?_)
      refine lv_goto (tgt := 25) hx hb dX7_goes_44 (by decide) ?_
      exact ih _ _ _ _ _ hF hI (lv_sub hl [1, 0] rfl)
set_option maxHeartbeats 4000000 in
theorem l_X7_goes_70 {p : Program} {e : Env} {s : State} {m : MethodId} {args : Array Value} {below : List Frame} {meth : Method} {c : Code} (G : Mx n D cA ad A sa p s m args meth c RX7 cX7_goes 4 (some .boolean)) {a1 : Int32} (h0 : isX7 n sh 0) {k : Mem → Option (Int32 × Mem)} {r : Int32} {w' : Mem}
    (hk : ∀  (w : Mem) (H : Heap) (locs : List Loc) (ls : Array Slot), k  w = some (r, w') → Iv n sh D cA ad A s.heap w H locs → lv_has ls 4 [(0, .ref (ad 0))] → W p l e ({ frames := 4, cells := 0, slots := 0, locals := 92 } : Room) s m args below meth c H locs 0 0 (QM n sh D cA ad A below args s (some (.int r)) w') (F0 m 120 ls [])) :
    ∀ (N : Nat) (v2 : Int32) (w : Mem) (H : Heap) (locs : List Loc) (ls : Array Slot), L_X7_goes_70 a1 k N v2 w = some (r, w') → Iv n sh D cA ad A s.heap w H locs → lv_has ls 4 [(0, .ref (ad 0)), (1, .int a1), (2, .int v2)] → W p l e ({ frames := 4, cells := 0, slots := 0, locals := 92 } : Room) s m args below meth c H locs 0 0 (QM n sh D cA ad A below args s (some (.int r)) w') (F0 m 70 ls []) := by
  obtain ⟨hx, hb, -, -, hown, hg, -, -, -, -, hA⟩ := id G
  intro N
  induction N with
  | zero =>
    intro v2 w H locs ls hF hI hl
    cases hF
  | succ N ih =>
    intro v2 w H locs ls hF hI hl
    rw [L_X7_goes_70] at hF
    refine lv_iload_n hx hb dX7_goes_70 rfl (lv_at hl 2 rfl) ?_
    refine lv_iconst (v := (3 : Int32)) hx hb dX7_goes_71 (by decide) ?_
    refine lv_icmp_ge (tgt := 120) hx hb dX7_goes_72 (by decide) (fun c25 => ?_) (fun c25 => ?_)
    · replace hF := itp c25 hF
      exact hk _ _ _ _ hF hI (lv_sub hl [0] rfl)
    · replace hF := itn c25 hF
      refine lv_aload_n hx hb dX7_goes_75 rfl (lv_at hl 0 rfl) ?_
      refine gf_X7_16 G hI h0 dX7_goes_76 ?_
      refine lv_iload_n hx hb dX7_goes_79 rfl (lv_at hl 2 rfl) ?_
      obtain ⟨g17, hF⟩ := gd_some hF
      refine n_ald G hI (isX7.current h0) g17 dX7_goes_80 ?_
      refine lv_iconst (v := (3 : Int32)) hx hb dX7_goes_81 (by decide) ?_
      refine lv_aload_n hx hb dX7_goes_82 rfl (lv_at hl 0 rfl) ?_
      refine gf_X7_64 G hI h0 dX7_goes_83 ?_
      refine lv_iload_n hx hb dX7_goes_86 rfl (lv_at hl 2 rfl) ?_
      obtain ⟨g18, hF⟩ := gd_some hF
      refine n_ald G hI (isX7.means h0) g18 dX7_goes_87 ?_
      refine lv_imul hx hb dX7_goes_88 ?_
      refine lv_iload_n hx hb dX7_goes_89 rfl (lv_at hl 1 rfl) ?_
      refine lv_isub hx hb dX7_goes_90 ?_
      refine lv_bipush (v := (6 : Int32)) hx hb dX7_goes_91 (by decide) ?_
      refine n_idiv G (by decide) dX7_goes_93 ?_
      refine lv_iadd hx hb dX7_goes_94 ?_
      obtain ⟨x19, ex19, hF⟩ := lt_some hF
      refine W.eq (g2 := F0 m 95 ls [.int x19]) (by rw [ex19]) ?_
      refine lv_istore_n (lv' := [(3, .int x19), (0, .ref (ad 0)), (1, .int a1), (2, .int v2)]) hx hb dX7_goes_95 rfl hl (by decide) rfl (fun ls hl => ?_)
      refine lv_aload_n hx hb dX7_goes_96 rfl (lv_at hl 1 rfl) ?_
      refine gf_X7_16 G hI h0 dX7_goes_97 ?_
      refine lv_iload_n hx hb dX7_goes_100 rfl (lv_at hl 3 rfl) ?_
      refine lv_iload_n hx hb dX7_goes_101 rfl (lv_at hl 0 rfl) ?_
      refine lv_iload_n hx hb dX7_goes_102 rfl (lv_at hl 0 rfl) ?_
      refine lv_bipush (v := (8 : Int32)) hx hb dX7_goes_103 (by decide) ?_
      refine n_idiv G (by decide) dX7_goes_105 ?_
      refine lv_isub hx hb dX7_goes_106 ?_
      refine lv_sipush (v := (999 : Int32)) hx hb dX7_goes_107 (by decide) ?_
      obtain ⟨r21, w20, z22, hF⟩ := bd_some hF
      refine n_Si (rest := [.int v2, .ref (ad 3)]) G hI (c_X7_within hA  z22) my_X7_within kl_X7_230 ⟨Nat.le_of_ble_eq_true rfl, Nat.le_of_ble_eq_true rfl⟩ rfl hl.1 rfl (Nat.le_of_ble_eq_true rfl) dX7_goes_110 (fun H locs hI => ?_)
      obtain ⟨g23, hF⟩ := gd_some hF
      obtain ⟨w24, ew24, hF⟩ := lt_some hF
      refine n_ast G hI (isX7.current h0) g23 dX7_goes_113 (fun H locs hI => ?_)
      replace hI : Iv n sh D cA ad A s.heap w24 H locs := by rw [ew24]; exact hI
      refine lv_iinc (v := (v2 + (1 : Int32))) (lv' := [(2, .int (v2 + (1 : Int32))), (3, .int x19), (0, .ref (ad 0)), (1, .int a1)]) hx hb dX7_goes_114 hl (k := 3) rfl rfl (by decide) rfl (fun ls hl => ?_)
      refine lv_goto (tgt := 70) hx hb dX7_goes_117 (by decide) ?_
      exact ih _ _ _ _ _ hF hI (lv_sub hl [2, 3, 0] rfl)
set_option maxHeartbeats 4000000 in
theorem c_X7_goes (hA : AdOk n ad A) (h0 : isX7 n sh 0) {w w' : Mem} {r : Int32} (hF : F_X7_goes  w = some (r, w')) : Ctr l n sh D cA ad A sa yX7_goes cX7_goes 4 (some .boolean) 4 92 [.ref (ad 0)] w (some (.int r)) w' := by
  refine m_enter hA (by decide) (Nat.le_of_ble_eq_true rfl) ?_
  intro p e s m args below meth c ls G hI hl
  replace hl : lv_has ls 4 [(0, .ref (ad 0))] := hl
  replace G : Mx n D cA ad A sa p s m args meth c RX7 cX7_goes 4 (some .boolean) := G
  obtain ⟨hx, hb, -, -, hown, hg, -⟩ := id G
  unfold F_X7_goes at hF
  refine lv_aload_n hx hb dX7_goes_0 rfl (lv_at hl 0 rfl) ?_
  obtain ⟨r2, w1, z3, hF⟩ := bd_some hF
  refine n_Vv (rest := []) G hI (c_X7_comesTrue hA h0 z3) my_X7_comesTrue kl_X7_233 (isX7.lt h0) (isX7.sh h0) rfl ⟨Nat.le_of_ble_eq_true rfl, Nat.le_of_ble_eq_true rfl⟩ rfl hl.1 rfl (Nat.le_of_ble_eq_true rfl) dX7_goes_1 (fun H locs hI => ?_)
  refine lv_aload_n hx hb dX7_goes_4 rfl (lv_at hl 0 rfl) ?_
  refine gf_X7_13 G hI h0 dX7_goes_5 ?_
  refine lv_bipush (v := (6 : Int32)) hx hb dX7_goes_8 (by decide) ?_
  refine n_ald G hI (isX7.told h0) (by decide) dX7_goes_10 ?_
  refine W.eq (g2 := F0 m 11 ls [.int (w1 2 6)]) rfl ?_
  refine lv_iconst (v := (1 : Int32)) hx hb dX7_goes_11 (by decide) ?_
  obtain ⟨k4, ek4, hF⟩ := jn_some hF
  have hJ4 : ∀ (w5 : Mem) (H : Heap) (locs : List Loc) (ls : Array Slot), k4  w5 = some (r, w') → Iv n sh D cA ad A s.heap w5 H locs → lv_has ls 4 [(0, .ref (ad 0))] → W p l e ({ frames := 4, cells := 0, slots := 0, locals := 92 } : Room) s m args below meth c H locs 0 0 (QM n sh D cA ad A below args s (some (.int r)) w') (F0 m 19 ls []) := by
    intro  w5 H locs ls hF hI hl
    replace hF := (congrFun ek4 w5).symm.trans hF
    refine lv_aload_n hx hb dX7_goes_19 rfl (lv_at hl 0 rfl) ?_
    obtain ⟨r7, w6, z8, hF⟩ := bd_some hF
    refine n_Vv (rest := []) G hI (c_X7_setPlan hA h0 z8) my_X7_setPlan kl_X7_117 (isX7.lt h0) (isX7.sh h0) rfl ⟨Nat.le_of_ble_eq_true rfl, Nat.le_of_ble_eq_true rfl⟩ rfl hl.1 rfl (Nat.le_of_ble_eq_true rfl) dX7_goes_20 (fun H locs hI => ?_)
    refine lv_iconst (v := (0 : Int32)) hx hb dX7_goes_23 (by decide) ?_
    refine lv_istore_n (lv' := [(1, .int (0 : Int32)), (0, .ref (ad 0))]) hx hb dX7_goes_24 rfl hl (by decide) rfl (fun ls hl => ?_)
    refine l_X7_goes_25 G h0 (fun w15 H locs ls hF hI hl => ?_) _ _ _ _ _ _ hF hI (lv_sub hl [1, 0] rfl)
    refine lv_aload_n hx hb dX7_goes_47 rfl (lv_at hl 0 rfl) ?_
    refine gf_X7_64 G hI h0 dX7_goes_48 ?_
    refine lv_iconst (v := (0 : Int32)) hx hb dX7_goes_51 (by decide) ?_
    refine n_ald G hI (isX7.means h0) (by decide) dX7_goes_52 ?_
    refine W.eq (g2 := F0 m 53 ls [.int (w15 19 0)]) rfl ?_
    refine lv_aload_n hx hb dX7_goes_53 rfl (lv_at hl 0 rfl) ?_
    refine gf_X7_64 G hI h0 dX7_goes_54 ?_
    refine lv_iconst (v := (1 : Int32)) hx hb dX7_goes_57 (by decide) ?_
    refine n_ald G hI (isX7.means h0) (by decide) dX7_goes_58 ?_
    refine W.eq (g2 := F0 m 59 ls [.int (w15 19 1), .int (w15 19 0)]) rfl ?_
    refine lv_iadd hx hb dX7_goes_59 ?_
    refine lv_aload_n hx hb dX7_goes_60 rfl (lv_at hl 0 rfl) ?_
    refine gf_X7_64 G hI h0 dX7_goes_61 ?_
    refine lv_iconst (v := (2 : Int32)) hx hb dX7_goes_64 (by decide) ?_
    refine n_ald G hI (isX7.means h0) (by decide) dX7_goes_65 ?_
    refine W.eq (g2 := F0 m 66 ls [.int (w15 19 2), .int ((w15 19 0) + (w15 19 1))]) rfl ?_
    refine lv_iadd hx hb dX7_goes_66 ?_
    obtain ⟨x16, ex16, hF⟩ := lt_some hF
    refine W.eq (g2 := F0 m 67 ls [.int x16]) (by rw [ex16]) ?_
    refine lv_istore_n (lv' := [(1, .int x16), (0, .ref (ad 0))]) hx hb dX7_goes_67 rfl hl (by decide) rfl (fun ls hl => ?_)
    refine lv_iconst (v := (0 : Int32)) hx hb dX7_goes_68 (by decide) ?_
    refine lv_istore_n (lv' := [(2, .int (0 : Int32)), (1, .int x16), (0, .ref (ad 0))]) hx hb dX7_goes_69 rfl hl (by decide) rfl (fun ls hl => ?_)
    refine l_X7_goes_70 G h0 (fun w26 H locs ls hF hI hl => ?_) _ _ _ _ _ _ hF hI (lv_sub hl [2, 1, 0] rfl)
    refine lv_aload_n hx hb dX7_goes_120 rfl (lv_at hl 0 rfl) ?_
    refine lv_dup hx hb dX7_goes_121 rfl ?_
    refine gf_X7_76 G hI h0 dX7_goes_122 ?_
    refine lv_iconst (v := (1 : Int32)) hx hb dX7_goes_125 (by decide) ?_
    refine lv_iadd hx hb dX7_goes_126 ?_
    obtain ⟨w27, ew27, hF⟩ := lt_some hF
    refine pf_X7_76 G hI h0 dX7_goes_127 (fun H locs hI => ?_)
    replace hI : Iv n sh D cA ad A s.heap w27 H locs := by rw [ew27]; exact hI
    refine lv_aload_n hx hb dX7_goes_130 rfl (lv_at hl 0 rfl) ?_
    refine gf_X7_130 G hI h0 dX7_goes_131 ?_
    obtain ⟨g28, hF⟩ := gd_some hF
    exact n_zret G hI g28 hF rfl dX7_goes_134
  refine lv_icmp_ne (tgt := 19) hx hb dX7_goes_12 (by decide) (fun c32 => ?_) (fun c32 => ?_)
  · replace hF := itn c32 hF
    exact hJ4 _ _ _ _ hF hI (lv_sub hl [0] rfl)
  · replace hF := itp c32 hF
    refine lv_aload_n hx hb dX7_goes_15 rfl (lv_at hl 0 rfl) ?_
    obtain ⟨r30, w29, z31, hF⟩ := bd_some hF
    refine n_Vv (rest := []) G hI (c_X7_steers hA h0 z31) my_X7_steers kl_X7_236 (isX7.lt h0) (isX7.sh h0) rfl ⟨Nat.le_of_ble_eq_true rfl, Nat.le_of_ble_eq_true rfl⟩ rfl hl.1 rfl (Nat.le_of_ble_eq_true rfl) dX7_goes_16 (fun H locs hI => ?_)
    exact hJ4 _ _ _ _ hF hI (lv_sub hl [0] rfl)
set_option maxHeartbeats 4000000 in
theorem l_X7_remembers_3 {p : Program} {e : Env} {s : State} {m : MethodId} {args : Array Value} {below : List Frame} {meth : Method} {c : Code} (G : Mx n D cA ad A sa p s m args meth c RX7 cX7_remembers 3 none) {a1 : Int32} (h0 : isX7 n sh 0) {k : Mem → Option (Unit × Mem)} {r : Unit} {w' : Mem}
    (hk : ∀  (w : Mem) (H : Heap) (locs : List Loc) (ls : Array Slot), k  w = some (r, w') → Iv n sh D cA ad A s.heap w H locs → lv_has ls 3 [(0, .ref (ad 0)), (1, .int a1)] → W p l e ({ frames := 0, cells := 0, slots := 0, locals := 0 } : Room) s m args below meth c H locs 0 0 (QM n sh D cA ad A below args s none w') (F0 m 28 ls [])) :
    ∀ (N : Nat) (v2 : Int32) (w : Mem) (H : Heap) (locs : List Loc) (ls : Array Slot), L_X7_remembers_3 a1 k N v2 w = some (r, w') → Iv n sh D cA ad A s.heap w H locs → lv_has ls 3 [(0, .ref (ad 0)), (1, .int a1), (2, .int v2)] → W p l e ({ frames := 0, cells := 0, slots := 0, locals := 0 } : Room) s m args below meth c H locs 0 0 (QM n sh D cA ad A below args s none w') (F0 m 3 ls []) := by
  obtain ⟨hx, hb, -, -, hown, hg, -, -, -, -, hA⟩ := id G
  intro N
  induction N with
  | zero =>
    intro v2 w H locs ls hF hI hl
    cases hF
  | succ N ih =>
    intro v2 w H locs ls hF hI hl
    rw [L_X7_remembers_3] at hF
    refine lv_iload_n hx hb dX7_remembers_3 rfl (lv_at hl 2 rfl) ?_
    refine lv_iconst (v := (4 : Int32)) hx hb dX7_remembers_4 (by decide) ?_
    refine lv_icmp_lt (tgt := 28) hx hb dX7_remembers_5 (by decide) (fun c4 => ?_) (fun c4 => ?_)
    · replace hF := itp c4 hF
      exact hk _ _ _ _ hF hI (lv_sub hl [0, 1] rfl)
    · replace hF := itn c4 hF
      refine lv_aload_n hx hb dX7_remembers_8 rfl (lv_at hl 0 rfl) ?_
      refine gf_X7_37 G hI h0 dX7_remembers_9 ?_
      refine lv_iload_n hx hb dX7_remembers_12 rfl (lv_at hl 2 rfl) ?_
      refine lv_aload_n hx hb dX7_remembers_13 rfl (lv_at hl 0 rfl) ?_
      refine gf_X7_37 G hI h0 dX7_remembers_14 ?_
      refine lv_iload_n hx hb dX7_remembers_17 rfl (lv_at hl 2 rfl) ?_
      refine lv_iconst (v := (4 : Int32)) hx hb dX7_remembers_18 (by decide) ?_
      refine lv_isub hx hb dX7_remembers_19 ?_
      obtain ⟨g1, hF⟩ := gd_some hF
      refine n_ald G hI (isX7.memory h0) g1 dX7_remembers_20 ?_
      obtain ⟨g2, hF⟩ := gd_some hF
      obtain ⟨w3, ew3, hF⟩ := lt_some hF
      refine n_ast G hI (isX7.memory h0) g2 dX7_remembers_21 (fun H locs hI => ?_)
      replace hI : Iv n sh D cA ad A s.heap w3 H locs := by rw [ew3]; exact hI
      refine lv_iinc (v := (v2 + (-1 : Int32))) (lv' := [(2, .int (v2 + (-1 : Int32))), (0, .ref (ad 0)), (1, .int a1)]) hx hb dX7_remembers_22 hl (k := 2) rfl rfl (by decide) rfl (fun ls hl => ?_)
      refine lv_goto (tgt := 3) hx hb dX7_remembers_25 (by decide) ?_
      exact ih _ _ _ _ _ hF hI (lv_sub hl [1, 2, 0] rfl)
set_option maxHeartbeats 4000000 in
theorem c_X7_remembers (hA : AdOk n ad A) (h0 : isX7 n sh 0) {a1 : Int32} {w w' : Mem} {r : Unit} (hF : F_X7_remembers a1 w = some (r, w')) : Ctr l n sh D cA ad A sa yX7_remembers cX7_remembers 3 none 0 0 [.ref (ad 0), .int a1] w none w' := by
  refine m_enter hA (by decide) (Nat.le_of_ble_eq_true rfl) ?_
  intro p e s m args below meth c ls G hI hl
  replace hl : lv_has ls 3 [(0, .ref (ad 0)), (1, .int a1)] := hl
  replace G : Mx n D cA ad A sa p s m args meth c RX7 cX7_remembers 3 none := G
  obtain ⟨hx, hb, -, -, hown, hg, -⟩ := id G
  unfold F_X7_remembers at hF
  refine lv_bipush (v := (39 : Int32)) hx hb dX7_remembers_0 (by decide) ?_
  refine lv_istore_n (lv' := [(2, .int (39 : Int32)), (0, .ref (ad 0)), (1, .int a1)]) hx hb dX7_remembers_2 rfl hl (by decide) rfl (fun ls hl => ?_)
  refine l_X7_remembers_3 G h0 (fun w5 H locs ls hF hI hl => ?_) _ _ _ _ _ _ hF hI (lv_sub hl [1, 2, 0] rfl)
  refine lv_aload_n hx hb dX7_remembers_28 rfl (lv_at hl 0 rfl) ?_
  refine gf_X7_37 G hI h0 dX7_remembers_29 ?_
  refine lv_iconst (v := (0 : Int32)) hx hb dX7_remembers_32 (by decide) ?_
  refine lv_aload_n hx hb dX7_remembers_33 rfl (lv_at hl 0 rfl) ?_
  refine gf_X7_16 G hI h0 dX7_remembers_34 ?_
  refine lv_iconst (v := (0 : Int32)) hx hb dX7_remembers_37 (by decide) ?_
  refine n_ald G hI (isX7.current h0) (by decide) dX7_remembers_38 ?_
  refine W.eq (g2 := F0 m 39 ls [.int (w5 3 0), .int (0 : Int32), .ref (ad 10)]) rfl ?_
  obtain ⟨w6, ew6, hF⟩ := lt_some hF
  refine n_ast G hI (isX7.memory h0) (by decide) dX7_remembers_39 (fun H locs hI => ?_)
  replace hI : Iv n sh D cA ad A s.heap w6 H locs := by rw [ew6]; exact hI
  refine lv_aload_n hx hb dX7_remembers_40 rfl (lv_at hl 0 rfl) ?_
  refine gf_X7_37 G hI h0 dX7_remembers_41 ?_
  refine lv_iconst (v := (1 : Int32)) hx hb dX7_remembers_44 (by decide) ?_
  refine lv_aload_n hx hb dX7_remembers_45 rfl (lv_at hl 0 rfl) ?_
  refine gf_X7_16 G hI h0 dX7_remembers_46 ?_
  refine lv_iconst (v := (1 : Int32)) hx hb dX7_remembers_49 (by decide) ?_
  refine n_ald G hI (isX7.current h0) (by decide) dX7_remembers_50 ?_
  refine W.eq (g2 := F0 m 51 ls [.int (w6 3 1), .int (1 : Int32), .ref (ad 10)]) rfl ?_
  obtain ⟨w7, ew7, hF⟩ := lt_some hF
  refine n_ast G hI (isX7.memory h0) (by decide) dX7_remembers_51 (fun H locs hI => ?_)
  replace hI : Iv n sh D cA ad A s.heap w7 H locs := by rw [ew7]; exact hI
  refine lv_aload_n hx hb dX7_remembers_52 rfl (lv_at hl 0 rfl) ?_
  refine gf_X7_37 G hI h0 dX7_remembers_53 ?_
  refine lv_iconst (v := (2 : Int32)) hx hb dX7_remembers_56 (by decide) ?_
  refine lv_aload_n hx hb dX7_remembers_57 rfl (lv_at hl 0 rfl) ?_
  refine gf_X7_16 G hI h0 dX7_remembers_58 ?_
  refine lv_iconst (v := (2 : Int32)) hx hb dX7_remembers_61 (by decide) ?_
  refine n_ald G hI (isX7.current h0) (by decide) dX7_remembers_62 ?_
  refine W.eq (g2 := F0 m 63 ls [.int (w7 3 2), .int (2 : Int32), .ref (ad 10)]) rfl ?_
  obtain ⟨w8, ew8, hF⟩ := lt_some hF
  refine n_ast G hI (isX7.memory h0) (by decide) dX7_remembers_63 (fun H locs hI => ?_)
  replace hI : Iv n sh D cA ad A s.heap w8 H locs := by rw [ew8]; exact hI
  refine lv_aload_n hx hb dX7_remembers_64 rfl (lv_at hl 0 rfl) ?_
  refine gf_X7_37 G hI h0 dX7_remembers_65 ?_
  refine lv_iconst (v := (3 : Int32)) hx hb dX7_remembers_68 (by decide) ?_
  refine lv_iload_n hx hb dX7_remembers_69 rfl (lv_at hl 1 rfl) ?_
  obtain ⟨k9, ek9, hF⟩ := jn_some hF
  have hJ9 : ∀ (x10 : Int32) (H : Heap) (locs : List Loc) (ls : Array Slot), k9 x10 = some (r, w') → Iv n sh D cA ad A s.heap w8 H locs → lv_has ls 3 [(0, .ref (ad 0))] → W p l e ({ frames := 0, cells := 0, slots := 0, locals := 0 } : Room) s m args below meth c H locs 0 0 (QM n sh D cA ad A below args s none w') (F0 m 78 ls [.int x10, .int (3 : Int32), .ref (ad 10)]) := by
    intro x10 H locs ls hF hI hl
    replace hF := (congrFun ek9 x10).symm.trans hF
    obtain ⟨w11, ew11, hF⟩ := lt_some hF
    refine n_ast G hI (isX7.memory h0) (by decide) dX7_remembers_78 (fun H locs hI => ?_)
    replace hI : Iv n sh D cA ad A s.heap w11 H locs := by rw [ew11]; exact hI
    refine lv_aload_n hx hb dX7_remembers_79 rfl (lv_at hl 0 rfl) ?_
    refine lv_dup hx hb dX7_remembers_80 rfl ?_
    refine gf_X7_83 G hI h0 dX7_remembers_81 ?_
    refine lv_aload_n hx hb dX7_remembers_84 rfl (lv_at hl 0 rfl) ?_
    refine gf_X7_83 G hI h0 dX7_remembers_85 ?_
    refine lv_bipush (v := (10 : Int32)) hx hb dX7_remembers_88 (by decide) ?_
    refine lv_icmp_ge (tgt := 97) hx hb dX7_remembers_90 (by decide) (fun c14 => ?_) (fun c14 => ?_)
    · replace hF := itp c14 hF
      refine lv_iconst (v := (0 : Int32)) hx hb dX7_remembers_97 (by decide) ?_
      refine lv_iadd hx hb dX7_remembers_98 ?_
      obtain ⟨w12, ew12, hF⟩ := lt_some hF
      refine pf_X7_83 G hI h0 dX7_remembers_99 (fun H locs hI => ?_)
      replace hI : Iv n sh D cA ad A s.heap w12 H locs := by rw [ew12]; exact hI
      exact n_vret G hI hF rfl dX7_remembers_102
    · replace hF := itn c14 hF
      refine lv_iconst (v := (1 : Int32)) hx hb dX7_remembers_93 (by decide) ?_
      refine lv_goto (tgt := 98) hx hb dX7_remembers_94 (by decide) ?_
      refine lv_iadd hx hb dX7_remembers_98 ?_
      obtain ⟨w13, ew13, hF⟩ := lt_some hF
      refine pf_X7_83 G hI h0 dX7_remembers_99 (fun H locs hI => ?_)
      replace hI : Iv n sh D cA ad A s.heap w13 H locs := by rw [ew13]; exact hI
      exact n_vret G hI hF rfl dX7_remembers_102
  refine lv_if_eq (tgt := 77) hx hb dX7_remembers_70 (by decide) (fun c15 => ?_) (fun c15 => ?_)
  · replace hF := itp c15 hF
    refine lv_iconst (v := (0 : Int32)) hx hb dX7_remembers_77 (by decide) ?_
    exact hJ9 _ _ _ _ hF hI (lv_sub hl [0] rfl)
  · replace hF := itn c15 hF
    refine lv_iconst (v := (1 : Int32)) hx hb dX7_remembers_73 (by decide) ?_
    refine lv_goto (tgt := 78) hx hb dX7_remembers_74 (by decide) ?_
    exact hJ9 _ _ _ _ hF hI (lv_sub hl [0] rfl)
set_option maxHeartbeats 4000000 in
theorem l_X7_steps_19 {p : Program} {e : Env} {s : State} {m : MethodId} {args : Array Value} {below : List Frame} {meth : Method} {c : Code} (G : Mx n D cA ad A sa p s m args meth c RX7 cX7_steps 5 (some .int)) {a1 : Int32} (h0 : isX7 n sh 0) {k : Int32 → Mem → Option (Int32 × Mem)} {r : Int32} {w' : Mem}
    (hk : ∀ (v2 : Int32) (w : Mem) (H : Heap) (locs : List Loc) (ls : Array Slot), k v2 w = some (r, w') → Iv n sh D cA ad A s.heap w H locs → lv_has ls 5 [(2, .int v2)] → W p l e ({ frames := 5, cells := 0, slots := 0, locals := 115 } : Room) s m args below meth c H locs 0 0 (QM n sh D cA ad A below args s (some (.int r)) w') (F0 m 55 ls [])) :
    ∀ (N : Nat) (v2 : Int32) (v3 : Int32) (w : Mem) (H : Heap) (locs : List Loc) (ls : Array Slot), L_X7_steps_19 a1 k N v2 v3 w = some (r, w') → Iv n sh D cA ad A s.heap w H locs → lv_has ls 5 [(0, .ref (ad 0)), (1, .int a1), (2, .int v2), (3, .int v3)] → W p l e ({ frames := 5, cells := 0, slots := 0, locals := 115 } : Room) s m args below meth c H locs 0 0 (QM n sh D cA ad A below args s (some (.int r)) w') (F0 m 19 ls []) := by
  obtain ⟨hx, hb, -, -, hown, hg, -, -, -, -, hA⟩ := id G
  intro N
  induction N with
  | zero =>
    intro v2 v3 w H locs ls hF hI hl
    cases hF
  | succ N ih =>
    intro v2 v3 w H locs ls hF hI hl
    rw [L_X7_steps_19] at hF
    refine lv_iload_n hx hb dX7_steps_19 rfl (lv_at hl 3 rfl) ?_
    refine lv_iload_n hx hb dX7_steps_20 rfl (lv_at hl 1 rfl) ?_
    refine lv_icmp_ge (tgt := 55) hx hb dX7_steps_21 (by decide) (fun c11 => ?_) (fun c11 => ?_)
    · replace hF := itp c11 hF
      exact hk _ _ _ _ _ hF hI (lv_sub hl [2] rfl)
    · replace hF := itn c11 hF
      refine lv_aload_n hx hb dX7_steps_24 rfl (lv_at hl 0 rfl) ?_
      obtain ⟨r5, w4, z6, hF⟩ := bd_some hF
      refine n_Vi (rest := []) G hI (c_X7_goes hA h0 z6) my_X7_goes kl_X7_239 (isX7.lt h0) (isX7.sh h0) rfl ⟨Nat.le_of_ble_eq_true rfl, Nat.le_of_ble_eq_true rfl⟩ rfl hl.1 rfl (Nat.le_of_ble_eq_true rfl) dX7_steps_25 (fun H locs hI => ?_)
      refine lv_istore (lv' := [(4, .int r5), (0, .ref (ad 0)), (1, .int a1), (2, .int v2), (3, .int v3)]) hx hb dX7_steps_28 hl (by decide) rfl (fun ls hl => ?_)
      refine lv_aload_n hx hb dX7_steps_30 rfl (lv_at hl 1 rfl) ?_
      refine lv_iload hx hb dX7_steps_31 (lv_at hl 0 rfl) ?_
      obtain ⟨r8, w7, z9, hF⟩ := bd_some hF
      refine n_Vv (rest := []) G hI (c_X7_remembers hA h0 z9) my_X7_remembers kl_X7_243 (isX7.lt h0) (isX7.sh h0) rfl ⟨Nat.le_of_ble_eq_true rfl, Nat.le_of_ble_eq_true rfl⟩ rfl hl.1 rfl (Nat.le_of_ble_eq_true rfl) dX7_steps_33 (fun H locs hI => ?_)
      refine lv_iload_n hx hb dX7_steps_36 rfl (lv_at hl 3 rfl) ?_
      refine lv_iload hx hb dX7_steps_37 (lv_at hl 0 rfl) ?_
      refine lv_if_eq (tgt := 46) hx hb dX7_steps_39 (by decide) (fun c10 => ?_) (fun c10 => ?_)
      · replace hF := itp c10 hF
        refine lv_iconst (v := (0 : Int32)) hx hb dX7_steps_46 (by decide) ?_
        refine lv_iadd hx hb dX7_steps_47 ?_
        refine lv_istore_n (lv' := [(2, .int (v2 + (0 : Int32))), (4, .int r5), (0, .ref (ad 0)), (1, .int a1), (3, .int v3)]) hx hb dX7_steps_48 rfl hl (by decide) rfl (fun ls hl => ?_)
        refine lv_iinc (v := (v3 + (1 : Int32))) (lv' := [(3, .int (v3 + (1 : Int32))), (2, .int (v2 + (0 : Int32))), (4, .int r5), (0, .ref (ad 0)), (1, .int a1)]) hx hb dX7_steps_49 hl (k := 4) rfl rfl (by decide) rfl (fun ls hl => ?_)
        refine lv_goto (tgt := 19) hx hb dX7_steps_52 (by decide) ?_
        exact ih _ _ _ _ _ _ hF hI (lv_sub hl [3, 4, 1, 0] rfl)
      · replace hF := itn c10 hF
        refine lv_iconst (v := (1 : Int32)) hx hb dX7_steps_42 (by decide) ?_
        refine lv_goto (tgt := 47) hx hb dX7_steps_43 (by decide) ?_
        refine lv_iadd hx hb dX7_steps_47 ?_
        refine lv_istore_n (lv' := [(2, .int (v2 + (1 : Int32))), (4, .int r5), (0, .ref (ad 0)), (1, .int a1), (3, .int v3)]) hx hb dX7_steps_48 rfl hl (by decide) rfl (fun ls hl => ?_)
        refine lv_iinc (v := (v3 + (1 : Int32))) (lv' := [(3, .int (v3 + (1 : Int32))), (2, .int (v2 + (1 : Int32))), (4, .int r5), (0, .ref (ad 0)), (1, .int a1)]) hx hb dX7_steps_49 hl (k := 4) rfl rfl (by decide) rfl (fun ls hl => ?_)
        refine lv_goto (tgt := 19) hx hb dX7_steps_52 (by decide) ?_
        exact ih _ _ _ _ _ _ hF hI (lv_sub hl [3, 4, 1, 0] rfl)
set_option maxHeartbeats 4000000 in
theorem c_X7_steps (hA : AdOk n ad A) (h0 : isX7 n sh 0) {a1 : Int32} {w w' : Mem} {r : Int32} (hF : F_X7_steps a1 w = some (r, w')) : Ctr l n sh D cA ad A sa yX7_steps cX7_steps 5 (some .int) 5 115 [.ref (ad 0), .int a1] w (some (.int r)) w' := by
  refine m_enter hA (by decide) (Nat.le_of_ble_eq_true rfl) ?_
  intro p e s m args below meth c ls G hI hl
  replace hl : lv_has ls 5 [(0, .ref (ad 0)), (1, .int a1)] := hl
  replace G : Mx n D cA ad A sa p s m args meth c RX7 cX7_steps 5 (some .int) := G
  obtain ⟨hx, hb, -, -, hown, hg, -⟩ := id G
  unfold F_X7_steps at hF
  refine lv_iload_n hx hb dX7_steps_0 rfl (lv_at hl 1 rfl) ?_
  refine lv_iconst (v := (1 : Int32)) hx hb dX7_steps_1 (by decide) ?_
  refine lv_bipush (v := (50 : Int32)) hx hb dX7_steps_2 (by decide) ?_
  obtain ⟨r2, w1, z3, hF⟩ := bd_some hF
  refine n_Si (rest := []) G hI (c_X7_in hA  z3) my_X7_in kl_X7_86 ⟨Nat.le_of_ble_eq_true rfl, Nat.le_of_ble_eq_true rfl⟩ rfl hl.1 rfl (Nat.le_of_ble_eq_true rfl) dX7_steps_4 (fun H locs hI => ?_)
  refine lv_if_ne (tgt := 15) hx hb dX7_steps_7 (by decide) (fun c17 => ?_) (fun c17 => ?_)
  · replace hF := itn c17 hF
    refine lv_iconst (v := (0 : Int32)) hx hb dX7_steps_15 (by decide) ?_
    refine lv_istore_n (lv' := [(2, .int (0 : Int32)), (0, .ref (ad 0)), (1, .int a1)]) hx hb dX7_steps_16 rfl hl (by decide) rfl (fun ls hl => ?_)
    refine lv_iconst (v := (0 : Int32)) hx hb dX7_steps_17 (by decide) ?_
    refine lv_istore_n (lv' := [(3, .int (0 : Int32)), (2, .int (0 : Int32)), (0, .ref (ad 0)), (1, .int a1)]) hx hb dX7_steps_18 rfl hl (by decide) rfl (fun ls hl => ?_)
    refine l_X7_steps_19 G h0 (fun x13 w12 H locs ls hF hI hl => ?_) _ _ _ _ _ _ _ hF hI (lv_sub hl [2, 3, 1, 0] rfl)
    refine lv_iload_n hx hb dX7_steps_55 rfl (lv_at hl 0 rfl) ?_
    exact n_iret G hI hF rfl dX7_steps_56
  · replace hF := itp c17 hF
    refine lv_aload_n hx hb dX7_steps_10 rfl (lv_at hl 0 rfl) ?_
    obtain ⟨r15, w14, z16, hF⟩ := bd_some hF
    refine n_Vi (rest := []) G hI (c_X7_bad hA h0 z16) my_X7_bad kl_X7_94 (isX7.lt h0) (isX7.sh h0) rfl ⟨Nat.le_of_ble_eq_true rfl, Nat.le_of_ble_eq_true rfl⟩ rfl hl.1 rfl (Nat.le_of_ble_eq_true rfl) dX7_steps_11 (fun H locs hI => ?_)
    exact n_iret G hI hF rfl dX7_steps_14
set_option maxHeartbeats 4000000 in
theorem l_X7_lays_2 {p : Program} {e : Env} {s : State} {m : MethodId} {args : Array Value} {below : List Frame} {meth : Method} {c : Code} (G : Mx n D cA ad A sa p s m args meth c RX7 cX7_lays 2 none)  (h0 : isX7 n sh 0) {k : Mem → Option (Unit × Mem)} {r : Unit} {w' : Mem}
    (hk : ∀  (w : Mem) (H : Heap) (locs : List Loc) (ls : Array Slot), k  w = some (r, w') → Iv n sh D cA ad A s.heap w H locs → lv_has ls 2 [(0, .ref (ad 0))] → W p l e ({ frames := 0, cells := 0, slots := 0, locals := 0 } : Room) s m args below meth c H locs 0 0 (QM n sh D cA ad A below args s none w') (F0 m 69 ls [])) :
    ∀ (N : Nat) (v1 : Int32) (w : Mem) (H : Heap) (locs : List Loc) (ls : Array Slot), L_X7_lays_2  k N v1 w = some (r, w') → Iv n sh D cA ad A s.heap w H locs → lv_has ls 2 [(0, .ref (ad 0)), (1, .int v1)] → W p l e ({ frames := 0, cells := 0, slots := 0, locals := 0 } : Room) s m args below meth c H locs 0 0 (QM n sh D cA ad A below args s none w') (F0 m 2 ls []) := by
  obtain ⟨hx, hb, -, -, hown, hg, -, -, -, -, hA⟩ := id G
  intro N
  induction N with
  | zero =>
    intro v1 w H locs ls hF hI hl
    cases hF
  | succ N ih =>
    intro v1 w H locs ls hF hI hl
    rw [L_X7_lays_2] at hF
    refine lv_iload_n hx hb dX7_lays_2 rfl (lv_at hl 1 rfl) ?_
    refine lv_iconst (v := (3 : Int32)) hx hb dX7_lays_3 (by decide) ?_
    refine lv_icmp_ge (tgt := 69) hx hb dX7_lays_4 (by decide) (fun c13 => ?_) (fun c13 => ?_)
    · replace hF := itp c13 hF
      exact hk _ _ _ _ hF hI (lv_sub hl [0] rfl)
    · replace hF := itn c13 hF
      refine lv_aload_n hx hb dX7_lays_7 rfl (lv_at hl 0 rfl) ?_
      refine gf_X7_67 G hI h0 dX7_lays_8 ?_
      refine lv_iload_n hx hb dX7_lays_11 rfl (lv_at hl 1 rfl) ?_
      refine lv_aload_n hx hb dX7_lays_12 rfl (lv_at hl 0 rfl) ?_
      refine gf_X7_16 G hI h0 dX7_lays_13 ?_
      refine lv_iload_n hx hb dX7_lays_16 rfl (lv_at hl 1 rfl) ?_
      obtain ⟨g1, hF⟩ := gd_some hF
      refine n_ald G hI (isX7.current h0) g1 dX7_lays_17 ?_
      obtain ⟨g2, hF⟩ := gd_some hF
      obtain ⟨w3, ew3, hF⟩ := lt_some hF
      refine n_ast G hI (isX7.aside h0) g2 dX7_lays_18 (fun H locs hI => ?_)
      replace hI : Iv n sh D cA ad A s.heap w3 H locs := by rw [ew3]; exact hI
      refine lv_aload_n hx hb dX7_lays_19 rfl (lv_at hl 0 rfl) ?_
      refine gf_X7_67 G hI h0 dX7_lays_20 ?_
      refine lv_iconst (v := (3 : Int32)) hx hb dX7_lays_23 (by decide) ?_
      refine lv_iload_n hx hb dX7_lays_24 rfl (lv_at hl 1 rfl) ?_
      refine lv_iadd hx hb dX7_lays_25 ?_
      refine lv_aload_n hx hb dX7_lays_26 rfl (lv_at hl 0 rfl) ?_
      refine gf_X7_19 G hI h0 dX7_lays_27 ?_
      refine lv_iload_n hx hb dX7_lays_30 rfl (lv_at hl 1 rfl) ?_
      obtain ⟨g4, hF⟩ := gd_some hF
      refine n_ald G hI (isX7.demand h0) g4 dX7_lays_31 ?_
      obtain ⟨g5, hF⟩ := gd_some hF
      obtain ⟨w6, ew6, hF⟩ := lt_some hF
      refine n_ast G hI (isX7.aside h0) g5 dX7_lays_32 (fun H locs hI => ?_)
      replace hI : Iv n sh D cA ad A s.heap w6 H locs := by rw [ew6]; exact hI
      refine lv_aload_n hx hb dX7_lays_33 rfl (lv_at hl 0 rfl) ?_
      refine gf_X7_67 G hI h0 dX7_lays_34 ?_
      refine lv_bipush (v := (6 : Int32)) hx hb dX7_lays_37 (by decide) ?_
      refine lv_iload_n hx hb dX7_lays_39 rfl (lv_at hl 1 rfl) ?_
      refine lv_iadd hx hb dX7_lays_40 ?_
      refine lv_aload_n hx hb dX7_lays_41 rfl (lv_at hl 0 rfl) ?_
      refine gf_X7_22 G hI h0 dX7_lays_42 ?_
      refine lv_iload_n hx hb dX7_lays_45 rfl (lv_at hl 1 rfl) ?_
      obtain ⟨g7, hF⟩ := gd_some hF
      refine n_ald G hI (isX7.want h0) g7 dX7_lays_46 ?_
      obtain ⟨g8, hF⟩ := gd_some hF
      obtain ⟨w9, ew9, hF⟩ := lt_some hF
      refine n_ast G hI (isX7.aside h0) g8 dX7_lays_47 (fun H locs hI => ?_)
      replace hI : Iv n sh D cA ad A s.heap w9 H locs := by rw [ew9]; exact hI
      refine lv_aload_n hx hb dX7_lays_48 rfl (lv_at hl 0 rfl) ?_
      refine gf_X7_67 G hI h0 dX7_lays_49 ?_
      refine lv_bipush (v := (9 : Int32)) hx hb dX7_lays_52 (by decide) ?_
      refine lv_iload_n hx hb dX7_lays_54 rfl (lv_at hl 1 rfl) ?_
      refine lv_iadd hx hb dX7_lays_55 ?_
      refine lv_aload_n hx hb dX7_lays_56 rfl (lv_at hl 0 rfl) ?_
      refine gf_X7_25 G hI h0 dX7_lays_57 ?_
      refine lv_iload_n hx hb dX7_lays_60 rfl (lv_at hl 1 rfl) ?_
      obtain ⟨g10, hF⟩ := gd_some hF
      refine n_ald G hI (isX7.sum h0) g10 dX7_lays_61 ?_
      obtain ⟨g11, hF⟩ := gd_some hF
      obtain ⟨w12, ew12, hF⟩ := lt_some hF
      refine n_ast G hI (isX7.aside h0) g11 dX7_lays_62 (fun H locs hI => ?_)
      replace hI : Iv n sh D cA ad A s.heap w12 H locs := by rw [ew12]; exact hI
      refine lv_iinc (v := (v1 + (1 : Int32))) (lv' := [(1, .int (v1 + (1 : Int32))), (0, .ref (ad 0))]) hx hb dX7_lays_63 hl (k := 1) rfl rfl (by decide) rfl (fun ls hl => ?_)
      refine lv_goto (tgt := 2) hx hb dX7_lays_66 (by decide) ?_
      exact ih _ _ _ _ _ hF hI (lv_sub hl [1, 0] rfl)
set_option maxHeartbeats 4000000 in
theorem l_X7_lays_93 {p : Program} {e : Env} {s : State} {m : MethodId} {args : Array Value} {below : List Frame} {meth : Method} {c : Code} (G : Mx n D cA ad A sa p s m args meth c RX7 cX7_lays 2 none)  (h0 : isX7 n sh 0) {k : Mem → Option (Unit × Mem)} {r : Unit} {w' : Mem}
    (hk : ∀  (w : Mem) (H : Heap) (locs : List Loc) (ls : Array Slot), k  w = some (r, w') → Iv n sh D cA ad A s.heap w H locs → lv_has ls 2 [] → W p l e ({ frames := 0, cells := 0, slots := 0, locals := 0 } : Room) s m args below meth c H locs 0 0 (QM n sh D cA ad A below args s none w') (F0 m 150 ls [])) :
    ∀ (N : Nat) (v1 : Int32) (w : Mem) (H : Heap) (locs : List Loc) (ls : Array Slot), L_X7_lays_93  k N v1 w = some (r, w') → Iv n sh D cA ad A s.heap w H locs → lv_has ls 2 [(0, .ref (ad 0)), (1, .int v1)] → W p l e ({ frames := 0, cells := 0, slots := 0, locals := 0 } : Room) s m args below meth c H locs 0 0 (QM n sh D cA ad A below args s none w') (F0 m 93 ls []) := by
  obtain ⟨hx, hb, -, -, hown, hg, -, -, -, -, hA⟩ := id G
  intro N
  induction N with
  | zero =>
    intro v1 w H locs ls hF hI hl
    cases hF
  | succ N ih =>
    intro v1 w H locs ls hF hI hl
    rw [L_X7_lays_93] at hF
    refine lv_iload_n hx hb dX7_lays_93 rfl (lv_at hl 1 rfl) ?_
    refine lv_bipush (v := (12 : Int32)) hx hb dX7_lays_94 (by decide) ?_
    refine lv_icmp_ge (tgt := 150) hx hb dX7_lays_96 (by decide) (fun c26 => ?_) (fun c26 => ?_)
    · replace hF := itp c26 hF
      exact hk _ _ _ _ hF hI (lv_sub hl [] rfl)
    · replace hF := itn c26 hF
      refine lv_aload_n hx hb dX7_lays_99 rfl (lv_at hl 0 rfl) ?_
      refine gf_X7_67 G hI h0 dX7_lays_100 ?_
      refine lv_bipush (v := (14 : Int32)) hx hb dX7_lays_103 (by decide) ?_
      refine lv_iload_n hx hb dX7_lays_105 rfl (lv_at hl 1 rfl) ?_
      refine lv_iadd hx hb dX7_lays_106 ?_
      refine lv_aload_n hx hb dX7_lays_107 rfl (lv_at hl 0 rfl) ?_
      refine gf_X7_28 G hI h0 dX7_lays_108 ?_
      refine lv_iload_n hx hb dX7_lays_111 rfl (lv_at hl 1 rfl) ?_
      obtain ⟨g17, hF⟩ := gd_some hF
      refine n_ald G hI (isX7.wishLeg h0) g17 dX7_lays_112 ?_
      obtain ⟨g18, hF⟩ := gd_some hF
      obtain ⟨w19, ew19, hF⟩ := lt_some hF
      refine n_ast G hI (isX7.aside h0) g18 dX7_lays_113 (fun H locs hI => ?_)
      replace hI : Iv n sh D cA ad A s.heap w19 H locs := by rw [ew19]; exact hI
      refine lv_aload_n hx hb dX7_lays_114 rfl (lv_at hl 0 rfl) ?_
      refine gf_X7_67 G hI h0 dX7_lays_115 ?_
      refine lv_bipush (v := (26 : Int32)) hx hb dX7_lays_118 (by decide) ?_
      refine lv_iload_n hx hb dX7_lays_120 rfl (lv_at hl 1 rfl) ?_
      refine lv_iadd hx hb dX7_lays_121 ?_
      refine lv_aload_n hx hb dX7_lays_122 rfl (lv_at hl 0 rfl) ?_
      refine gf_X7_31 G hI h0 dX7_lays_123 ?_
      refine lv_iload_n hx hb dX7_lays_126 rfl (lv_at hl 1 rfl) ?_
      obtain ⟨g20, hF⟩ := gd_some hF
      refine n_ald G hI (isX7.wishPeriod h0) g20 dX7_lays_127 ?_
      obtain ⟨g21, hF⟩ := gd_some hF
      obtain ⟨w22, ew22, hF⟩ := lt_some hF
      refine n_ast G hI (isX7.aside h0) g21 dX7_lays_128 (fun H locs hI => ?_)
      replace hI : Iv n sh D cA ad A s.heap w22 H locs := by rw [ew22]; exact hI
      refine lv_aload_n hx hb dX7_lays_129 rfl (lv_at hl 0 rfl) ?_
      refine gf_X7_67 G hI h0 dX7_lays_130 ?_
      refine lv_bipush (v := (38 : Int32)) hx hb dX7_lays_133 (by decide) ?_
      refine lv_iload_n hx hb dX7_lays_135 rfl (lv_at hl 1 rfl) ?_
      refine lv_iadd hx hb dX7_lays_136 ?_
      refine lv_aload_n hx hb dX7_lays_137 rfl (lv_at hl 0 rfl) ?_
      refine gf_X7_34 G hI h0 dX7_lays_138 ?_
      refine lv_iload_n hx hb dX7_lays_141 rfl (lv_at hl 1 rfl) ?_
      obtain ⟨g23, hF⟩ := gd_some hF
      refine n_ald G hI (isX7.wishValue h0) g23 dX7_lays_142 ?_
      obtain ⟨g24, hF⟩ := gd_some hF
      obtain ⟨w25, ew25, hF⟩ := lt_some hF
      refine n_ast G hI (isX7.aside h0) g24 dX7_lays_143 (fun H locs hI => ?_)
      replace hI : Iv n sh D cA ad A s.heap w25 H locs := by rw [ew25]; exact hI
      refine lv_iinc (v := (v1 + (1 : Int32))) (lv' := [(1, .int (v1 + (1 : Int32))), (0, .ref (ad 0))]) hx hb dX7_lays_144 hl (k := 1) rfl rfl (by decide) rfl (fun ls hl => ?_)
      refine lv_goto (tgt := 93) hx hb dX7_lays_147 (by decide) ?_
      exact ih _ _ _ _ _ hF hI (lv_sub hl [1, 0] rfl)
set_option maxHeartbeats 4000000 in
theorem c_X7_lays (hA : AdOk n ad A) (h0 : isX7 n sh 0) {w w' : Mem} {r : Unit} (hF : F_X7_lays  w = some (r, w')) : Ctr l n sh D cA ad A sa yX7_lays cX7_lays 2 none 0 0 [.ref (ad 0)] w none w' := by
  refine m_enter hA (by decide) (Nat.le_of_ble_eq_true rfl) ?_
  intro p e s m args below meth c ls G hI hl
  replace hl : lv_has ls 2 [(0, .ref (ad 0))] := hl
  replace G : Mx n D cA ad A sa p s m args meth c RX7 cX7_lays 2 none := G
  obtain ⟨hx, hb, -, -, hown, hg, -⟩ := id G
  unfold F_X7_lays at hF
  refine lv_iconst (v := (0 : Int32)) hx hb dX7_lays_0 (by decide) ?_
  refine lv_istore_n (lv' := [(1, .int (0 : Int32)), (0, .ref (ad 0))]) hx hb dX7_lays_1 rfl hl (by decide) rfl (fun ls hl => ?_)
  refine l_X7_lays_2 G h0 (fun w14 H locs ls hF hI hl => ?_) _ _ _ _ _ _ hF hI (lv_sub hl [1, 0] rfl)
  refine lv_aload_n hx hb dX7_lays_69 rfl (lv_at hl 0 rfl) ?_
  refine gf_X7_67 G hI h0 dX7_lays_70 ?_
  refine lv_bipush (v := (12 : Int32)) hx hb dX7_lays_73 (by decide) ?_
  refine lv_aload_n hx hb dX7_lays_75 rfl (lv_at hl 0 rfl) ?_
  refine gf_X7_76 G hI h0 dX7_lays_76 ?_
  obtain ⟨w15, ew15, hF⟩ := lt_some hF
  refine n_ast G hI (isX7.aside h0) (by decide) dX7_lays_79 (fun H locs hI => ?_)
  replace hI : Iv n sh D cA ad A s.heap w15 H locs := by rw [ew15]; exact hI
  refine lv_aload_n hx hb dX7_lays_80 rfl (lv_at hl 0 rfl) ?_
  refine gf_X7_67 G hI h0 dX7_lays_81 ?_
  refine lv_bipush (v := (13 : Int32)) hx hb dX7_lays_84 (by decide) ?_
  refine lv_aload_n hx hb dX7_lays_86 rfl (lv_at hl 0 rfl) ?_
  refine gf_X7_80 G hI h0 dX7_lays_87 ?_
  obtain ⟨w16, ew16, hF⟩ := lt_some hF
  refine n_ast G hI (isX7.aside h0) (by decide) dX7_lays_90 (fun H locs hI => ?_)
  replace hI : Iv n sh D cA ad A s.heap w16 H locs := by rw [ew16]; exact hI
  refine lv_iconst (v := (0 : Int32)) hx hb dX7_lays_91 (by decide) ?_
  refine lv_istore_n (lv' := [(1, .int (0 : Int32)), (0, .ref (ad 0))]) hx hb dX7_lays_92 rfl hl (by decide) rfl (fun ls hl => ?_)
  refine l_X7_lays_93 G h0 (fun w27 H locs ls hF hI hl => ?_) _ _ _ _ _ _ hF hI (lv_sub hl [1, 0] rfl)
  exact n_vret G hI hF rfl dX7_lays_150
set_option maxHeartbeats 4000000 in
theorem l_X7_takes_2 {p : Program} {e : Env} {s : State} {m : MethodId} {args : Array Value} {below : List Frame} {meth : Method} {c : Code} (G : Mx n D cA ad A sa p s m args meth c RX7 cX7_takes 2 none)  (h0 : isX7 n sh 0) {k : Mem → Option (Unit × Mem)} {r : Unit} {w' : Mem}
    (hk : ∀  (w : Mem) (H : Heap) (locs : List Loc) (ls : Array Slot), k  w = some (r, w') → Iv n sh D cA ad A s.heap w H locs → lv_has ls 2 [(0, .ref (ad 0))] → W p l e ({ frames := 0, cells := 0, slots := 0, locals := 0 } : Room) s m args below meth c H locs 0 0 (QM n sh D cA ad A below args s none w') (F0 m 69 ls [])) :
    ∀ (N : Nat) (v1 : Int32) (w : Mem) (H : Heap) (locs : List Loc) (ls : Array Slot), L_X7_takes_2  k N v1 w = some (r, w') → Iv n sh D cA ad A s.heap w H locs → lv_has ls 2 [(0, .ref (ad 0)), (1, .int v1)] → W p l e ({ frames := 0, cells := 0, slots := 0, locals := 0 } : Room) s m args below meth c H locs 0 0 (QM n sh D cA ad A below args s none w') (F0 m 2 ls []) := by
  obtain ⟨hx, hb, -, -, hown, hg, -, -, -, -, hA⟩ := id G
  intro N
  induction N with
  | zero =>
    intro v1 w H locs ls hF hI hl
    cases hF
  | succ N ih =>
    intro v1 w H locs ls hF hI hl
    rw [L_X7_takes_2] at hF
    refine lv_iload_n hx hb dX7_takes_2 rfl (lv_at hl 1 rfl) ?_
    refine lv_iconst (v := (3 : Int32)) hx hb dX7_takes_3 (by decide) ?_
    refine lv_icmp_ge (tgt := 69) hx hb dX7_takes_4 (by decide) (fun c13 => ?_) (fun c13 => ?_)
    · replace hF := itp c13 hF
      exact hk _ _ _ _ hF hI (lv_sub hl [0] rfl)
    · replace hF := itn c13 hF
      refine lv_aload_n hx hb dX7_takes_7 rfl (lv_at hl 0 rfl) ?_
      refine gf_X7_16 G hI h0 dX7_takes_8 ?_
      refine lv_iload_n hx hb dX7_takes_11 rfl (lv_at hl 1 rfl) ?_
      refine lv_aload_n hx hb dX7_takes_12 rfl (lv_at hl 0 rfl) ?_
      refine gf_X7_67 G hI h0 dX7_takes_13 ?_
      refine lv_iload_n hx hb dX7_takes_16 rfl (lv_at hl 1 rfl) ?_
      obtain ⟨g1, hF⟩ := gd_some hF
      refine n_ald G hI (isX7.aside h0) g1 dX7_takes_17 ?_
      obtain ⟨g2, hF⟩ := gd_some hF
      obtain ⟨w3, ew3, hF⟩ := lt_some hF
      refine n_ast G hI (isX7.current h0) g2 dX7_takes_18 (fun H locs hI => ?_)
      replace hI : Iv n sh D cA ad A s.heap w3 H locs := by rw [ew3]; exact hI
      refine lv_aload_n hx hb dX7_takes_19 rfl (lv_at hl 0 rfl) ?_
      refine gf_X7_19 G hI h0 dX7_takes_20 ?_
      refine lv_iload_n hx hb dX7_takes_23 rfl (lv_at hl 1 rfl) ?_
      refine lv_aload_n hx hb dX7_takes_24 rfl (lv_at hl 0 rfl) ?_
      refine gf_X7_67 G hI h0 dX7_takes_25 ?_
      refine lv_iconst (v := (3 : Int32)) hx hb dX7_takes_28 (by decide) ?_
      refine lv_iload_n hx hb dX7_takes_29 rfl (lv_at hl 1 rfl) ?_
      refine lv_iadd hx hb dX7_takes_30 ?_
      obtain ⟨g4, hF⟩ := gd_some hF
      refine n_ald G hI (isX7.aside h0) g4 dX7_takes_31 ?_
      obtain ⟨g5, hF⟩ := gd_some hF
      obtain ⟨w6, ew6, hF⟩ := lt_some hF
      refine n_ast G hI (isX7.demand h0) g5 dX7_takes_32 (fun H locs hI => ?_)
      replace hI : Iv n sh D cA ad A s.heap w6 H locs := by rw [ew6]; exact hI
      refine lv_aload_n hx hb dX7_takes_33 rfl (lv_at hl 0 rfl) ?_
      refine gf_X7_22 G hI h0 dX7_takes_34 ?_
      refine lv_iload_n hx hb dX7_takes_37 rfl (lv_at hl 1 rfl) ?_
      refine lv_aload_n hx hb dX7_takes_38 rfl (lv_at hl 0 rfl) ?_
      refine gf_X7_67 G hI h0 dX7_takes_39 ?_
      refine lv_bipush (v := (6 : Int32)) hx hb dX7_takes_42 (by decide) ?_
      refine lv_iload_n hx hb dX7_takes_44 rfl (lv_at hl 1 rfl) ?_
      refine lv_iadd hx hb dX7_takes_45 ?_
      obtain ⟨g7, hF⟩ := gd_some hF
      refine n_ald G hI (isX7.aside h0) g7 dX7_takes_46 ?_
      obtain ⟨g8, hF⟩ := gd_some hF
      obtain ⟨w9, ew9, hF⟩ := lt_some hF
      refine n_ast G hI (isX7.want h0) g8 dX7_takes_47 (fun H locs hI => ?_)
      replace hI : Iv n sh D cA ad A s.heap w9 H locs := by rw [ew9]; exact hI
      refine lv_aload_n hx hb dX7_takes_48 rfl (lv_at hl 0 rfl) ?_
      refine gf_X7_25 G hI h0 dX7_takes_49 ?_
      refine lv_iload_n hx hb dX7_takes_52 rfl (lv_at hl 1 rfl) ?_
      refine lv_aload_n hx hb dX7_takes_53 rfl (lv_at hl 0 rfl) ?_
      refine gf_X7_67 G hI h0 dX7_takes_54 ?_
      refine lv_bipush (v := (9 : Int32)) hx hb dX7_takes_57 (by decide) ?_
      refine lv_iload_n hx hb dX7_takes_59 rfl (lv_at hl 1 rfl) ?_
      refine lv_iadd hx hb dX7_takes_60 ?_
      obtain ⟨g10, hF⟩ := gd_some hF
      refine n_ald G hI (isX7.aside h0) g10 dX7_takes_61 ?_
      obtain ⟨g11, hF⟩ := gd_some hF
      obtain ⟨w12, ew12, hF⟩ := lt_some hF
      refine n_ast G hI (isX7.sum h0) g11 dX7_takes_62 (fun H locs hI => ?_)
      replace hI : Iv n sh D cA ad A s.heap w12 H locs := by rw [ew12]; exact hI
      refine lv_iinc (v := (v1 + (1 : Int32))) (lv' := [(1, .int (v1 + (1 : Int32))), (0, .ref (ad 0))]) hx hb dX7_takes_63 hl (k := 1) rfl rfl (by decide) rfl (fun ls hl => ?_)
      refine lv_goto (tgt := 2) hx hb dX7_takes_66 (by decide) ?_
      exact ih _ _ _ _ _ hF hI (lv_sub hl [1, 0] rfl)
set_option maxHeartbeats 4000000 in
theorem l_X7_takes_93 {p : Program} {e : Env} {s : State} {m : MethodId} {args : Array Value} {below : List Frame} {meth : Method} {c : Code} (G : Mx n D cA ad A sa p s m args meth c RX7 cX7_takes 2 none)  (h0 : isX7 n sh 0) {k : Mem → Option (Unit × Mem)} {r : Unit} {w' : Mem}
    (hk : ∀  (w : Mem) (H : Heap) (locs : List Loc) (ls : Array Slot), k  w = some (r, w') → Iv n sh D cA ad A s.heap w H locs → lv_has ls 2 [] → W p l e ({ frames := 0, cells := 0, slots := 0, locals := 0 } : Room) s m args below meth c H locs 0 0 (QM n sh D cA ad A below args s none w') (F0 m 150 ls [])) :
    ∀ (N : Nat) (v1 : Int32) (w : Mem) (H : Heap) (locs : List Loc) (ls : Array Slot), L_X7_takes_93  k N v1 w = some (r, w') → Iv n sh D cA ad A s.heap w H locs → lv_has ls 2 [(0, .ref (ad 0)), (1, .int v1)] → W p l e ({ frames := 0, cells := 0, slots := 0, locals := 0 } : Room) s m args below meth c H locs 0 0 (QM n sh D cA ad A below args s none w') (F0 m 93 ls []) := by
  obtain ⟨hx, hb, -, -, hown, hg, -, -, -, -, hA⟩ := id G
  intro N
  induction N with
  | zero =>
    intro v1 w H locs ls hF hI hl
    cases hF
  | succ N ih =>
    intro v1 w H locs ls hF hI hl
    rw [L_X7_takes_93] at hF
    refine lv_iload_n hx hb dX7_takes_93 rfl (lv_at hl 1 rfl) ?_
    refine lv_bipush (v := (12 : Int32)) hx hb dX7_takes_94 (by decide) ?_
    refine lv_icmp_ge (tgt := 150) hx hb dX7_takes_96 (by decide) (fun c26 => ?_) (fun c26 => ?_)
    · replace hF := itp c26 hF
      exact hk _ _ _ _ hF hI (lv_sub hl [] rfl)
    · replace hF := itn c26 hF
      refine lv_aload_n hx hb dX7_takes_99 rfl (lv_at hl 0 rfl) ?_
      refine gf_X7_28 G hI h0 dX7_takes_100 ?_
      refine lv_iload_n hx hb dX7_takes_103 rfl (lv_at hl 1 rfl) ?_
      refine lv_aload_n hx hb dX7_takes_104 rfl (lv_at hl 0 rfl) ?_
      refine gf_X7_67 G hI h0 dX7_takes_105 ?_
      refine lv_bipush (v := (14 : Int32)) hx hb dX7_takes_108 (by decide) ?_
      refine lv_iload_n hx hb dX7_takes_110 rfl (lv_at hl 1 rfl) ?_
      refine lv_iadd hx hb dX7_takes_111 ?_
      obtain ⟨g17, hF⟩ := gd_some hF
      refine n_ald G hI (isX7.aside h0) g17 dX7_takes_112 ?_
      obtain ⟨g18, hF⟩ := gd_some hF
      obtain ⟨w19, ew19, hF⟩ := lt_some hF
      refine n_ast G hI (isX7.wishLeg h0) g18 dX7_takes_113 (fun H locs hI => ?_)
      replace hI : Iv n sh D cA ad A s.heap w19 H locs := by rw [ew19]; exact hI
      refine lv_aload_n hx hb dX7_takes_114 rfl (lv_at hl 0 rfl) ?_
      refine gf_X7_31 G hI h0 dX7_takes_115 ?_
      refine lv_iload_n hx hb dX7_takes_118 rfl (lv_at hl 1 rfl) ?_
      refine lv_aload_n hx hb dX7_takes_119 rfl (lv_at hl 0 rfl) ?_
      refine gf_X7_67 G hI h0 dX7_takes_120 ?_
      refine lv_bipush (v := (26 : Int32)) hx hb dX7_takes_123 (by decide) ?_
      refine lv_iload_n hx hb dX7_takes_125 rfl (lv_at hl 1 rfl) ?_
      refine lv_iadd hx hb dX7_takes_126 ?_
      obtain ⟨g20, hF⟩ := gd_some hF
      refine n_ald G hI (isX7.aside h0) g20 dX7_takes_127 ?_
      obtain ⟨g21, hF⟩ := gd_some hF
      obtain ⟨w22, ew22, hF⟩ := lt_some hF
      refine n_ast G hI (isX7.wishPeriod h0) g21 dX7_takes_128 (fun H locs hI => ?_)
      replace hI : Iv n sh D cA ad A s.heap w22 H locs := by rw [ew22]; exact hI
      refine lv_aload_n hx hb dX7_takes_129 rfl (lv_at hl 0 rfl) ?_
      refine gf_X7_34 G hI h0 dX7_takes_130 ?_
      refine lv_iload_n hx hb dX7_takes_133 rfl (lv_at hl 1 rfl) ?_
      refine lv_aload_n hx hb dX7_takes_134 rfl (lv_at hl 0 rfl) ?_
      refine gf_X7_67 G hI h0 dX7_takes_135 ?_
      refine lv_bipush (v := (38 : Int32)) hx hb dX7_takes_138 (by decide) ?_
      refine lv_iload_n hx hb dX7_takes_140 rfl (lv_at hl 1 rfl) ?_
      refine lv_iadd hx hb dX7_takes_141 ?_
      obtain ⟨g23, hF⟩ := gd_some hF
      refine n_ald G hI (isX7.aside h0) g23 dX7_takes_142 ?_
      obtain ⟨g24, hF⟩ := gd_some hF
      obtain ⟨w25, ew25, hF⟩ := lt_some hF
      refine n_ast G hI (isX7.wishValue h0) g24 dX7_takes_143 (fun H locs hI => ?_)
      replace hI : Iv n sh D cA ad A s.heap w25 H locs := by rw [ew25]; exact hI
      refine lv_iinc (v := (v1 + (1 : Int32))) (lv' := [(1, .int (v1 + (1 : Int32))), (0, .ref (ad 0))]) hx hb dX7_takes_144 hl (k := 1) rfl rfl (by decide) rfl (fun ls hl => ?_)
      refine lv_goto (tgt := 93) hx hb dX7_takes_147 (by decide) ?_
      exact ih _ _ _ _ _ hF hI (lv_sub hl [1, 0] rfl)
set_option maxHeartbeats 4000000 in
theorem c_X7_takes (hA : AdOk n ad A) (h0 : isX7 n sh 0) {w w' : Mem} {r : Unit} (hF : F_X7_takes  w = some (r, w')) : Ctr l n sh D cA ad A sa yX7_takes cX7_takes 2 none 0 0 [.ref (ad 0)] w none w' := by
  refine m_enter hA (by decide) (Nat.le_of_ble_eq_true rfl) ?_
  intro p e s m args below meth c ls G hI hl
  replace hl : lv_has ls 2 [(0, .ref (ad 0))] := hl
  replace G : Mx n D cA ad A sa p s m args meth c RX7 cX7_takes 2 none := G
  obtain ⟨hx, hb, -, -, hown, hg, -⟩ := id G
  unfold F_X7_takes at hF
  refine lv_iconst (v := (0 : Int32)) hx hb dX7_takes_0 (by decide) ?_
  refine lv_istore_n (lv' := [(1, .int (0 : Int32)), (0, .ref (ad 0))]) hx hb dX7_takes_1 rfl hl (by decide) rfl (fun ls hl => ?_)
  refine l_X7_takes_2 G h0 (fun w14 H locs ls hF hI hl => ?_) _ _ _ _ _ _ hF hI (lv_sub hl [1, 0] rfl)
  refine lv_aload_n hx hb dX7_takes_69 rfl (lv_at hl 0 rfl) ?_
  refine lv_aload_n hx hb dX7_takes_70 rfl (lv_at hl 0 rfl) ?_
  refine gf_X7_67 G hI h0 dX7_takes_71 ?_
  refine lv_bipush (v := (12 : Int32)) hx hb dX7_takes_74 (by decide) ?_
  refine n_ald G hI (isX7.aside h0) (by decide) dX7_takes_76 ?_
  refine W.eq (g2 := F0 m 77 ls [.int (w14 20 12), .ref (ad 0)]) rfl ?_
  obtain ⟨w15, ew15, hF⟩ := lt_some hF
  refine pf_X7_76 G hI h0 dX7_takes_77 (fun H locs hI => ?_)
  replace hI : Iv n sh D cA ad A s.heap w15 H locs := by rw [ew15]; exact hI
  refine lv_aload_n hx hb dX7_takes_80 rfl (lv_at hl 0 rfl) ?_
  refine lv_aload_n hx hb dX7_takes_81 rfl (lv_at hl 0 rfl) ?_
  refine gf_X7_67 G hI h0 dX7_takes_82 ?_
  refine lv_bipush (v := (13 : Int32)) hx hb dX7_takes_85 (by decide) ?_
  refine n_ald G hI (isX7.aside h0) (by decide) dX7_takes_87 ?_
  refine W.eq (g2 := F0 m 88 ls [.int (w15 20 13), .ref (ad 0)]) rfl ?_
  obtain ⟨w16, ew16, hF⟩ := lt_some hF
  refine pf_X7_80 G hI h0 dX7_takes_88 (fun H locs hI => ?_)
  replace hI : Iv n sh D cA ad A s.heap w16 H locs := by rw [ew16]; exact hI
  refine lv_iconst (v := (0 : Int32)) hx hb dX7_takes_91 (by decide) ?_
  refine lv_istore_n (lv' := [(1, .int (0 : Int32)), (0, .ref (ad 0))]) hx hb dX7_takes_92 rfl hl (by decide) rfl (fun ls hl => ?_)
  refine l_X7_takes_93 G h0 (fun w27 H locs ls hF hI hl => ?_) _ _ _ _ _ _ hF hI (lv_sub hl [1, 0] rfl)
  exact n_vret G hI hF rfl dX7_takes_150
end WK13
