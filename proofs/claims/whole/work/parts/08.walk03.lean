/-! walks, by program (wip/gen/walk.py): X2_find, X2_sees, J6_bitCount_0f7a4, X2_howManySeen, X2_ticksOf, X3_mayMove, X3_tryOne, X3_searchAllOf, X3_search -/
section WK3
variable {n : Nat} {sh : Nat → Shp} {D : va_G} {cA : ClassId} {ad : Nat → Nat} {A : Nat → Prop} {sa : Nat → Nat} {l : Launch}
set_option maxHeartbeats 4000000 in
theorem l_X2_find_19 {p : Program} {e : Env} {s : State} {m : MethodId} {args : Array Value} {below : List Frame} {meth : Method} {c : Code} (G : Mx n D cA ad A sa p s m args meth c RX2 cX2_find 10 none) {q0 : Nat} {a1 : Int32} {a2 : Int32} {q3 : Nat} {q4 : Nat} (h0 : isX2 n sh q0) (h3 : isAr n sh q3 3) (h4 : isAr n sh q4 3) {k : Mem → Option (Unit × Mem)} {r : Unit} {w' : Mem}
    (hk : ∀  (w : Mem) (H : Heap) (locs : List Loc) (ls : Array Slot), k  w = some (r, w') → Iv n sh D cA ad A s.heap w H locs → lv_has ls 10 [] → W p l e ({ frames := 3, cells := 0, slots := 0, locals := 64 } : Room) s m args below meth c H locs 0 0 (QM n sh D cA ad A below args s none w') (F0 m 121 ls [])) :
    ∀ (N : Nat) (v5 : Int32) (v6 : Int32) (w : Mem) (H : Heap) (locs : List Loc) (ls : Array Slot), L_X2_find_19 q0 a1 a2 q3 q4 k N v5 v6 w = some (r, w') → Iv n sh D cA ad A s.heap w H locs → lv_has ls 10 [(0, .ref (ad q0)), (1, .int a1), (2, .int a2), (3, .ref (ad q3)), (4, .ref (ad q4)), (5, .int v5), (6, .int v6)] → W p l e ({ frames := 3, cells := 0, slots := 0, locals := 64 } : Room) s m args below meth c H locs 0 0 (QM n sh D cA ad A below args s none w') (F0 m 19 ls []) := by
  obtain ⟨hx, hb, -, -, hown, hg, -, -, -, -, hA⟩ := id G
  intro N
  induction N with
  | zero =>
    intro v5 v6 w H locs ls hF hI hl
    cases hF
  | succ N ih =>
    intro v5 v6 w H locs ls hF hI hl
    rw [L_X2_find_19] at hF
    refine lv_iload hx hb dX2_find_19 (lv_at hl 6 rfl) ?_
    refine lv_bipush (v := (7 : Int32)) hx hb dX2_find_21 (by decide) ?_
    refine lv_icmp_ge (tgt := 121) hx hb dX2_find_23 (by decide) (fun c23 => ?_) (fun c23 => ?_)
    · replace hF := itp c23 hF
      exact hk _ _ _ _ hF hI (lv_sub hl [] rfl)
    · replace hF := itn c23 hF
      refine lv_iload hx hb dX2_find_26 (lv_at hl 5 rfl) ?_
      refine lv_iload_n hx hb dX2_find_28 rfl (lv_at hl 1 rfl) ?_
      refine lv_icmp_ge (tgt := 121) hx hb dX2_find_29 (by decide) (fun c22 => ?_) (fun c22 => ?_)
      · replace hF := itp c22 hF
        exact hk _ _ _ _ hF hI (lv_sub hl [] rfl)
      · replace hF := itn c22 hF
        refine lv_iload hx hb dX2_find_32 (lv_at hl 5 rfl) ?_
        refine lv_iload_n hx hb dX2_find_34 rfl (lv_at hl 1 rfl) ?_
        refine lv_aload_n hx hb dX2_find_35 rfl (lv_at hl 3 rfl) ?_
        refine lv_aload hx hb dX2_find_36 (lv_at hl 4 rfl) ?_
        obtain ⟨r6, w5, z7, hF⟩ := bd_some hF
        refine n_Si (rest := []) G hI (c_X2_nextChange hA h3 h4 z7) my_X2_nextChange kl_X2_27 ⟨Nat.le_of_ble_eq_true rfl, Nat.le_of_ble_eq_true rfl⟩ rfl hl.1 rfl (Nat.le_of_ble_eq_true rfl) dX2_find_38 (fun H locs hI => ?_)
        refine lv_istore (lv' := [(7, .int r6), (0, .ref (ad q0)), (1, .int a1), (2, .int a2), (3, .ref (ad q3)), (4, .ref (ad q4)), (5, .int v5), (6, .int v6)]) hx hb dX2_find_41 hl (by decide) rfl (fun ls hl => ?_)
        refine lv_iload hx hb dX2_find_43 (lv_at hl 6 rfl) ?_
        refine lv_aload_n hx hb dX2_find_45 rfl (lv_at hl 4 rfl) ?_
        refine lv_aload hx hb dX2_find_46 (lv_at hl 5 rfl) ?_
        obtain ⟨r9, w8, z10, hF⟩ := bd_some hF
        refine n_Si (rest := []) G hI (c_X2_patternAt hA h3 h4 z10) my_X2_patternAt kl_X2_31 ⟨Nat.le_of_ble_eq_true rfl, Nat.le_of_ble_eq_true rfl⟩ rfl hl.1 rfl (Nat.le_of_ble_eq_true rfl) dX2_find_48 (fun H locs hI => ?_)
        refine lv_istore (lv' := [(8, .int r9), (7, .int r6), (0, .ref (ad q0)), (1, .int a1), (2, .int a2), (3, .ref (ad q3)), (4, .ref (ad q4)), (5, .int v5), (6, .int v6)]) hx hb dX2_find_51 hl (by decide) rfl (fun ls hl => ?_)
        refine lv_iload hx hb dX2_find_53 (lv_at hl 1 rfl) ?_
        refine lv_iload hx hb dX2_find_55 (lv_at hl 7 rfl) ?_
        refine lv_isub hx hb dX2_find_57 ?_
        refine lv_iload_n hx hb dX2_find_58 rfl (lv_at hl 4 rfl) ?_
        obtain ⟨k11, ek11, hF⟩ := jn_some hF
        have hJ11 : ∀ (x12 : Int32) (H : Heap) (locs : List Loc) (ls : Array Slot), k11 x12 = some (r, w') → Iv n sh D cA ad A s.heap w8 H locs → lv_has ls 10 [(0, .ref (ad q0)), (1, .int a1), (2, .int a2), (3, .ref (ad q3)), (4, .ref (ad q4)), (5, .int v5), (6, .int v6), (7, .int r6), (8, .int r9)] → W p l e ({ frames := 3, cells := 0, slots := 0, locals := 64 } : Room) s m args below meth c H locs 0 0 (QM n sh D cA ad A below args s none w') (F0 m 72 ls [.int x12]) := by
          intro x12 H locs ls hF hI hl
          replace hF := (congrFun ek11 x12).symm.trans hF
          refine lv_istore (lv' := [(9, .int x12), (0, .ref (ad q0)), (1, .int a1), (2, .int a2), (3, .ref (ad q3)), (4, .ref (ad q4)), (5, .int v5), (6, .int v6), (7, .int r6), (8, .int r9)]) hx hb dX2_find_72 hl (by decide) rfl (fun ls hl => ?_)
          refine lv_iload hx hb dX2_find_74 (lv_at hl 0 rfl) ?_
          refine lv_iconst (v := (-1 : Int32)) hx hb dX2_find_76 (by decide) ?_
          obtain ⟨k13, ek13, hF⟩ := jn_some hF
          have hJ13 : ∀ (w14 : Mem) (H : Heap) (locs : List Loc) (ls : Array Slot), k13  w14 = some (r, w') → Iv n sh D cA ad A s.heap w14 H locs → lv_has ls 10 [(0, .ref (ad q0)), (1, .int a1), (2, .int a2), (3, .ref (ad q3)), (4, .ref (ad q4)), (5, .int v5), (6, .int v6), (7, .int r6), (8, .int r9), (9, .int x12)] → W p l e ({ frames := 3, cells := 0, slots := 0, locals := 64 } : Room) s m args below meth c H locs 0 0 (QM n sh D cA ad A below args s none w') (F0 m 93 ls []) := by
            intro  w14 H locs ls hF hI hl
            replace hF := (congrFun ek13 w14).symm.trans hF
            refine lv_aload_n hx hb dX2_find_93 rfl (lv_at hl 0 rfl) ?_
            refine gf_X2_14 G hI h0 dX2_find_94 ?_
            refine lv_iload hx hb dX2_find_97 (lv_at hl 5 rfl) ?_
            refine lv_iload hx hb dX2_find_99 (lv_at hl 7 rfl) ?_
            refine lv_iload hx hb dX2_find_101 (lv_at hl 5 rfl) ?_
            refine lv_isub hx hb dX2_find_103 ?_
            refine lv_iload hx hb dX2_find_104 (lv_at hl 8 rfl) ?_
            refine lv_iload hx hb dX2_find_106 (lv_at hl 9 rfl) ?_
            obtain ⟨r16, w15, z17, hF⟩ := bd_some hF
            refine n_Vv (rest := []) G hI (c_X4_add hA (isX2.rows h0) z17) my_X4_add kl_X2_39 (isX4.lt (isX2.rows h0)) (isX4.sh (isX2.rows h0)) rfl ⟨Nat.le_of_ble_eq_true rfl, Nat.le_of_ble_eq_true rfl⟩ rfl hl.1 rfl (Nat.le_of_ble_eq_true rfl) dX2_find_108 (fun H locs hI => ?_)
            refine lv_iload hx hb dX2_find_111 (lv_at hl 7 rfl) ?_
            refine lv_istore (lv' := [(5, .int r6), (0, .ref (ad q0)), (1, .int a1), (2, .int a2), (3, .ref (ad q3)), (4, .ref (ad q4)), (6, .int v6), (7, .int r6), (8, .int r9), (9, .int x12)]) hx hb dX2_find_113 hl (by decide) rfl (fun ls hl => ?_)
            refine lv_iinc (v := (v6 + (1 : Int32))) (lv' := [(6, .int (v6 + (1 : Int32))), (5, .int r6), (0, .ref (ad q0)), (1, .int a1), (2, .int a2), (3, .ref (ad q3)), (4, .ref (ad q4)), (7, .int r6), (8, .int r9), (9, .int x12)]) hx hb dX2_find_115 hl (k := 6) rfl rfl (by decide) rfl (fun ls hl => ?_)
            refine lv_goto (tgt := 19) hx hb dX2_find_118 (by decide) ?_
            exact ih _ _ _ _ _ _ hF hI (lv_sub hl [2, 3, 4, 5, 6, 1, 0] rfl)
          refine lv_icmp_eq (tgt := 93) hx hb dX2_find_77 (by decide) (fun c19 => ?_) (fun c19 => ?_)
          · replace hF := itp c19 hF
            exact hJ13 _ _ _ _ hF hI (lv_sub hl [1, 2, 3, 4, 5, 6, 7, 8, 9, 0] rfl)
          · replace hF := itn c19 hF
            refine lv_aload_n hx hb dX2_find_80 rfl (lv_at hl 1 rfl) ?_
            refine lv_dup hx hb dX2_find_81 rfl ?_
            refine gf_X2_23 G hI h0 dX2_find_82 ?_
            refine lv_iconst (v := (1 : Int32)) hx hb dX2_find_85 (by decide) ?_
            refine lv_iload hx hb dX2_find_86 (lv_at hl 0 rfl) ?_
            refine lv_ishl hx hb dX2_find_88 ?_
            refine lv_ior hx hb dX2_find_89 ?_
            obtain ⟨w18, ew18, hF⟩ := lt_some hF
            refine pf_X2_23 G hI h0 dX2_find_90 (fun H locs hI => ?_)
            replace hI : Iv n sh D cA ad A s.heap w18 H locs := by rw [ew18]; exact hI
            exact hJ13 _ _ _ _ hF hI (lv_sub hl [1, 2, 3, 4, 5, 6, 7, 8, 9, 0] rfl)
        refine lv_icmp_lt (tgt := 71) hx hb dX2_find_59 (by decide) (fun c21 => ?_) (fun c21 => ?_)
        · replace hF := itp c21 hF
          refine lv_iconst (v := (-1 : Int32)) hx hb dX2_find_71 (by decide) ?_
          exact hJ11 _ _ _ _ hF hI (lv_sub hl [2, 3, 4, 5, 6, 7, 8, 1, 0] rfl)
        · replace hF := itn c21 hF
          refine m_getsN G hI 3 (by decide) (fun h => h.2.2) dX2_find_62 ?_
          refine lv_iload hx hb dX2_find_65 (lv_at hl 0 rfl) ?_
          obtain ⟨g20, hF⟩ := gd_some hF
          refine n_sald G hI 3 (by decide) g20 dX2_find_67 ?_
          refine lv_goto (tgt := 72) hx hb dX2_find_68 (by decide) ?_
          exact hJ11 _ _ _ _ hF hI (lv_sub hl [2, 3, 4, 5, 6, 7, 8, 1, 0] rfl)
set_option maxHeartbeats 4000000 in
theorem c_X2_find (hA : AdOk n ad A) {q0 : Nat} (h0 : isX2 n sh q0) {a1 : Int32} {a2 : Int32} {q3 : Nat} (h3 : isAr n sh q3 3) {q4 : Nat} (h4 : isAr n sh q4 3) {w w' : Mem} {r : Unit} (hF : F_X2_find q0 a1 a2 q3 q4 w = some (r, w')) : Ctr l n sh D cA ad A sa yX2_find cX2_find 10 none 3 64 [.ref (ad q0), .int a1, .int a2, .ref (ad q3), .ref (ad q4)] w none w' := by
  refine m_enter hA (by decide) (Nat.le_of_ble_eq_true rfl) ?_
  intro p e s m args below meth c ls G hI hl
  replace hl : lv_has ls 10 [(0, .ref (ad q0)), (1, .int a1), (2, .int a2), (3, .ref (ad q3)), (4, .ref (ad q4))] := hl
  replace G : Mx n D cA ad A sa p s m args meth c RX2 cX2_find 10 none := G
  obtain ⟨hx, hb, -, -, hown, hg, -⟩ := id G
  unfold F_X2_find at hF
  refine lv_aload_n hx hb dX2_find_0 rfl (lv_at hl 0 rfl) ?_
  refine gf_X2_14 G hI h0 dX2_find_1 ?_
  refine lv_iconst (v := (0 : Int32)) hx hb dX2_find_4 (by decide) ?_
  obtain ⟨r2, w1, z3, hF⟩ := bd_some hF
  refine n_Vv (rest := []) G hI (c_X4_cutTo hA (isX2.rows h0) z3) my_X4_cutTo kl_X2_20 (isX4.lt (isX2.rows h0)) (isX4.sh (isX2.rows h0)) rfl ⟨Nat.le_of_ble_eq_true rfl, Nat.le_of_ble_eq_true rfl⟩ rfl hl.1 rfl (Nat.le_of_ble_eq_true rfl) dX2_find_5 (fun H locs hI => ?_)
  refine lv_aload_n hx hb dX2_find_8 rfl (lv_at hl 0 rfl) ?_
  refine lv_iconst (v := (0 : Int32)) hx hb dX2_find_9 (by decide) ?_
  obtain ⟨w4, ew4, hF⟩ := lt_some hF
  refine pf_X2_23 G hI h0 dX2_find_10 (fun H locs hI => ?_)
  replace hI : Iv n sh D cA ad A s.heap w4 H locs := by rw [ew4]; exact hI
  refine lv_iconst (v := (0 : Int32)) hx hb dX2_find_13 (by decide) ?_
  refine lv_istore (lv' := [(5, .int (0 : Int32)), (0, .ref (ad q0)), (1, .int a1), (2, .int a2), (3, .ref (ad q3)), (4, .ref (ad q4))]) hx hb dX2_find_14 hl (by decide) rfl (fun ls hl => ?_)
  refine lv_iconst (v := (0 : Int32)) hx hb dX2_find_16 (by decide) ?_
  refine lv_istore (lv' := [(6, .int (0 : Int32)), (5, .int (0 : Int32)), (0, .ref (ad q0)), (1, .int a1), (2, .int a2), (3, .ref (ad q3)), (4, .ref (ad q4))]) hx hb dX2_find_17 hl (by decide) rfl (fun ls hl => ?_)
  refine l_X2_find_19 G h0 h3 h4 (fun w24 H locs ls hF hI hl => ?_) _ _ _ _ _ _ _ hF hI (lv_sub hl [2, 3, 4, 5, 6, 1, 0] rfl)
  exact n_vret G hI hF rfl dX2_find_121
set_option maxHeartbeats 4000000 in
theorem c_X2_sees (hA : AdOk n ad A) {q0 : Nat} (h0 : isX2 n sh q0) {a1 : Int32} {w w' : Mem} {r : Int32} (hF : F_X2_sees q0 a1 w = some (r, w')) : Ctr l n sh D cA ad A sa yX2_sees cX2_sees 2 (some .boolean) 0 0 [.ref (ad q0), .int a1] w (some (.int r)) w' := by
  refine m_enter hA (by decide) (Nat.le_of_ble_eq_true rfl) ?_
  intro p e s m args below meth c ls G hI hl
  replace hl : lv_has ls 2 [(0, .ref (ad q0)), (1, .int a1)] := hl
  replace G : Mx n D cA ad A sa p s m args meth c RX2 cX2_sees 2 (some .boolean) := G
  obtain ⟨hx, hb, -, -, hown, hg, -⟩ := id G
  unfold F_X2_sees at hF
  refine lv_aload_n hx hb dX2_sees_0 rfl (lv_at hl 0 rfl) ?_
  refine gf_X2_23 G hI h0 dX2_sees_1 ?_
  refine lv_iload_n hx hb dX2_sees_4 rfl (lv_at hl 1 rfl) ?_
  refine lv_ishr hx hb dX2_sees_5 ?_
  refine lv_iconst (v := (1 : Int32)) hx hb dX2_sees_6 (by decide) ?_
  refine lv_iand hx hb dX2_sees_7 ?_
  refine lv_iconst (v := (1 : Int32)) hx hb dX2_sees_8 (by decide) ?_
  refine lv_icmp_ne (tgt := 16) hx hb dX2_sees_9 (by decide) (fun c1 => ?_) (fun c1 => ?_)
  · replace hF := itn c1 hF
    refine lv_iconst (v := (0 : Int32)) hx hb dX2_sees_16 (by decide) ?_
    exact n_zret G hI (by decide) hF rfl dX2_sees_17
  · replace hF := itp c1 hF
    refine lv_iconst (v := (1 : Int32)) hx hb dX2_sees_12 (by decide) ?_
    refine lv_goto (tgt := 17) hx hb dX2_sees_13 (by decide) ?_
    exact n_zret G hI (by decide) hF rfl dX2_sees_17
set_option maxHeartbeats 4000000 in
theorem c_J6_bitCount_0f7a4 (hA : AdOk n ad A) {a0 : Int32} {w w' : Mem} {r : Int32} (hF : F_J6_bitCount_0f7a4 a0 w = some (r, w')) : Ctr l n sh D cA ad A sa yJ6_bitCount_0f7a4 cJ6_bitCount_0f7a4 1 (some .int) 0 0 [.int a0] w (some (.int r)) w' := by
  refine m_enter hA (by decide) (Nat.le_of_ble_eq_true rfl) ?_
  intro p e s m args below meth c ls G hI hl
  replace hl : lv_has ls 1 [(0, .int a0)] := hl
  replace G : Mx n D cA ad A sa p s m args meth c RJ6 cJ6_bitCount_0f7a4 1 (some .int) := G
  obtain ⟨hx, hb, -, -, hown, hg, -⟩ := id G
  unfold F_J6_bitCount_0f7a4 at hF
  refine lv_iload_n hx hb dJ6_bitCount_0f7a4_0 rfl (lv_at hl 0 rfl) ?_
  refine lv_iload_n hx hb dJ6_bitCount_0f7a4_1 rfl (lv_at hl 0 rfl) ?_
  refine lv_iconst (v := (1 : Int32)) hx hb dJ6_bitCount_0f7a4_2 (by decide) ?_
  refine n_ushr G dJ6_bitCount_0f7a4_3 ?_
  refine lv_ldcw hx hb hown (hg _ kc_J6_265) dJ6_bitCount_0f7a4_4 ?_
  refine lv_iand hx hb dJ6_bitCount_0f7a4_7 ?_
  refine lv_isub hx hb dJ6_bitCount_0f7a4_8 ?_
  obtain ⟨x1, ex1, hF⟩ := lt_some hF
  refine W.eq (g2 := F0 m 9 ls [.int x1]) (by rw [ex1]) ?_
  refine lv_istore_n (lv' := [(0, .int x1)]) hx hb dJ6_bitCount_0f7a4_9 rfl hl (by decide) rfl (fun ls hl => ?_)
  refine lv_iload_n hx hb dJ6_bitCount_0f7a4_10 rfl (lv_at hl 0 rfl) ?_
  refine lv_ldcw hx hb hown (hg _ kc_J6_266) dJ6_bitCount_0f7a4_11 ?_
  refine lv_iand hx hb dJ6_bitCount_0f7a4_14 ?_
  refine lv_iload_n hx hb dJ6_bitCount_0f7a4_15 rfl (lv_at hl 0 rfl) ?_
  refine lv_iconst (v := (2 : Int32)) hx hb dJ6_bitCount_0f7a4_16 (by decide) ?_
  refine n_ushr G dJ6_bitCount_0f7a4_17 ?_
  refine lv_ldcw hx hb hown (hg _ kc_J6_266) dJ6_bitCount_0f7a4_18 ?_
  refine lv_iand hx hb dJ6_bitCount_0f7a4_21 ?_
  refine lv_iadd hx hb dJ6_bitCount_0f7a4_22 ?_
  obtain ⟨x2, ex2, hF⟩ := lt_some hF
  refine W.eq (g2 := F0 m 23 ls [.int x2]) (by rw [ex2]) ?_
  refine lv_istore_n (lv' := [(0, .int x2)]) hx hb dJ6_bitCount_0f7a4_23 rfl hl (by decide) rfl (fun ls hl => ?_)
  refine lv_iload_n hx hb dJ6_bitCount_0f7a4_24 rfl (lv_at hl 0 rfl) ?_
  refine lv_iload_n hx hb dJ6_bitCount_0f7a4_25 rfl (lv_at hl 0 rfl) ?_
  refine lv_iconst (v := (4 : Int32)) hx hb dJ6_bitCount_0f7a4_26 (by decide) ?_
  refine n_ushr G dJ6_bitCount_0f7a4_27 ?_
  refine lv_iadd hx hb dJ6_bitCount_0f7a4_28 ?_
  refine lv_ldcw hx hb hown (hg _ kc_J6_267) dJ6_bitCount_0f7a4_29 ?_
  refine lv_iand hx hb dJ6_bitCount_0f7a4_32 ?_
  obtain ⟨x3, ex3, hF⟩ := lt_some hF
  refine W.eq (g2 := F0 m 33 ls [.int x3]) (by rw [ex3]) ?_
  refine lv_istore_n (lv' := [(0, .int x3)]) hx hb dJ6_bitCount_0f7a4_33 rfl hl (by decide) rfl (fun ls hl => ?_)
  refine lv_iload_n hx hb dJ6_bitCount_0f7a4_34 rfl (lv_at hl 0 rfl) ?_
  refine lv_iload_n hx hb dJ6_bitCount_0f7a4_35 rfl (lv_at hl 0 rfl) ?_
  refine lv_bipush (v := (8 : Int32)) hx hb dJ6_bitCount_0f7a4_36 (by decide) ?_
  refine n_ushr G dJ6_bitCount_0f7a4_38 ?_
  refine lv_iadd hx hb dJ6_bitCount_0f7a4_39 ?_
  obtain ⟨x4, ex4, hF⟩ := lt_some hF
  refine W.eq (g2 := F0 m 40 ls [.int x4]) (by rw [ex4]) ?_
  refine lv_istore_n (lv' := [(0, .int x4)]) hx hb dJ6_bitCount_0f7a4_40 rfl hl (by decide) rfl (fun ls hl => ?_)
  refine lv_iload_n hx hb dJ6_bitCount_0f7a4_41 rfl (lv_at hl 0 rfl) ?_
  refine lv_iload_n hx hb dJ6_bitCount_0f7a4_42 rfl (lv_at hl 0 rfl) ?_
  refine lv_bipush (v := (16 : Int32)) hx hb dJ6_bitCount_0f7a4_43 (by decide) ?_
  refine n_ushr G dJ6_bitCount_0f7a4_45 ?_
  refine lv_iadd hx hb dJ6_bitCount_0f7a4_46 ?_
  obtain ⟨x5, ex5, hF⟩ := lt_some hF
  refine W.eq (g2 := F0 m 47 ls [.int x5]) (by rw [ex5]) ?_
  refine lv_istore_n (lv' := [(0, .int x5)]) hx hb dJ6_bitCount_0f7a4_47 rfl hl (by decide) rfl (fun ls hl => ?_)
  refine lv_iload_n hx hb dJ6_bitCount_0f7a4_48 rfl (lv_at hl 0 rfl) ?_
  refine lv_bipush (v := (63 : Int32)) hx hb dJ6_bitCount_0f7a4_49 (by decide) ?_
  refine lv_iand hx hb dJ6_bitCount_0f7a4_51 ?_
  exact n_iret G hI hF rfl dJ6_bitCount_0f7a4_52
set_option maxHeartbeats 4000000 in
theorem c_X2_howManySeen (hA : AdOk n ad A) {q0 : Nat} (h0 : isX2 n sh q0) {w w' : Mem} {r : Int32} (hF : F_X2_howManySeen q0 w = some (r, w')) : Ctr l n sh D cA ad A sa yX2_howManySeen cX2_howManySeen 1 (some .int) 1 20 [.ref (ad q0)] w (some (.int r)) w' := by
  refine m_enter hA (by decide) (Nat.le_of_ble_eq_true rfl) ?_
  intro p e s m args below meth c ls G hI hl
  replace hl : lv_has ls 1 [(0, .ref (ad q0))] := hl
  replace G : Mx n D cA ad A sa p s m args meth c RX2 cX2_howManySeen 1 (some .int) := G
  obtain ⟨hx, hb, -, -, hown, hg, -⟩ := id G
  unfold F_X2_howManySeen at hF
  refine lv_aload_n hx hb dX2_howManySeen_0 rfl (lv_at hl 0 rfl) ?_
  refine gf_X2_23 G hI h0 dX2_howManySeen_1 ?_
  obtain ⟨r2, w1, z3, hF⟩ := bd_some hF
  refine n_Si (rest := []) G hI (c_J6_bitCount_0f7a4 hA  z3) my_J6_bitCount_0f7a4 kl_X2_49 ⟨Nat.le_of_ble_eq_true rfl, Nat.le_of_ble_eq_true rfl⟩ rfl hl.1 rfl (Nat.le_of_ble_eq_true rfl) dX2_howManySeen_4 (fun H locs hI => ?_)
  exact n_iret G hI hF rfl dX2_howManySeen_7
set_option maxHeartbeats 4000000 in
theorem l_X2_ticksOf_4 {p : Program} {e : Env} {s : State} {m : MethodId} {args : Array Value} {below : List Frame} {meth : Method} {c : Code} (G : Mx n D cA ad A sa p s m args meth c RX2 cX2_ticksOf 4 (some .int)) {q0 : Nat} {a1 : Int32} (h0 : isX2 n sh q0) {k : Int32 → Mem → Option (Int32 × Mem)} {r : Int32} {w' : Mem}
    (hk : ∀ (v2 : Int32) (w : Mem) (H : Heap) (locs : List Loc) (ls : Array Slot), k v2 w = some (r, w') → Iv n sh D cA ad A s.heap w H locs → lv_has ls 4 [(2, .int v2)] → W p l e ({ frames := 2, cells := 0, slots := 0, locals := 45 } : Room) s m args below meth c H locs 0 0 (QM n sh D cA ad A below args s (some (.int r)) w') (F0 m 48 ls [])) :
    ∀ (N : Nat) (v2 : Int32) (v3 : Int32) (w : Mem) (H : Heap) (locs : List Loc) (ls : Array Slot), L_X2_ticksOf_4 q0 a1 k N v2 v3 w = some (r, w') → Iv n sh D cA ad A s.heap w H locs → lv_has ls 4 [(0, .ref (ad q0)), (1, .int a1), (2, .int v2), (3, .int v3)] → W p l e ({ frames := 2, cells := 0, slots := 0, locals := 45 } : Room) s m args below meth c H locs 0 0 (QM n sh D cA ad A below args s (some (.int r)) w') (F0 m 4 ls []) := by
  obtain ⟨hx, hb, -, -, hown, hg, -, -, -, -, hA⟩ := id G
  intro N
  induction N with
  | zero =>
    intro v2 v3 w H locs ls hF hI hl
    cases hF
  | succ N ih =>
    intro v2 v3 w H locs ls hF hI hl
    rw [L_X2_ticksOf_4] at hF
    refine lv_iload_n hx hb dX2_ticksOf_4 rfl (lv_at hl 3 rfl) ?_
    refine lv_aload_n hx hb dX2_ticksOf_5 rfl (lv_at hl 0 rfl) ?_
    refine gf_X2_14 G hI h0 dX2_ticksOf_6 ?_
    refine gf_X2_55 G hI (isX2.rows h0) dX2_ticksOf_9 ?_
    refine lv_icmp_ge (tgt := 48) hx hb dX2_ticksOf_12 (by decide) (fun c8 => ?_) (fun c8 => ?_)
    · replace hF := itp c8 hF
      exact hk _ _ _ _ _ hF hI (lv_sub hl [2] rfl)
    · replace hF := itn c8 hF
      refine lv_aload_n hx hb dX2_ticksOf_15 rfl (lv_at hl 0 rfl) ?_
      refine gf_X2_14 G hI h0 dX2_ticksOf_16 ?_
      refine lv_iconst (v := (-1 : Int32)) hx hb dX2_ticksOf_19 (by decide) ?_
      refine lv_iload_n hx hb dX2_ticksOf_20 rfl (lv_at hl 3 rfl) ?_
      refine lv_iconst (v := (2 : Int32)) hx hb dX2_ticksOf_21 (by decide) ?_
      obtain ⟨r2, w1, z3, hF⟩ := bd_some hF
      refine n_Vi (rest := []) G hI (c_X4_cellOr hA (isX2.rows h0) z3) my_X4_cellOr kl_X2_58 (isX4.lt (isX2.rows h0)) (isX4.sh (isX2.rows h0)) rfl ⟨Nat.le_of_ble_eq_true rfl, Nat.le_of_ble_eq_true rfl⟩ rfl hl.1 rfl (Nat.le_of_ble_eq_true rfl) dX2_ticksOf_22 (fun H locs hI => ?_)
      refine lv_iload_n hx hb dX2_ticksOf_25 rfl (lv_at hl 1 rfl) ?_
      refine lv_icmp_ne (tgt := 42) hx hb dX2_ticksOf_26 (by decide) (fun c7 => ?_) (fun c7 => ?_)
      · replace hF := itn c7 hF
        refine lv_iinc (v := (v3 + (1 : Int32))) (lv' := [(3, .int (v3 + (1 : Int32))), (0, .ref (ad q0)), (1, .int a1), (2, .int v2)]) hx hb dX2_ticksOf_42 hl (k := 3) rfl rfl (by decide) rfl (fun ls hl => ?_)
        refine lv_goto (tgt := 4) hx hb dX2_ticksOf_45 (by decide) ?_
        exact ih _ _ _ _ _ _ hF hI (lv_sub hl [1, 2, 3, 0] rfl)
      · replace hF := itp c7 hF
        refine lv_iload_n hx hb dX2_ticksOf_29 rfl (lv_at hl 2 rfl) ?_
        refine lv_aload_n hx hb dX2_ticksOf_30 rfl (lv_at hl 0 rfl) ?_
        refine gf_X2_14 G hI h0 dX2_ticksOf_31 ?_
        refine lv_iconst (v := (0 : Int32)) hx hb dX2_ticksOf_34 (by decide) ?_
        refine lv_iload_n hx hb dX2_ticksOf_35 rfl (lv_at hl 3 rfl) ?_
        refine lv_iconst (v := (1 : Int32)) hx hb dX2_ticksOf_36 (by decide) ?_
        obtain ⟨r5, w4, z6, hF⟩ := bd_some hF
        refine n_Vi (rest := [.int v2]) G hI (c_X4_cellOr hA (isX2.rows h0) z6) my_X4_cellOr kl_X2_58 (isX4.lt (isX2.rows h0)) (isX4.sh (isX2.rows h0)) rfl ⟨Nat.le_of_ble_eq_true rfl, Nat.le_of_ble_eq_true rfl⟩ rfl hl.1 rfl (Nat.le_of_ble_eq_true rfl) dX2_ticksOf_37 (fun H locs hI => ?_)
        refine lv_iadd hx hb dX2_ticksOf_40 ?_
        refine lv_istore_n (lv' := [(2, .int (v2 + r5)), (0, .ref (ad q0)), (1, .int a1), (3, .int v3)]) hx hb dX2_ticksOf_41 rfl hl (by decide) rfl (fun ls hl => ?_)
        refine lv_iinc (v := (v3 + (1 : Int32))) (lv' := [(3, .int (v3 + (1 : Int32))), (2, .int (v2 + r5)), (0, .ref (ad q0)), (1, .int a1)]) hx hb dX2_ticksOf_42 hl (k := 3) rfl rfl (by decide) rfl (fun ls hl => ?_)
        refine lv_goto (tgt := 4) hx hb dX2_ticksOf_45 (by decide) ?_
        exact ih _ _ _ _ _ _ hF hI (lv_sub hl [2, 3, 1, 0] rfl)
set_option maxHeartbeats 4000000 in
theorem c_X2_ticksOf (hA : AdOk n ad A) {q0 : Nat} (h0 : isX2 n sh q0) {a1 : Int32} {w w' : Mem} {r : Int32} (hF : F_X2_ticksOf q0 a1 w = some (r, w')) : Ctr l n sh D cA ad A sa yX2_ticksOf cX2_ticksOf 4 (some .int) 2 45 [.ref (ad q0), .int a1] w (some (.int r)) w' := by
  refine m_enter hA (by decide) (Nat.le_of_ble_eq_true rfl) ?_
  intro p e s m args below meth c ls G hI hl
  replace hl : lv_has ls 4 [(0, .ref (ad q0)), (1, .int a1)] := hl
  replace G : Mx n D cA ad A sa p s m args meth c RX2 cX2_ticksOf 4 (some .int) := G
  obtain ⟨hx, hb, -, -, hown, hg, -⟩ := id G
  unfold F_X2_ticksOf at hF
  refine lv_iconst (v := (0 : Int32)) hx hb dX2_ticksOf_0 (by decide) ?_
  refine lv_istore_n (lv' := [(2, .int (0 : Int32)), (0, .ref (ad q0)), (1, .int a1)]) hx hb dX2_ticksOf_1 rfl hl (by decide) rfl (fun ls hl => ?_)
  refine lv_iconst (v := (0 : Int32)) hx hb dX2_ticksOf_2 (by decide) ?_
  refine lv_istore_n (lv' := [(3, .int (0 : Int32)), (2, .int (0 : Int32)), (0, .ref (ad q0)), (1, .int a1)]) hx hb dX2_ticksOf_3 rfl hl (by decide) rfl (fun ls hl => ?_)
  refine l_X2_ticksOf_4 G h0 (fun x10 w9 H locs ls hF hI hl => ?_) _ _ _ _ _ _ _ hF hI (lv_sub hl [2, 3, 1, 0] rfl)
  refine lv_iload_n hx hb dX2_ticksOf_48 rfl (lv_at hl 0 rfl) ?_
  exact n_iret G hI hF rfl dX2_ticksOf_49
set_option maxHeartbeats 4000000 in
theorem c_X3_mayMove (hA : AdOk n ad A) {q0 : Nat} (h0 : isX1 n sh q0) {a1 : Int32} {a2 : Int32} {w w' : Mem} {r : Int32} (hF : F_X3_mayMove q0 a1 a2 w = some (r, w')) : Ctr l n sh D cA ad A sa yX3_mayMove cX3_mayMove 4 (some .boolean) 0 0 [.ref (ad q0), .int a1, .int a2] w (some (.int r)) w' := by
  refine m_enter hA (by decide) (Nat.le_of_ble_eq_true rfl) ?_
  intro p e s m args below meth c ls G hI hl
  replace hl : lv_has ls 4 [(0, .ref (ad q0)), (1, .int a1), (2, .int a2)] := hl
  replace G : Mx n D cA ad A sa p s m args meth c RX3 cX3_mayMove 4 (some .boolean) := G
  obtain ⟨hx, hb, -, -, hown, hg, -⟩ := id G
  unfold F_X3_mayMove at hF
  refine lv_aload_n hx hb dX3_mayMove_0 rfl (lv_at hl 0 rfl) ?_
  refine gf_X3_65 G hI h0 dX3_mayMove_1 ?_
  refine lv_iload_n hx hb dX3_mayMove_4 rfl (lv_at hl 1 rfl) ?_
  obtain ⟨g1, hF⟩ := gd_some hF
  refine n_ald G hI (isX1.high h0) g1 dX3_mayMove_5 ?_
  refine lv_if_ne (tgt := 19) hx hb dX3_mayMove_6 (by decide) (fun c8 => ?_) (fun c8 => ?_)
  · replace hF := itn c8 hF
    refine lv_aload_n hx hb dX3_mayMove_19 rfl (lv_at hl 0 rfl) ?_
    refine gf_X3_57 G hI h0 dX3_mayMove_20 ?_
    refine lv_iload_n hx hb dX3_mayMove_23 rfl (lv_at hl 1 rfl) ?_
    obtain ⟨g2, hF⟩ := gd_some hF
    refine n_ald G hI (isX1.start h0) g2 dX3_mayMove_24 ?_
    refine lv_iload_n hx hb dX3_mayMove_25 rfl (lv_at hl 2 rfl) ?_
    refine lv_iadd hx hb dX3_mayMove_26 ?_
    obtain ⟨x3, ex3, hF⟩ := lt_some hF
    refine W.eq (g2 := F0 m 27 ls [.int x3]) (by rw [ex3]) ?_
    refine lv_istore_n (lv' := [(3, .int x3), (0, .ref (ad q0)), (1, .int a1), (2, .int a2)]) hx hb dX3_mayMove_27 rfl hl (by decide) rfl (fun ls hl => ?_)
    refine lv_iload_n hx hb dX3_mayMove_28 rfl (lv_at hl 0 rfl) ?_
    refine lv_if_lt (tgt := 51) hx hb dX3_mayMove_29 (by decide) (fun c6 => ?_) (fun c6 => ?_)
    · replace hF := itp c6 hF
      refine lv_iconst (v := (0 : Int32)) hx hb dX3_mayMove_51 (by decide) ?_
      exact n_zret G hI (by decide) hF rfl dX3_mayMove_52
    · replace hF := itn c6 hF
      refine lv_iload_n hx hb dX3_mayMove_32 rfl (lv_at hl 0 rfl) ?_
      refine lv_aload_n hx hb dX3_mayMove_33 rfl (lv_at hl 1 rfl) ?_
      refine gf_X3_65 G hI h0 dX3_mayMove_34 ?_
      refine lv_iload_n hx hb dX3_mayMove_37 rfl (lv_at hl 2 rfl) ?_
      obtain ⟨g4, hF⟩ := gd_some hF
      refine n_ald G hI (isX1.high h0) g4 dX3_mayMove_38 ?_
      refine lv_iadd hx hb dX3_mayMove_39 ?_
      refine lv_aload_n hx hb dX3_mayMove_40 rfl (lv_at hl 1 rfl) ?_
      refine gf_X3_62 G hI h0 dX3_mayMove_41 ?_
      refine lv_icmp_gt (tgt := 51) hx hb dX3_mayMove_44 (by decide) (fun c5 => ?_) (fun c5 => ?_)
      · replace hF := itp c5 hF
        refine lv_iconst (v := (0 : Int32)) hx hb dX3_mayMove_51 (by decide) ?_
        exact n_zret G hI (by decide) hF rfl dX3_mayMove_52
      · replace hF := itn c5 hF
        refine lv_iconst (v := (1 : Int32)) hx hb dX3_mayMove_47 (by decide) ?_
        refine lv_goto (tgt := 52) hx hb dX3_mayMove_48 (by decide) ?_
        exact n_zret G hI (by decide) hF rfl dX3_mayMove_52
  · replace hF := itp c8 hF
    refine lv_iload_n hx hb dX3_mayMove_9 rfl (lv_at hl 2 rfl) ?_
    refine lv_if_ne (tgt := 17) hx hb dX3_mayMove_10 (by decide) (fun c7 => ?_) (fun c7 => ?_)
    · replace hF := itn c7 hF
      refine lv_iconst (v := (0 : Int32)) hx hb dX3_mayMove_17 (by decide) ?_
      exact n_zret G hI (by decide) hF rfl dX3_mayMove_18
    · replace hF := itp c7 hF
      refine lv_iconst (v := (1 : Int32)) hx hb dX3_mayMove_13 (by decide) ?_
      refine lv_goto (tgt := 18) hx hb dX3_mayMove_14 (by decide) ?_
      exact n_zret G hI (by decide) hF rfl dX3_mayMove_18
set_option maxHeartbeats 4000000 in
theorem l_X3_tryOne_24 {p : Program} {e : Env} {s : State} {m : MethodId} {args : Array Value} {below : List Frame} {meth : Method} {c : Code} (G : Mx n D cA ad A sa p s m args meth c RX3 cX3_tryOne 7 none) {q4 : Nat} {a5 : Int32} (h0 : isX3 n sh 32) (h4 : isX1 n sh q4) {k : Mem → Option (Unit × Mem)} {r : Unit} {w' : Mem}
    (hk : ∀  (w : Mem) (H : Heap) (locs : List Loc) (ls : Array Slot), k  w = some (r, w') → Iv n sh D cA ad A s.heap w H locs → lv_has ls 7 [(0, .ref (ad 32)), (4, .ref (ad q4)), (5, .int a5)] → W p l e ({ frames := 4, cells := 0, slots := 0, locals := 93 } : Room) s m args below meth c H locs 0 0 (QM n sh D cA ad A below args s none w') (F0 m 77 ls [])) :
    ∀ (N : Nat) (v6 : Int32) (w : Mem) (H : Heap) (locs : List Loc) (ls : Array Slot), L_X3_tryOne_24 q4 a5 k N v6 w = some (r, w') → Iv n sh D cA ad A s.heap w H locs → lv_has ls 7 [(0, .ref (ad 32)), (4, .ref (ad q4)), (5, .int a5), (6, .int v6)] → W p l e ({ frames := 4, cells := 0, slots := 0, locals := 93 } : Room) s m args below meth c H locs 0 0 (QM n sh D cA ad A below args s none w') (F0 m 24 ls []) := by
  obtain ⟨hx, hb, -, -, hown, hg, -, -, -, -, hA⟩ := id G
  intro N
  induction N with
  | zero =>
    intro v6 w H locs ls hF hI hl
    cases hF
  | succ N ih =>
    intro v6 w H locs ls hF hI hl
    rw [L_X3_tryOne_24] at hF
    refine lv_iload hx hb dX3_tryOne_24 (lv_at hl 3 rfl) ?_
    refine lv_iconst (v := (3 : Int32)) hx hb dX3_tryOne_26 (by decide) ?_
    refine lv_icmp_ge (tgt := 77) hx hb dX3_tryOne_27 (by decide) (fun c13 => ?_) (fun c13 => ?_)
    · replace hF := itp c13 hF
      exact hk _ _ _ _ hF hI (lv_sub hl [0, 1, 2] rfl)
    · replace hF := itn c13 hF
      refine lv_aload hx hb dX3_tryOne_30 (lv_at hl 1 rfl) ?_
      refine lv_iload hx hb dX3_tryOne_32 (lv_at hl 3 rfl) ?_
      refine lv_aload_n hx hb dX3_tryOne_34 rfl (lv_at hl 0 rfl) ?_
      refine gf_X3_18 G hI h0 dX3_tryOne_35 ?_
      refine lv_iload hx hb dX3_tryOne_38 (lv_at hl 3 rfl) ?_
      obtain ⟨g4, hF⟩ := gd_some hF
      refine n_ald G hI (isX3.tried h0) g4 dX3_tryOne_40 ?_
      obtain ⟨r6, w5, z7, hF⟩ := bd_some hF
      refine n_Si (rest := []) G hI (c_X3_mayMove hA h4 z7) my_X3_mayMove kl_X3_53 ⟨Nat.le_of_ble_eq_true rfl, Nat.le_of_ble_eq_true rfl⟩ rfl hl.1 rfl (Nat.le_of_ble_eq_true rfl) dX3_tryOne_41 (fun H locs hI => ?_)
      refine lv_if_ne (tgt := 48) hx hb dX3_tryOne_44 (by decide) (fun c12 => ?_) (fun c12 => ?_)
      · replace hF := itn c12 hF
        refine lv_aload_n hx hb dX3_tryOne_48 rfl (lv_at hl 0 rfl) ?_
        refine gf_X3_22 G hI h0 dX3_tryOne_49 ?_
        refine lv_iload hx hb dX3_tryOne_52 (lv_at hl 3 rfl) ?_
        refine lv_aload hx hb dX3_tryOne_54 (lv_at hl 1 rfl) ?_
        refine gf_X3_57 G hI h4 dX3_tryOne_56 ?_
        refine lv_iload hx hb dX3_tryOne_59 (lv_at hl 3 rfl) ?_
        obtain ⟨g8, hF⟩ := gd_some hF
        refine n_ald G hI (isX1.start h4) g8 dX3_tryOne_61 ?_
        refine lv_aload_n hx hb dX3_tryOne_62 rfl (lv_at hl 0 rfl) ?_
        refine gf_X3_18 G hI h0 dX3_tryOne_63 ?_
        refine lv_iload hx hb dX3_tryOne_66 (lv_at hl 3 rfl) ?_
        obtain ⟨g9, hF⟩ := gd_some hF
        refine n_ald G hI (isX3.tried h0) g9 dX3_tryOne_68 ?_
        refine lv_iadd hx hb dX3_tryOne_69 ?_
        obtain ⟨g10, hF⟩ := gd_some hF
        obtain ⟨w11, ew11, hF⟩ := lt_some hF
        refine n_ast G hI (isX3.shifted h0) g10 dX3_tryOne_70 (fun H locs hI => ?_)
        replace hI : Iv n sh D cA ad A s.heap w11 H locs := by rw [ew11]; exact hI
        refine lv_iinc (v := (v6 + (1 : Int32))) (lv' := [(6, .int (v6 + (1 : Int32))), (0, .ref (ad 32)), (4, .ref (ad q4)), (5, .int a5)]) hx hb dX3_tryOne_71 hl (k := 3) rfl rfl (by decide) rfl (fun ls hl => ?_)
        refine lv_goto (tgt := 24) hx hb dX3_tryOne_74 (by decide) ?_
        exact ih _ _ _ _ _ hF hI (lv_sub hl [1, 2, 3, 0] rfl)
      · replace hF := itp c12 hF
        exact n_vret G hI hF rfl dX3_tryOne_47
set_option maxHeartbeats 4000000 in
theorem c_X3_tryOne (hA : AdOk n ad A) (h0 : isX3 n sh 32) {a1 : Int32} {a2 : Int32} {a3 : Int32} {q4 : Nat} (h4 : isX1 n sh q4) {a5 : Int32} {w w' : Mem} {r : Unit} (hF : F_X3_tryOne a1 a2 a3 q4 a5 w = some (r, w')) : Ctr l n sh D cA ad A sa yX3_tryOne cX3_tryOne 7 none 4 93 [.ref (ad 32), .int a1, .int a2, .int a3, .ref (ad q4), .int a5] w none w' := by
  refine m_enter hA (by decide) (Nat.le_of_ble_eq_true rfl) ?_
  intro p e s m args below meth c ls G hI hl
  replace hl : lv_has ls 7 [(0, .ref (ad 32)), (1, .int a1), (2, .int a2), (3, .int a3), (4, .ref (ad q4)), (5, .int a5)] := hl
  replace G : Mx n D cA ad A sa p s m args meth c RX3 cX3_tryOne 7 none := G
  obtain ⟨hx, hb, -, -, hown, hg, -⟩ := id G
  unfold F_X3_tryOne at hF
  refine lv_aload_n hx hb dX3_tryOne_0 rfl (lv_at hl 0 rfl) ?_
  refine gf_X3_18 G hI h0 dX3_tryOne_1 ?_
  refine lv_iconst (v := (0 : Int32)) hx hb dX3_tryOne_4 (by decide) ?_
  refine lv_iload_n hx hb dX3_tryOne_5 rfl (lv_at hl 1 rfl) ?_
  obtain ⟨w1, ew1, hF⟩ := lt_some hF
  refine n_ast G hI (isX3.tried h0) (by decide) dX3_tryOne_6 (fun H locs hI => ?_)
  replace hI : Iv n sh D cA ad A s.heap w1 H locs := by rw [ew1]; exact hI
  refine lv_aload_n hx hb dX3_tryOne_7 rfl (lv_at hl 0 rfl) ?_
  refine gf_X3_18 G hI h0 dX3_tryOne_8 ?_
  refine lv_iconst (v := (1 : Int32)) hx hb dX3_tryOne_11 (by decide) ?_
  refine lv_iload_n hx hb dX3_tryOne_12 rfl (lv_at hl 2 rfl) ?_
  obtain ⟨w2, ew2, hF⟩ := lt_some hF
  refine n_ast G hI (isX3.tried h0) (by decide) dX3_tryOne_13 (fun H locs hI => ?_)
  replace hI : Iv n sh D cA ad A s.heap w2 H locs := by rw [ew2]; exact hI
  refine lv_aload_n hx hb dX3_tryOne_14 rfl (lv_at hl 0 rfl) ?_
  refine gf_X3_18 G hI h0 dX3_tryOne_15 ?_
  refine lv_iconst (v := (2 : Int32)) hx hb dX3_tryOne_18 (by decide) ?_
  refine lv_iload_n hx hb dX3_tryOne_19 rfl (lv_at hl 3 rfl) ?_
  obtain ⟨w3, ew3, hF⟩ := lt_some hF
  refine n_ast G hI (isX3.tried h0) (by decide) dX3_tryOne_20 (fun H locs hI => ?_)
  replace hI : Iv n sh D cA ad A s.heap w3 H locs := by rw [ew3]; exact hI
  refine lv_iconst (v := (0 : Int32)) hx hb dX3_tryOne_21 (by decide) ?_
  refine lv_istore (lv' := [(6, .int (0 : Int32)), (0, .ref (ad 32)), (1, .int a1), (2, .int a2), (3, .int a3), (4, .ref (ad q4)), (5, .int a5)]) hx hb dX3_tryOne_22 hl (by decide) rfl (fun ls hl => ?_)
  refine l_X3_tryOne_24 G h0 h4 (fun w14 H locs ls hF hI hl => ?_) _ _ _ _ _ _ hF hI (lv_sub hl [1, 5, 6, 0] rfl)
  refine lv_aload_n hx hb dX3_tryOne_77 rfl (lv_at hl 0 rfl) ?_
  refine gf_X3_12 G hI h0 dX3_tryOne_78 ?_
  refine lv_aload hx hb dX3_tryOne_81 (lv_at hl 1 rfl) ?_
  refine gf_X3_62 G hI h4 dX3_tryOne_83 ?_
  refine lv_iload hx hb dX3_tryOne_86 (lv_at hl 2 rfl) ?_
  refine lv_aload_n hx hb dX3_tryOne_88 rfl (lv_at hl 0 rfl) ?_
  refine gf_X3_22 G hI h0 dX3_tryOne_89 ?_
  refine lv_aload hx hb dX3_tryOne_92 (lv_at hl 1 rfl) ?_
  refine gf_X3_65 G hI h4 dX3_tryOne_94 ?_
  obtain ⟨r16, w15, z17, hF⟩ := bd_some hF
  refine n_Vv (rest := []) G hI (c_X2_find hA (isX3.runs h0) (isX3.shifted h0) (isX1.high h4) z17) my_X2_find kl_X3_68 (isX2.lt (isX3.runs h0)) (isX2.sh (isX3.runs h0)) rfl ⟨Nat.le_of_ble_eq_true rfl, Nat.le_of_ble_eq_true rfl⟩ rfl hl.1 rfl (Nat.le_of_ble_eq_true rfl) dX3_tryOne_97 (fun H locs hI => ?_)
  refine lv_aload_n hx hb dX3_tryOne_100 rfl (lv_at hl 0 rfl) ?_
  refine gf_X3_12 G hI h0 dX3_tryOne_101 ?_
  obtain ⟨r19, w18, z20, hF⟩ := bd_some hF
  refine n_Vi (rest := []) G hI (c_X2_howManySeen hA (isX3.runs h0) z20) my_X2_howManySeen kl_X3_72 (isX2.lt (isX3.runs h0)) (isX2.sh (isX3.runs h0)) rfl ⟨Nat.le_of_ble_eq_true rfl, Nat.le_of_ble_eq_true rfl⟩ rfl hl.1 rfl (Nat.le_of_ble_eq_true rfl) dX3_tryOne_104 (fun H locs hI => ?_)
  refine lv_iconst (v := (2 : Int32)) hx hb dX3_tryOne_107 (by decide) ?_
  refine lv_icmp_ge (tgt := 112) hx hb dX3_tryOne_108 (by decide) (fun c25 => ?_) (fun c25 => ?_)
  · replace hF := itp c25 hF
    refine lv_aload_n hx hb dX3_tryOne_112 rfl (lv_at hl 0 rfl) ?_
    refine gf_X3_28 G hI h0 dX3_tryOne_113 ?_
    refine lv_if_ne (tgt := 133) hx hb dX3_tryOne_116 (by decide) (fun c24 => ?_) (fun c24 => ?_)
    · replace hF := itn c24 hF
      refine lv_aload_n hx hb dX3_tryOne_133 rfl (lv_at hl 0 rfl) ?_
      refine lv_dup hx hb dX3_tryOne_134 rfl ?_
      refine gf_X3_28 G hI h0 dX3_tryOne_135 ?_
      refine lv_iconst (v := (1 : Int32)) hx hb dX3_tryOne_138 (by decide) ?_
      refine lv_iadd hx hb dX3_tryOne_139 ?_
      obtain ⟨w21, ew21, hF⟩ := lt_some hF
      refine pf_X3_28 G hI h0 dX3_tryOne_140 (fun H locs hI => ?_)
      replace hI : Iv n sh D cA ad A s.heap w21 H locs := by rw [ew21]; exact hI
      exact n_vret G hI hF rfl dX3_tryOne_143
    · replace hF := itp c24 hF
      refine lv_aload_n hx hb dX3_tryOne_119 rfl (lv_at hl 0 rfl) ?_
      refine gf_X3_18 G hI h0 dX3_tryOne_120 ?_
      refine lv_iconst (v := (0 : Int32)) hx hb dX3_tryOne_123 (by decide) ?_
      refine lv_aload_n hx hb dX3_tryOne_124 rfl (lv_at hl 0 rfl) ?_
      refine gf_X3_25 G hI h0 dX3_tryOne_125 ?_
      refine lv_iconst (v := (0 : Int32)) hx hb dX3_tryOne_128 (by decide) ?_
      refine lv_iconst (v := (3 : Int32)) hx hb dX3_tryOne_129 (by decide) ?_
      obtain ⟨w22, ew22, hF⟩ := lt_some hF
      refine n_copy G hI (isX3.tried h0) (isX3.best h0) kl_X3_76 (by decide) (Nat.le_of_ble_eq_true rfl) (Nat.le_of_ble_eq_true rfl) hl.1 dX3_tryOne_130 (fun H locs hI => ?_)
      replace hI : Iv n sh D cA ad A s.heap w22 H locs := by rw [ew22]; exact hI
      refine lv_aload_n hx hb dX3_tryOne_133 rfl (lv_at hl 0 rfl) ?_
      refine lv_dup hx hb dX3_tryOne_134 rfl ?_
      refine gf_X3_28 G hI h0 dX3_tryOne_135 ?_
      refine lv_iconst (v := (1 : Int32)) hx hb dX3_tryOne_138 (by decide) ?_
      refine lv_iadd hx hb dX3_tryOne_139 ?_
      obtain ⟨w23, ew23, hF⟩ := lt_some hF
      refine pf_X3_28 G hI h0 dX3_tryOne_140 (fun H locs hI => ?_)
      replace hI : Iv n sh D cA ad A s.heap w23 H locs := by rw [ew23]; exact hI
      exact n_vret G hI hF rfl dX3_tryOne_143
  · replace hF := itn c25 hF
    exact n_vret G hI hF rfl dX3_tryOne_111
set_option maxHeartbeats 4000000 in
theorem l_X3_searchAllOf_15 {p : Program} {e : Env} {s : State} {m : MethodId} {args : Array Value} {below : List Frame} {meth : Method} {c : Code} (G : Mx n D cA ad A sa p s m args meth c RX3 cX3_searchAllOf 7 none) {a1 : Int32} {q2 : Nat} {a3 : Int32} {a4 : Int32} (h0 : isX3 n sh 32) (h2 : isX1 n sh q2) {k : Mem → Option (Unit × Mem)} {r : Unit} {w' : Mem}
    (hk : ∀  (w : Mem) (H : Heap) (locs : List Loc) (ls : Array Slot), k  w = some (r, w') → Iv n sh D cA ad A s.heap w H locs → lv_has ls 7 [(0, .ref (ad 32)), (1, .int a1), (2, .ref (ad q2)), (3, .int a3), (4, .int a4)] → W p l e ({ frames := 5, cells := 0, slots := 0, locals := 119 } : Room) s m args below meth c H locs 0 0 (QM n sh D cA ad A below args s none w') (F0 m 87 ls [])) :
    ∀ (N : Nat) (v5 : Int32) (w : Mem) (H : Heap) (locs : List Loc) (ls : Array Slot), L_X3_searchAllOf_15 a1 q2 a3 a4 k N v5 w = some (r, w') → Iv n sh D cA ad A s.heap w H locs → lv_has ls 7 [(0, .ref (ad 32)), (1, .int a1), (2, .ref (ad q2)), (3, .int a3), (4, .int a4), (5, .int v5)] → W p l e ({ frames := 5, cells := 0, slots := 0, locals := 119 } : Room) s m args below meth c H locs 0 0 (QM n sh D cA ad A below args s none w') (F0 m 15 ls []) := by
  obtain ⟨hx, hb, -, -, hown, hg, -, -, -, -, hA⟩ := id G
  intro N
  induction N with
  | zero =>
    intro v5 w H locs ls hF hI hl
    cases hF
  | succ N ih =>
    intro v5 w H locs ls hF hI hl
    rw [L_X3_searchAllOf_15] at hF
    refine lv_iload hx hb dX3_searchAllOf_15 (lv_at hl 5 rfl) ?_
    refine lv_bipush (v := (6 : Int32)) hx hb dX3_searchAllOf_17 (by decide) ?_
    refine lv_icmp_gt (tgt := 87) hx hb dX3_searchAllOf_19 (by decide) (fun c13 => ?_) (fun c13 => ?_)
    · replace hF := itp c13 hF
      exact hk _ _ _ _ hF hI (lv_sub hl [0, 1, 2, 3, 4] rfl)
    · replace hF := itn c13 hF
      refine lv_iload_n hx hb dX3_searchAllOf_22 rfl (lv_at hl 1 rfl) ?_
      refine lv_iload hx hb dX3_searchAllOf_23 (lv_at hl 4 rfl) ?_
      refine n_abs G kl_X3_39 (Nat.le_of_ble_eq_true rfl) (Nat.le_of_ble_eq_true rfl) hl.1 dX3_searchAllOf_25 ?_
      refine lv_isub hx hb dX3_searchAllOf_28 ?_
      refine lv_iload hx hb dX3_searchAllOf_29 (lv_at hl 5 rfl) ?_
      refine n_abs G kl_X3_39 (Nat.le_of_ble_eq_true rfl) (Nat.le_of_ble_eq_true rfl) hl.1 dX3_searchAllOf_31 ?_
      refine lv_isub hx hb dX3_searchAllOf_34 ?_
      obtain ⟨x1, ex1, hF⟩ := lt_some hF
      refine W.eq (g2 := F0 m 35 ls [.int x1]) (by rw [ex1]) ?_
      refine lv_istore (lv' := [(6, .int x1), (0, .ref (ad 32)), (1, .int a1), (2, .ref (ad q2)), (3, .int a3), (4, .int a4), (5, .int v5)]) hx hb dX3_searchAllOf_35 hl (by decide) rfl (fun ls hl => ?_)
      refine lv_iload hx hb dX3_searchAllOf_37 (lv_at hl 0 rfl) ?_
      refine lv_iconst (v := (0 : Int32)) hx hb dX3_searchAllOf_39 (by decide) ?_
      refine lv_bipush (v := (6 : Int32)) hx hb dX3_searchAllOf_40 (by decide) ?_
      obtain ⟨r3, w2, z4, hF⟩ := bd_some hF
      refine n_SNi (rest := []) (host := "DriveTicks") G hI (c_X6_within hA  z4) my_X6_within (by decide) ⟨Nat.le_of_ble_eq_true rfl, Nat.le_of_ble_eq_true rfl⟩ rfl hl.1 rfl (Nat.le_of_ble_eq_true rfl) dX3_searchAllOf_42 (fun H locs hI => ?_)
      refine lv_if_ne (tgt := 51) hx hb dX3_searchAllOf_45 (by decide) (fun c12 => ?_) (fun c12 => ?_)
      · replace hF := itn c12 hF
        refine lv_aload_n hx hb dX3_searchAllOf_51 rfl (lv_at hl 1 rfl) ?_
        refine lv_iload hx hb dX3_searchAllOf_52 (lv_at hl 5 rfl) ?_
        refine lv_iload hx hb dX3_searchAllOf_54 (lv_at hl 6 rfl) ?_
        refine lv_iload hx hb dX3_searchAllOf_56 (lv_at hl 0 rfl) ?_
        refine lv_ineg hx hb dX3_searchAllOf_58 ?_
        refine lv_aload_n hx hb dX3_searchAllOf_59 rfl (lv_at hl 3 rfl) ?_
        refine lv_iload_n hx hb dX3_searchAllOf_60 rfl (lv_at hl 4 rfl) ?_
        obtain ⟨r6, w5, z7, hF⟩ := bd_some hF
        refine n_Vv (rest := []) G hI (c_X3_tryOne hA h0 h2 z7) my_X3_tryOne kl_X3_49 (isX3.lt h0) (isX3.sh h0) rfl ⟨Nat.le_of_ble_eq_true rfl, Nat.le_of_ble_eq_true rfl⟩ rfl hl.1 rfl (Nat.le_of_ble_eq_true rfl) dX3_searchAllOf_61 (fun H locs hI => ?_)
        refine lv_iload hx hb dX3_searchAllOf_64 (lv_at hl 0 rfl) ?_
        refine lv_if_le (tgt := 81) hx hb dX3_searchAllOf_66 (by decide) (fun c11 => ?_) (fun c11 => ?_)
        · replace hF := itp c11 hF
          refine lv_iinc (v := (v5 + (1 : Int32))) (lv' := [(5, .int (v5 + (1 : Int32))), (6, .int x1), (0, .ref (ad 32)), (1, .int a1), (2, .ref (ad q2)), (3, .int a3), (4, .int a4)]) hx hb dX3_searchAllOf_81 hl (k := 6) rfl rfl (by decide) rfl (fun ls hl => ?_)
          refine lv_goto (tgt := 15) hx hb dX3_searchAllOf_84 (by decide) ?_
          exact ih _ _ _ _ _ hF hI (lv_sub hl [2, 3, 4, 5, 6, 0] rfl)
        · replace hF := itn c11 hF
          refine lv_aload_n hx hb dX3_searchAllOf_69 rfl (lv_at hl 1 rfl) ?_
          refine lv_iload hx hb dX3_searchAllOf_70 (lv_at hl 5 rfl) ?_
          refine lv_iload hx hb dX3_searchAllOf_72 (lv_at hl 6 rfl) ?_
          refine lv_iload hx hb dX3_searchAllOf_74 (lv_at hl 0 rfl) ?_
          refine lv_aload_n hx hb dX3_searchAllOf_76 rfl (lv_at hl 3 rfl) ?_
          refine lv_iload_n hx hb dX3_searchAllOf_77 rfl (lv_at hl 4 rfl) ?_
          obtain ⟨r9, w8, z10, hF⟩ := bd_some hF
          refine n_Vv (rest := []) G hI (c_X3_tryOne hA h0 h2 z10) my_X3_tryOne kl_X3_49 (isX3.lt h0) (isX3.sh h0) rfl ⟨Nat.le_of_ble_eq_true rfl, Nat.le_of_ble_eq_true rfl⟩ rfl hl.1 rfl (Nat.le_of_ble_eq_true rfl) dX3_searchAllOf_78 (fun H locs hI => ?_)
          refine lv_iinc (v := (v5 + (1 : Int32))) (lv' := [(5, .int (v5 + (1 : Int32))), (6, .int x1), (0, .ref (ad 32)), (1, .int a1), (2, .ref (ad q2)), (3, .int a3), (4, .int a4)]) hx hb dX3_searchAllOf_81 hl (k := 6) rfl rfl (by decide) rfl (fun ls hl => ?_)
          refine lv_goto (tgt := 15) hx hb dX3_searchAllOf_84 (by decide) ?_
          exact ih _ _ _ _ _ hF hI (lv_sub hl [2, 3, 4, 5, 6, 0] rfl)
      · replace hF := itp c12 hF
        refine lv_goto (tgt := 81) hx hb dX3_searchAllOf_48 (by decide) ?_
        refine lv_iinc (v := (v5 + (1 : Int32))) (lv' := [(5, .int (v5 + (1 : Int32))), (6, .int x1), (0, .ref (ad 32)), (1, .int a1), (2, .ref (ad q2)), (3, .int a3), (4, .int a4)]) hx hb dX3_searchAllOf_81 hl (k := 6) rfl rfl (by decide) rfl (fun ls hl => ?_)
        refine lv_goto (tgt := 15) hx hb dX3_searchAllOf_84 (by decide) ?_
        exact ih _ _ _ _ _ hF hI (lv_sub hl [2, 3, 4, 5, 6, 0] rfl)
set_option maxHeartbeats 4000000 in
theorem l_X3_searchAllOf_4 {p : Program} {e : Env} {s : State} {m : MethodId} {args : Array Value} {below : List Frame} {meth : Method} {c : Code} (G : Mx n D cA ad A sa p s m args meth c RX3 cX3_searchAllOf 7 none) {a1 : Int32} {q2 : Nat} {a3 : Int32} (h0 : isX3 n sh 32) (h2 : isX1 n sh q2) {k : Mem → Option (Unit × Mem)} {r : Unit} {w' : Mem}
    (hk : ∀  (w : Mem) (H : Heap) (locs : List Loc) (ls : Array Slot), k  w = some (r, w') → Iv n sh D cA ad A s.heap w H locs → lv_has ls 7 [] → W p l e ({ frames := 5, cells := 0, slots := 0, locals := 119 } : Room) s m args below meth c H locs 0 0 (QM n sh D cA ad A below args s none w') (F0 m 93 ls [])) :
    ∀ (N : Nat) (v4 : Int32) (w : Mem) (H : Heap) (locs : List Loc) (ls : Array Slot), L_X3_searchAllOf_4 a1 q2 a3 k N v4 w = some (r, w') → Iv n sh D cA ad A s.heap w H locs → lv_has ls 7 [(0, .ref (ad 32)), (1, .int a1), (2, .ref (ad q2)), (3, .int a3), (4, .int v4)] → W p l e ({ frames := 5, cells := 0, slots := 0, locals := 119 } : Room) s m args below meth c H locs 0 0 (QM n sh D cA ad A below args s none w') (F0 m 4 ls []) := by
  obtain ⟨hx, hb, -, -, hown, hg, -, -, -, -, hA⟩ := id G
  intro N
  induction N with
  | zero =>
    intro v4 w H locs ls hF hI hl
    cases hF
  | succ N ih =>
    intro v4 w H locs ls hF hI hl
    rw [L_X3_searchAllOf_4] at hF
    refine lv_iload hx hb dX3_searchAllOf_4 (lv_at hl 4 rfl) ?_
    refine lv_bipush (v := (6 : Int32)) hx hb dX3_searchAllOf_6 (by decide) ?_
    refine lv_icmp_gt (tgt := 93) hx hb dX3_searchAllOf_8 (by decide) (fun c15 => ?_) (fun c15 => ?_)
    · replace hF := itp c15 hF
      exact hk _ _ _ _ hF hI (lv_sub hl [] rfl)
    · replace hF := itn c15 hF
      refine lv_bipush (v := (-6 : Int32)) hx hb dX3_searchAllOf_11 (by decide) ?_
      refine lv_istore (lv' := [(5, .int (-6 : Int32)), (0, .ref (ad 32)), (1, .int a1), (2, .ref (ad q2)), (3, .int a3), (4, .int v4)]) hx hb dX3_searchAllOf_13 hl (by decide) rfl (fun ls hl => ?_)
      refine l_X3_searchAllOf_15 G h0 h2 (fun w14 H locs ls hF hI hl => ?_) _ _ _ _ _ _ hF hI (lv_sub hl [1, 2, 3, 4, 5, 0] rfl)
      refine lv_iinc (v := (v4 + (1 : Int32))) (lv' := [(4, .int (v4 + (1 : Int32))), (0, .ref (ad 32)), (1, .int a1), (2, .ref (ad q2)), (3, .int a3)]) hx hb dX3_searchAllOf_87 hl (k := 4) rfl rfl (by decide) rfl (fun ls hl => ?_)
      refine lv_goto (tgt := 4) hx hb dX3_searchAllOf_90 (by decide) ?_
      exact ih _ _ _ _ _ hF hI (lv_sub hl [1, 2, 3, 4, 0] rfl)
set_option maxHeartbeats 4000000 in
theorem c_X3_searchAllOf (hA : AdOk n ad A) (h0 : isX3 n sh 32) {a1 : Int32} {q2 : Nat} (h2 : isX1 n sh q2) {a3 : Int32} {w w' : Mem} {r : Unit} (hF : F_X3_searchAllOf a1 q2 a3 w = some (r, w')) : Ctr l n sh D cA ad A sa yX3_searchAllOf cX3_searchAllOf 7 none 5 119 [.ref (ad 32), .int a1, .ref (ad q2), .int a3] w none w' := by
  refine m_enter hA (by decide) (Nat.le_of_ble_eq_true rfl) ?_
  intro p e s m args below meth c ls G hI hl
  replace hl : lv_has ls 7 [(0, .ref (ad 32)), (1, .int a1), (2, .ref (ad q2)), (3, .int a3)] := hl
  replace G : Mx n D cA ad A sa p s m args meth c RX3 cX3_searchAllOf 7 none := G
  obtain ⟨hx, hb, -, -, hown, hg, -⟩ := id G
  unfold F_X3_searchAllOf at hF
  refine lv_bipush (v := (-6 : Int32)) hx hb dX3_searchAllOf_0 (by decide) ?_
  refine lv_istore (lv' := [(4, .int (-6 : Int32)), (0, .ref (ad 32)), (1, .int a1), (2, .ref (ad q2)), (3, .int a3)]) hx hb dX3_searchAllOf_2 hl (by decide) rfl (fun ls hl => ?_)
  refine l_X3_searchAllOf_4 G h0 h2 (fun w16 H locs ls hF hI hl => ?_) _ _ _ _ _ _ hF hI (lv_sub hl [1, 2, 3, 4, 0] rfl)
  exact n_vret G hI hF rfl dX3_searchAllOf_93
set_option maxHeartbeats 4000000 in
theorem l_X3_search_7 {p : Program} {e : Env} {s : State} {m : MethodId} {args : Array Value} {below : List Frame} {meth : Method} {c : Code} (G : Mx n D cA ad A sa p s m args meth c RX3 cX3_search 4 none) {q1 : Nat} {a2 : Int32} (h0 : isX3 n sh 32) (h1 : isX1 n sh q1) {k : Mem → Option (Unit × Mem)} {r : Unit} {w' : Mem}
    (hk : ∀  (w : Mem) (H : Heap) (locs : List Loc) (ls : Array Slot), k  w = some (r, w') → Iv n sh D cA ad A s.heap w H locs → lv_has ls 4 [] → W p l e ({ frames := 6, cells := 0, slots := 0, locals := 145 } : Room) s m args below meth c H locs 0 0 (QM n sh D cA ad A below args s none w') (F0 m 38 ls [])) :
    ∀ (N : Nat) (v3 : Int32) (w : Mem) (H : Heap) (locs : List Loc) (ls : Array Slot), L_X3_search_7 q1 a2 k N v3 w = some (r, w') → Iv n sh D cA ad A s.heap w H locs → lv_has ls 4 [(0, .ref (ad 32)), (1, .ref (ad q1)), (2, .int a2), (3, .int v3)] → W p l e ({ frames := 6, cells := 0, slots := 0, locals := 145 } : Room) s m args below meth c H locs 0 0 (QM n sh D cA ad A below args s none w') (F0 m 7 ls []) := by
  obtain ⟨hx, hb, -, -, hown, hg, -, -, -, -, hA⟩ := id G
  intro N
  induction N with
  | zero =>
    intro v3 w H locs ls hF hI hl
    cases hF
  | succ N ih =>
    intro v3 w H locs ls hF hI hl
    rw [L_X3_search_7] at hF
    refine lv_iload_n hx hb dX3_search_7 rfl (lv_at hl 3 rfl) ?_
    refine lv_bipush (v := (18 : Int32)) hx hb dX3_search_8 (by decide) ?_
    refine lv_icmp_gt (tgt := 38) hx hb dX3_search_10 (by decide) (fun c7 => ?_) (fun c7 => ?_)
    · replace hF := itp c7 hF
      exact hk _ _ _ _ hF hI (lv_sub hl [] rfl)
    · replace hF := itn c7 hF
      refine lv_aload_n hx hb dX3_search_13 rfl (lv_at hl 0 rfl) ?_
      refine gf_X3_28 G hI h0 dX3_search_14 ?_
      refine lv_if_ne (tgt := 38) hx hb dX3_search_17 (by decide) (fun c6 => ?_) (fun c6 => ?_)
      · replace hF := itn c6 hF
        exact hk _ _ _ _ hF hI (lv_sub hl [] rfl)
      · replace hF := itp c6 hF
        refine lv_aload_n hx hb dX3_search_20 rfl (lv_at hl 0 rfl) ?_
        refine lv_iload_n hx hb dX3_search_21 rfl (lv_at hl 3 rfl) ?_
        obtain ⟨w2, ew2, hF⟩ := lt_some hF
        refine pf_X3_32 G hI h0 dX3_search_22 (fun H locs hI => ?_)
        replace hI : Iv n sh D cA ad A s.heap w2 H locs := by rw [ew2]; exact hI
        refine lv_aload_n hx hb dX3_search_25 rfl (lv_at hl 0 rfl) ?_
        refine lv_iload_n hx hb dX3_search_26 rfl (lv_at hl 3 rfl) ?_
        refine lv_aload_n hx hb dX3_search_27 rfl (lv_at hl 1 rfl) ?_
        refine lv_iload_n hx hb dX3_search_28 rfl (lv_at hl 2 rfl) ?_
        obtain ⟨r4, w3, z5, hF⟩ := bd_some hF
        refine n_Vv (rest := []) G hI (c_X3_searchAllOf hA h0 h1 z5) my_X3_searchAllOf kl_X3_35 (isX3.lt h0) (isX3.sh h0) rfl ⟨Nat.le_of_ble_eq_true rfl, Nat.le_of_ble_eq_true rfl⟩ rfl hl.1 rfl (Nat.le_of_ble_eq_true rfl) dX3_search_29 (fun H locs hI => ?_)
        refine lv_iinc (v := (v3 + (1 : Int32))) (lv' := [(3, .int (v3 + (1 : Int32))), (0, .ref (ad 32)), (1, .ref (ad q1)), (2, .int a2)]) hx hb dX3_search_32 hl (k := 3) rfl rfl (by decide) rfl (fun ls hl => ?_)
        refine lv_goto (tgt := 7) hx hb dX3_search_35 (by decide) ?_
        exact ih _ _ _ _ _ hF hI (lv_sub hl [1, 2, 3, 0] rfl)
set_option maxHeartbeats 4000000 in
theorem c_X3_search (hA : AdOk n ad A) (h0 : isX3 n sh 32) {q1 : Nat} (h1 : isX1 n sh q1) {a2 : Int32} {w w' : Mem} {r : Unit} (hF : F_X3_search q1 a2 w = some (r, w')) : Ctr l n sh D cA ad A sa yX3_search cX3_search 4 none 6 145 [.ref (ad 32), .ref (ad q1), .int a2] w none w' := by
  refine m_enter hA (by decide) (Nat.le_of_ble_eq_true rfl) ?_
  intro p e s m args below meth c ls G hI hl
  replace hl : lv_has ls 4 [(0, .ref (ad 32)), (1, .ref (ad q1)), (2, .int a2)] := hl
  replace G : Mx n D cA ad A sa p s m args meth c RX3 cX3_search 4 none := G
  obtain ⟨hx, hb, -, -, hown, hg, -⟩ := id G
  unfold F_X3_search at hF
  refine lv_aload_n hx hb dX3_search_0 rfl (lv_at hl 0 rfl) ?_
  refine lv_iconst (v := (0 : Int32)) hx hb dX3_search_1 (by decide) ?_
  obtain ⟨w1, ew1, hF⟩ := lt_some hF
  refine pf_X3_28 G hI h0 dX3_search_2 (fun H locs hI => ?_)
  replace hI : Iv n sh D cA ad A s.heap w1 H locs := by rw [ew1]; exact hI
  refine lv_iconst (v := (0 : Int32)) hx hb dX3_search_5 (by decide) ?_
  refine lv_istore_n (lv' := [(3, .int (0 : Int32)), (0, .ref (ad 32)), (1, .ref (ad q1)), (2, .int a2)]) hx hb dX3_search_6 rfl hl (by decide) rfl (fun ls hl => ?_)
  refine l_X3_search_7 G h0 h1 (fun w8 H locs ls hF hI hl => ?_) _ _ _ _ _ _ hF hI (lv_sub hl [1, 2, 3, 0] rfl)
  exact n_vret G hI hF rfl dX3_search_38
end WK3
