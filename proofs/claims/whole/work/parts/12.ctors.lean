/-! the constructors, by program (wip/gen/gctor.py) -/
def shX4 (N : Nat) : Nat → Shp := fun i => match i with
  | 0 => .inr (4, [none, some 1, none])
  | 1 => .inl N
  | _ => .inl 0
def shX1 : Nat → Shp := fun i => match i with
  | 0 => .inr (1, [none, none, none, none, none, some 1, some 2, some 3, some 4])
  | 1 => .inl 3
  | 2 => .inl 3
  | 3 => .inl 3
  | 4 => .inl 3
  | _ => .inl 0
def shX2 : Nat → Shp := fun i => match i with
  | 0 => .inr (2, [some 1, none])
  | 1 => .inr (4, [none, some 2, none])
  | 2 => .inl 28
  | _ => .inl 0
def shX3 : Nat → Shp := fun i => match i with
  | 0 => .inr (3, [some 1, some 4, some 5, some 6, none, none])
  | 1 => .inr (2, [some 2, none])
  | 2 => .inr (4, [none, some 3, none])
  | 3 => .inl 28
  | 4 => .inl 3
  | 5 => .inl 3
  | 6 => .inl 3
  | _ => .inl 0
def shX5 : Nat → Shp := fun i => match i with
  | 0 => .inr (5, [some 1, some 2, none, none, none])
  | 1 => .inl 120
  | 2 => .inr (4, [none, some 3, none])
  | 3 => .inl 48
  | _ => .inl 0
def shX0 : Nat → Shp := fun i => match i with
  | 0 => .inr (0, [some 1, some 2, some 3, some 4, some 5, some 6, some 8, none])
  | 1 => .inl 7
  | 2 => .inl 3
  | 3 => .inl 3
  | 4 => .inl 3
  | 5 => .inl 3
  | 6 => .inr (4, [none, some 7, none])
  | 7 => .inl 48
  | 8 => .inr (1, [none, none, none, none, none, some 9, some 10, some 11, some 12])
  | 9 => .inl 3
  | 10 => .inl 3
  | 11 => .inl 3
  | 12 => .inl 3
  | _ => .inl 0
def wX4 (v : Int32) : Mem := fun i => match i with
  | 0 => fun k => match k with
    | 0 => v
    | _ => 0
  | _ => fun _ => 0
def wX1 : Mem := fun _ _ => 0
def wX2 : Mem := fun i => match i with
  | 1 => wX4 7 0
  | _ => fun _ => 0
def wX3 : Mem := fun i => match i with
  | 2 => wX4 7 0
  | _ => fun _ => 0
def wX5 : Mem := fun i => match i with
  | 2 => wX4 12 0
  | _ => fun _ => 0
def wX0a : Mem := fun i => match i with
  | 6 => wX4 12 0
  | _ => fun _ => 0
def wX0 : Mem := fun i => match i with
  | 1 => sct 0
  | 6 => wX4 12 0
  | _ => fun _ => 0
def wX7a : Mem := fun _ _ => 0
def wX7 : Mem := fun i => match i with
  | 2 => sct 0
  | _ => fun _ => 0
def wC0 : Mem := fun i => match i with
  | 2 => sct 0
  | 7 => wX4 12 0
  | 15 => sct 0
  | 20 => wX4 12 0
  | 28 => wX4 7 0
  | 30 => wX4 12 0
  | 34 => wX4 7 0
  | 39 => wX4 10 0
  | 43 => wX4 12 0
  | _ => fun _ => 0
theorem oi_i : Cond.instanceMethod Lib.objectInit ∈ gT := tin 18 (by decide +kernel) rfl
theorem oi_c : Cond.code Lib.objectInit ⟨#[0xb1]⟩ 1 none ∈ gT := tin 19 (by decide +kernel) rfl
theorem ac_int : Cond.arrayClass .int ∈ gT := tin 49 (by decide +kernel) rfl
set_option maxRecDepth 100000 in
theorem my_X0_init : MI yX0_init cX0_init 1 0 := ⟨tin 24 rfl rfl, tin 23 (by decide +kernel) rfl, tin 2 (by decide +kernel) rfl, by decide +kernel, by decide +kernel, by decide +kernel⟩
set_option maxRecDepth 100000 in
theorem my_X1_init : MI yX1_init cX1_init 1 0 := ⟨tin 54 rfl rfl, tin 53 (by decide +kernel) rfl, tin 5 (by decide +kernel) rfl, by decide +kernel, by decide +kernel, by decide +kernel⟩
set_option maxRecDepth 100000 in
theorem my_X2_init : MI yX2_init cX2_init 1 0 := ⟨tin 151 rfl rfl, tin 150 (by decide +kernel) rfl, tin 7 (by decide +kernel) rfl, by decide +kernel, by decide +kernel, by decide +kernel⟩
set_option maxRecDepth 100000 in
theorem my_X3_init : MI yX3_init cX3_init 1 0 := ⟨tin 170 rfl rfl, tin 169 (by decide +kernel) rfl, tin 8 (by decide +kernel) rfl, by decide +kernel, by decide +kernel, by decide +kernel⟩
set_option maxRecDepth 100000 in
theorem my_X4_init : MI yX4_init cX4_init 2 1 := ⟨tin 30 rfl rfl, tin 29 (by decide +kernel) rfl, tin 3 (by decide +kernel) rfl, by decide +kernel, by decide +kernel, by decide +kernel⟩
set_option maxRecDepth 100000 in
theorem my_X5_init : MI yX5_init cX5_init 1 0 := ⟨tin 200 rfl rfl, tin 199 (by decide +kernel) rfl, tin 9 (by decide +kernel) rfl, by decide +kernel, by decide +kernel, by decide +kernel⟩
set_option maxRecDepth 100000 in
theorem my_X6_init : MI yX6_init cX6_init 1 0 := ⟨tin 16 rfl rfl, tin 15 (by decide +kernel) rfl, tin 1 (by decide +kernel) rfl, by decide +kernel, by decide +kernel, by decide +kernel⟩
set_option maxRecDepth 100000 in
theorem my_X7_init : MI yX7_init cX7_init 1 0 := ⟨tin 700 rfl rfl, tin 699 (by decide +kernel) rfl, tin 10 (by decide +kernel) rfl, by decide +kernel, by decide +kernel, by decide +kernel⟩
theorem ko_X6 : Cond.methodLink RX6 1 Lib.objectInit ∈ gT := tin 17 (by decide +kernel) rfl
theorem kl_X6_9 : Cond.methodLink RX6 9 yX0_init ∈ gT := tin 22 (by decide +kernel) rfl
theorem kl_X6_28 : Cond.methodLink RX6 28 yX4_init ∈ gT := tin 165 (by decide +kernel) rfl
theorem ko_X0 : Cond.methodLink RX0 3 Lib.objectInit ∈ gT := tin 25 (by decide +kernel) rfl
theorem kl_X0_29 : Cond.methodLink RX0 29 yX4_init ∈ gT := tin 28 (by decide +kernel) rfl
theorem ko_X1 : Cond.methodLink RX1 3 Lib.objectInit ∈ gT := tin 55 (by decide +kernel) rfl
theorem ko_X2 : Cond.methodLink RX2 3 Lib.objectInit ∈ gT := tin 152 (by decide +kernel) rfl
theorem kl_X2_11 : Cond.methodLink RX2 11 yX4_init ∈ gT := tin 154 (by decide +kernel) rfl
theorem ko_X3 : Cond.methodLink RX3 3 Lib.objectInit ∈ gT := tin 171 (by decide +kernel) rfl
theorem ko_X4 : Cond.methodLink RX4 3 Lib.objectInit ∈ gT := tin 31 (by decide +kernel) rfl
theorem ko_X5 : Cond.methodLink RX5 3 Lib.objectInit ∈ gT := tin 201 (by decide +kernel) rfl
theorem kl_X5_17 : Cond.methodLink RX5 17 yX4_init ∈ gT := tin 203 (by decide +kernel) rfl
theorem kl_L_9 : Cond.methodLink RL 9 yX6_init ∈ gT := tin 14 (by decide +kernel) rfl
theorem kl_L_12 : Cond.methodLink RL 12 yX7_init ∈ gT := tin 698 (by decide +kernel) rfl
theorem ko_X7 : Cond.methodLink RX7 7 Lib.objectInit ∈ gT := tin 701 (by decide +kernel) rfl
theorem kk_X6_7 : Cond.classLink RX6 7 RX0 ∈ gT := tin 20 (by decide +kernel) rfl
theorem kk_X6_19 : Cond.classLink RX6 19 RX2 ∈ gT := tin 147 (by decide +kernel) rfl
theorem kk_X6_26 : Cond.classLink RX6 26 RX4 ∈ gT := tin 164 (by decide +kernel) rfl
theorem kk_X6_35 : Cond.classLink RX6 35 RX3 ∈ gT := tin 166 (by decide +kernel) rfl
theorem kk_X6_45 : Cond.classLink RX6 45 RX5 ∈ gT := tin 196 (by decide +kernel) rfl
theorem kk_X0_27 : Cond.classLink RX0 27 RX4 ∈ gT := tin 26 (by decide +kernel) rfl
theorem kk_X0_36 : Cond.classLink RX0 36 RX1 ∈ gT := tin 50 (by decide +kernel) rfl
theorem kk_X2_9 : Cond.classLink RX2 9 RX4 ∈ gT := tin 153 (by decide +kernel) rfl
theorem kk_X3_9 : Cond.classLink RX3 9 RX2 ∈ gT := tin 172 (by decide +kernel) rfl
theorem kk_X5_15 : Cond.classLink RX5 15 RX4 ∈ gT := tin 202 (by decide +kernel) rfl
theorem kk_L_7 : Cond.classLink RL 7 RX6 ∈ gT := tin 12 (by decide +kernel) rfl
theorem kk_L_10 : Cond.classLink RL 10 RX7 ∈ gT := tin 696 (by decide +kernel) rfl
theorem ki_X0 : Cond.instantiable RX0 8 ∈ gT := tin 21 (by decide +kernel) rfl
theorem kn_X0 : Cond.initialized RX0 ∈ gT := tin 2 (by decide +kernel) rfl
theorem kd_X0 : ∀ j, j < 8 → defaultValue (tyX0 j) = vp_V [.null, .null, .null, .null, .null, .null, .null, .int 0] j := by
  intro j hj
  match j, hj with
  | 0, _ => rfl
  | 1, _ => rfl
  | 2, _ => rfl
  | 3, _ => rfl
  | 4, _ => rfl
  | 5, _ => rfl
  | 6, _ => rfl
  | 7, _ => rfl
  | q + 8, h => exact absurd h (by omega)
theorem ki_X1 : Cond.instantiable RX1 9 ∈ gT := tin 51 (by decide +kernel) rfl
theorem kn_X1 : Cond.initialized RX1 ∈ gT := tin 5 (by decide +kernel) rfl
theorem kd_X1 : ∀ j, j < 9 → defaultValue (tyX1 j) = vp_V [.int 0, .int 0, .int 0, .int 0, .int 0, .null, .null, .null, .null] j := by
  intro j hj
  match j, hj with
  | 0, _ => rfl
  | 1, _ => rfl
  | 2, _ => rfl
  | 3, _ => rfl
  | 4, _ => rfl
  | 5, _ => rfl
  | 6, _ => rfl
  | 7, _ => rfl
  | 8, _ => rfl
  | q + 9, h => exact absurd h (by omega)
theorem ki_X2 : Cond.instantiable RX2 2 ∈ gT := tin 148 (by decide +kernel) rfl
theorem kn_X2 : Cond.initialized RX2 ∈ gT := tin 7 (by decide +kernel) rfl
theorem kd_X2 : ∀ j, j < 2 → defaultValue (tyX2 j) = vp_V [.null, .int 0] j := by
  intro j hj
  match j, hj with
  | 0, _ => rfl
  | 1, _ => rfl
  | q + 2, h => exact absurd h (by omega)
theorem ki_X3 : Cond.instantiable RX3 6 ∈ gT := tin 167 (by decide +kernel) rfl
theorem kn_X3 : Cond.initialized RX3 ∈ gT := tin 8 (by decide +kernel) rfl
theorem kd_X3 : ∀ j, j < 6 → defaultValue (tyX3 j) = vp_V [.null, .null, .null, .null, .int 0, .int 0] j := by
  intro j hj
  match j, hj with
  | 0, _ => rfl
  | 1, _ => rfl
  | 2, _ => rfl
  | 3, _ => rfl
  | 4, _ => rfl
  | 5, _ => rfl
  | q + 6, h => exact absurd h (by omega)
theorem ki_X4 : Cond.instantiable RX4 3 ∈ gT := tin 27 (by decide +kernel) rfl
theorem kn_X4 : Cond.initialized RX4 ∈ gT := tin 3 (by decide +kernel) rfl
theorem kd_X4 : ∀ j, j < 3 → defaultValue (tyX4 j) = vp_V [.int 0, .null, .int 0] j := by
  intro j hj
  match j, hj with
  | 0, _ => rfl
  | 1, _ => rfl
  | 2, _ => rfl
  | q + 3, h => exact absurd h (by omega)
theorem ki_X5 : Cond.instantiable RX5 5 ∈ gT := tin 197 (by decide +kernel) rfl
theorem kn_X5 : Cond.initialized RX5 ∈ gT := tin 9 (by decide +kernel) rfl
theorem kd_X5 : ∀ j, j < 5 → defaultValue (tyX5 j) = vp_V [.null, .null, .int 0, .int 0, .int 0] j := by
  intro j hj
  match j, hj with
  | 0, _ => rfl
  | 1, _ => rfl
  | 2, _ => rfl
  | 3, _ => rfl
  | 4, _ => rfl
  | q + 5, h => exact absurd h (by omega)
theorem ki_X6 : Cond.instantiable RX6 8 ∈ gT := tin 13 (by decide +kernel) rfl
theorem kn_X6 : Cond.initialized RX6 ∈ gT := tin 1 (by decide +kernel) rfl
theorem kd_X6 : ∀ j, j < 8 → defaultValue (tyX6 j) = vp_V [.null, .null, .null, .null, .null, .null, .null, .null] j := by
  intro j hj
  match j, hj with
  | 0, _ => rfl
  | 1, _ => rfl
  | 2, _ => rfl
  | 3, _ => rfl
  | 4, _ => rfl
  | 5, _ => rfl
  | 6, _ => rfl
  | 7, _ => rfl
  | q + 8, h => exact absurd h (by omega)
theorem ki_X7 : Cond.instantiable RX7 37 ∈ gT := tin 697 (by decide +kernel) rfl
theorem kn_X7 : Cond.initialized RX7 ∈ gT := tin 10 (by decide +kernel) rfl
theorem kd_X7 : ∀ j, j < 37 → defaultValue (tyX7 j) = vp_V [.null, .null, .null, .null, .null, .null, .int 0, .int 0, .null, .null, .null, .int 0, .null, .int 0, .int 0, .null, .null, .null, .null, .int 0, .null, .null, .int 0, .int 0, .int 0, .int 0, .int 0, .null, .null, .null, .null, .null, .int 0, .int 0, .int 0, .int 0, .int 0] j := by
  intro j hj
  match j, hj with
  | 0, _ => rfl
  | 1, _ => rfl
  | 2, _ => rfl
  | 3, _ => rfl
  | 4, _ => rfl
  | 5, _ => rfl
  | 6, _ => rfl
  | 7, _ => rfl
  | 8, _ => rfl
  | 9, _ => rfl
  | 10, _ => rfl
  | 11, _ => rfl
  | 12, _ => rfl
  | 13, _ => rfl
  | 14, _ => rfl
  | 15, _ => rfl
  | 16, _ => rfl
  | 17, _ => rfl
  | 18, _ => rfl
  | 19, _ => rfl
  | 20, _ => rfl
  | 21, _ => rfl
  | 22, _ => rfl
  | 23, _ => rfl
  | 24, _ => rfl
  | 25, _ => rfl
  | 26, _ => rfl
  | 27, _ => rfl
  | 28, _ => rfl
  | 29, _ => rfl
  | 30, _ => rfl
  | 31, _ => rfl
  | 32, _ => rfl
  | 33, _ => rfl
  | 34, _ => rfl
  | 35, _ => rfl
  | 36, _ => rfl
  | q + 37, h => exact absurd h (by omega)
theorem to_wsO {n : Nat} {sh : Nat → Shp} {ad : Nat → Nat} {cA : ClassId} {w : Mem} {ws : va_W} (hl : ws.length = n) (h : ∀ k, k < n → ws[k]? = some (ad k, cE sh ad cA w k)) : ws = wsO n sh ad cA w := by
  apply List.ext_getElem?
  intro k
  by_cases hk : k < n
  · rw [h k hk, wsO_get hk]
  · rw [List.getElem?_eq_none (by omega), List.getElem?_eq_none (by simp [wsO]; omega)]
theorem isX0_at0 : isX0 13 shX0 0 := ⟨by decide, rfl, ⟨by decide, rfl⟩, ⟨by decide, rfl⟩, ⟨by decide, rfl⟩, ⟨by decide, rfl⟩, ⟨by decide, rfl⟩, ⟨by decide, rfl, ⟨by decide, rfl⟩⟩, ⟨by decide, rfl, ⟨by decide, rfl⟩, ⟨by decide, rfl⟩, ⟨by decide, rfl⟩, ⟨by decide, rfl⟩⟩⟩
theorem imax_lit : imax 0 12 = 12 ∧ imax 0 7 = 7 ∧ imax 0 10 = 10 := by decide
theorem beginAnew_at0 : F_X0_beginAnew 0 wX0a = some ((), wX0) := by
  sorry
theorem begins_at0 : F_X7_begins wX7a = some ((), wX7) := by
  sorry
set_option maxHeartbeats 4000000 in
set_option maxRecDepth 20000 in
theorem k_X4 {l : Launch} {D : va_G} {cA : ClassId} {sa : Nat → Nat} {h0 sz : Nat} {a1 : Int32} {N : Nat} (h1 : ¬ (imax 0 a1 * 4) < 0) (h2 : (imax 0 a1 * 4).toNatClampNeg = N) (h3 : N ≤ 200) : KMet l D cA sa h0 sz 4 [.int 0, .null, .int 0] yX4_init cX4_init 2 1 29 1 N [.int a1] 2 (shX4 N) (wX4 (imax 0 a1)) := by
  refine k_enter (by decide) (Nat.le_of_ble_eq_true rfl) ?_
  intro p e s m args below meth c ls hsz G hr hlocks hin hP hD hl
  replace hl : lv_has ls 2 [(0, .ref h0), (1, .int a1)] := hl
  replace G : Kx D cA sa (KA h0 s.heap.size) p s m args meth c RX4 cX4_init 2 := G
  obtain ⟨hx, hb, hml, hown, hg, hK, -⟩ := id G
  have hS : va_S (KA h0 s.heap.size) s.heap s.heap [] := va_S.rf
  refine lv_aload_n hx hb dX4_init_0 rfl (lv_at hl 0 rfl) ?_
  refine k_obj G ko_X4 oi_i oi_c hl.1 dX4_init_1 (Nat.le_of_ble_eq_true rfl) (Nat.le_of_ble_eq_true rfl) ?_
  refine lv_aload_n hx hb dX4_init_4 rfl (lv_at hl 0 rfl) ?_
  refine lv_iconst (v := (0 : Int32)) hx hb dX4_init_5 (by decide) ?_
  refine lv_iload_n hx hb dX4_init_6 rfl (lv_at hl 1 rfl) ?_
  refine va_mmax hx hb (hml.trans hl.1.symm) hown (hg _ kl_X4_9) (hg _ st_max) (hg _ ini_Math) (hg _ cd_max) (Nat.le_of_ble_eq_true rfl) (Nat.le_of_ble_eq_true rfl) (Nat.zero_le _) (Nat.zero_le _) dX4_init_7 ?_
  refine W.eq (g2 := F0 m 10 ls [.int (imax (0 : Int32) a1), .ref h0]) rfl ?_
  refine k_put (ty := tyX4 0) (v := .int (imax (0 : Int32) a1)) G hin inGX4 tyX4_ok nmX4 (k := 0) rfl (by decide) fl_X4_15 rfl rfl rfl rfl rfl rfl (Nat.le_of_ble_eq_true rfl) hP hD hS dX4_init_10 (fun H locs hP hD hS => ?_)
  replace hP : va_P D classes ((h0, .inr (4, [.int (imax (0 : Int32) a1), .null, .int 0])) :: []) _ := hP
  replace hD : va_D (KA h0 s.heap.size) ((h0, .inr (4, [.int (imax (0 : Int32) a1), .null, .int 0])) :: []) := hD
  refine lv_aload_n hx hb dX4_init_13 rfl (lv_at hl 0 rfl) ?_
  refine lv_aload_n hx hb dX4_init_14 rfl (lv_at hl 0 rfl) ?_
  refine va_get hx hb hg inGX4 hown hK hP 0 rfl rfl 0 (by decide) (hg _ fl_X4_15) (fun _ h => h) rfl dX4_init_15 ?_
  refine lv_iconst (v := (4 : Int32)) hx hb dX4_init_18 (by decide) ?_
  refine lv_imul hx hb dX4_init_19 ?_
  refine k_newa G ac_int hP hD hS h1 h2 (by omega) (Nat.le_of_ble_eq_true rfl) (by show 0 + N ≤ N; omega) dX4_init_20 (fun q1 H hP hD hS => ?_)
  replace hP : va_P D classes ((h0, .inr (4, [.int (imax (0 : Int32) a1), .null, .int 0])) :: ([] ++ [(q1, .inl (cA, N, .inl (fun _ => 0)))])) _ := hP
  replace hD : va_D (KA h0 s.heap.size) ((h0, .inr (4, [.int (imax (0 : Int32) a1), .null, .int 0])) :: ([] ++ [(q1, .inl (cA, N, .inl (fun _ => 0)))])) := hD
  refine k_put (ty := tyX4 1) (v := .ref q1) G hin inGX4 tyX4_ok nmX4 (k := 1) rfl (by decide) fl_X4_21 rfl rfl rfl rfl rfl rfl (Nat.le_of_ble_eq_true rfl) hP hD hS dX4_init_22 (fun H locs hP hD hS => ?_)
  replace hP : va_P D classes ((h0, .inr (4, [.int (imax (0 : Int32) a1), .ref q1, .int 0])) :: ([] ++ [(q1, .inl (cA, N, .inl (fun _ => 0)))])) _ := hP
  replace hD : va_D (KA h0 s.heap.size) ((h0, .inr (4, [.int (imax (0 : Int32) a1), .ref q1, .int 0])) :: ([] ++ [(q1, .inl (cA, N, .inl (fun _ => 0)))])) := hD
  have heq : ((h0, .inr (4, [.int (imax (0 : Int32) a1), .ref q1, .int 0])) :: ([] ++ [(q1, .inl (cA, N, .inl (fun _ => 0)))]) : va_W) = wsO 2 (shX4 N) (fun i => ([h0, q1] : List Nat).getD i 0) cA (wX4 (imax 0 a1)) := to_wsO rfl (fun k hk => match k, hk with
    | 0, _ => rfl
    | 1, _ => rfl
    | q + 2, h => absurd h (by omega))
  rw [heq] at hP hD
  refine W.widen (k := 1) (n := N) (by omega) (by omega) ?_
  exact k_ret (ad := (fun i => ([h0, q1] : List Nat).getD i 0)) G hr hlocks rfl hP hD hS dX4_init_25
set_option maxHeartbeats 4000000 in
set_option maxRecDepth 20000 in
theorem k_X1 {l : Launch} {D : va_G} {cA : ClassId} {sa : Nat → Nat} {h0 sz : Nat} : KMet l D cA sa h0 sz 1 [.int 0, .int 0, .int 0, .int 0, .int 0, .null, .null, .null, .null] yX1_init cX1_init 1 1 20 4 12 [] 5 shX1 wX1 := by
  refine k_enter (by decide) (Nat.le_of_ble_eq_true rfl) ?_
  intro p e s m args below meth c ls hsz G hr hlocks hin hP hD hl
  replace hl : lv_has ls 1 [(0, .ref h0)] := hl
  replace G : Kx D cA sa (KA h0 s.heap.size) p s m args meth c RX1 cX1_init 1 := G
  obtain ⟨hx, hb, hml, hown, hg, hK, -⟩ := id G
  have hS : va_S (KA h0 s.heap.size) s.heap s.heap [] := va_S.rf
  refine lv_aload_n hx hb dX1_init_0 rfl (lv_at hl 0 rfl) ?_
  refine k_obj G ko_X1 oi_i oi_c hl.1 dX1_init_1 (Nat.le_of_ble_eq_true rfl) (Nat.le_of_ble_eq_true rfl) ?_
  refine lv_aload_n hx hb dX1_init_4 rfl (lv_at hl 0 rfl) ?_
  refine lv_iconst (v := (3 : Int32)) hx hb dX1_init_5 (by decide) ?_
  refine k_newa G ac_int hP hD hS (by decide) rfl (by decide) (Nat.le_of_ble_eq_true rfl) (Nat.le_of_ble_eq_true rfl) dX1_init_6 (fun q1 H hP hD hS => ?_)
  replace hP : va_P D classes ((h0, .inr (1, [.int 0, .int 0, .int 0, .int 0, .int 0, .null, .null, .null, .null])) :: ([] ++ [(q1, .inl (cA, 3, .inl (fun _ => 0)))])) _ := hP
  replace hD : va_D (KA h0 s.heap.size) ((h0, .inr (1, [.int 0, .int 0, .int 0, .int 0, .int 0, .null, .null, .null, .null])) :: ([] ++ [(q1, .inl (cA, 3, .inl (fun _ => 0)))])) := hD
  refine k_put (ty := tyX1 5) (v := .ref q1) G hin inGX1 tyX1_ok nmX1 (k := 5) rfl (by decide) fl_X1_9 rfl rfl rfl rfl rfl rfl (Nat.le_of_ble_eq_true rfl) hP hD hS dX1_init_8 (fun H locs hP hD hS => ?_)
  replace hP : va_P D classes ((h0, .inr (1, [.int 0, .int 0, .int 0, .int 0, .int 0, .ref q1, .null, .null, .null])) :: ([] ++ [(q1, .inl (cA, 3, .inl (fun _ => 0)))])) _ := hP
  replace hD : va_D (KA h0 s.heap.size) ((h0, .inr (1, [.int 0, .int 0, .int 0, .int 0, .int 0, .ref q1, .null, .null, .null])) :: ([] ++ [(q1, .inl (cA, 3, .inl (fun _ => 0)))])) := hD
  refine lv_aload_n hx hb dX1_init_11 rfl (lv_at hl 0 rfl) ?_
  refine lv_iconst (v := (3 : Int32)) hx hb dX1_init_12 (by decide) ?_
  refine k_newa G ac_int hP hD hS (by decide) rfl (by decide) (Nat.le_of_ble_eq_true rfl) (Nat.le_of_ble_eq_true rfl) dX1_init_13 (fun q2 H hP hD hS => ?_)
  replace hP : va_P D classes ((h0, .inr (1, [.int 0, .int 0, .int 0, .int 0, .int 0, .ref q1, .null, .null, .null])) :: (([] ++ [(q1, .inl (cA, 3, .inl (fun _ => 0)))]) ++ [(q2, .inl (cA, 3, .inl (fun _ => 0)))])) _ := hP
  replace hD : va_D (KA h0 s.heap.size) ((h0, .inr (1, [.int 0, .int 0, .int 0, .int 0, .int 0, .ref q1, .null, .null, .null])) :: (([] ++ [(q1, .inl (cA, 3, .inl (fun _ => 0)))]) ++ [(q2, .inl (cA, 3, .inl (fun _ => 0)))])) := hD
  refine k_put (ty := tyX1 6) (v := .ref q2) G hin inGX1 tyX1_ok nmX1 (k := 6) rfl (by decide) fl_X1_15 rfl rfl rfl rfl rfl rfl (Nat.le_of_ble_eq_true rfl) hP hD hS dX1_init_15 (fun H locs hP hD hS => ?_)
  replace hP : va_P D classes ((h0, .inr (1, [.int 0, .int 0, .int 0, .int 0, .int 0, .ref q1, .ref q2, .null, .null])) :: (([] ++ [(q1, .inl (cA, 3, .inl (fun _ => 0)))]) ++ [(q2, .inl (cA, 3, .inl (fun _ => 0)))])) _ := hP
  replace hD : va_D (KA h0 s.heap.size) ((h0, .inr (1, [.int 0, .int 0, .int 0, .int 0, .int 0, .ref q1, .ref q2, .null, .null])) :: (([] ++ [(q1, .inl (cA, 3, .inl (fun _ => 0)))]) ++ [(q2, .inl (cA, 3, .inl (fun _ => 0)))])) := hD
  refine lv_aload_n hx hb dX1_init_18 rfl (lv_at hl 0 rfl) ?_
  refine lv_iconst (v := (3 : Int32)) hx hb dX1_init_19 (by decide) ?_
  refine k_newa G ac_int hP hD hS (by decide) rfl (by decide) (Nat.le_of_ble_eq_true rfl) (Nat.le_of_ble_eq_true rfl) dX1_init_20 (fun q3 H hP hD hS => ?_)
  replace hP : va_P D classes ((h0, .inr (1, [.int 0, .int 0, .int 0, .int 0, .int 0, .ref q1, .ref q2, .null, .null])) :: ((([] ++ [(q1, .inl (cA, 3, .inl (fun _ => 0)))]) ++ [(q2, .inl (cA, 3, .inl (fun _ => 0)))]) ++ [(q3, .inl (cA, 3, .inl (fun _ => 0)))])) _ := hP
  replace hD : va_D (KA h0 s.heap.size) ((h0, .inr (1, [.int 0, .int 0, .int 0, .int 0, .int 0, .ref q1, .ref q2, .null, .null])) :: ((([] ++ [(q1, .inl (cA, 3, .inl (fun _ => 0)))]) ++ [(q2, .inl (cA, 3, .inl (fun _ => 0)))]) ++ [(q3, .inl (cA, 3, .inl (fun _ => 0)))])) := hD
  refine k_put (ty := tyX1 7) (v := .ref q3) G hin inGX1 tyX1_ok nmX1 (k := 7) rfl (by decide) fl_X1_18 rfl rfl rfl rfl rfl rfl (Nat.le_of_ble_eq_true rfl) hP hD hS dX1_init_22 (fun H locs hP hD hS => ?_)
  replace hP : va_P D classes ((h0, .inr (1, [.int 0, .int 0, .int 0, .int 0, .int 0, .ref q1, .ref q2, .ref q3, .null])) :: ((([] ++ [(q1, .inl (cA, 3, .inl (fun _ => 0)))]) ++ [(q2, .inl (cA, 3, .inl (fun _ => 0)))]) ++ [(q3, .inl (cA, 3, .inl (fun _ => 0)))])) _ := hP
  replace hD : va_D (KA h0 s.heap.size) ((h0, .inr (1, [.int 0, .int 0, .int 0, .int 0, .int 0, .ref q1, .ref q2, .ref q3, .null])) :: ((([] ++ [(q1, .inl (cA, 3, .inl (fun _ => 0)))]) ++ [(q2, .inl (cA, 3, .inl (fun _ => 0)))]) ++ [(q3, .inl (cA, 3, .inl (fun _ => 0)))])) := hD
  refine lv_aload_n hx hb dX1_init_25 rfl (lv_at hl 0 rfl) ?_
  refine lv_iconst (v := (3 : Int32)) hx hb dX1_init_26 (by decide) ?_
  refine k_newa G ac_int hP hD hS (by decide) rfl (by decide) (Nat.le_of_ble_eq_true rfl) (Nat.le_of_ble_eq_true rfl) dX1_init_27 (fun q4 H hP hD hS => ?_)
  replace hP : va_P D classes ((h0, .inr (1, [.int 0, .int 0, .int 0, .int 0, .int 0, .ref q1, .ref q2, .ref q3, .null])) :: (((([] ++ [(q1, .inl (cA, 3, .inl (fun _ => 0)))]) ++ [(q2, .inl (cA, 3, .inl (fun _ => 0)))]) ++ [(q3, .inl (cA, 3, .inl (fun _ => 0)))]) ++ [(q4, .inl (cA, 3, .inl (fun _ => 0)))])) _ := hP
  replace hD : va_D (KA h0 s.heap.size) ((h0, .inr (1, [.int 0, .int 0, .int 0, .int 0, .int 0, .ref q1, .ref q2, .ref q3, .null])) :: (((([] ++ [(q1, .inl (cA, 3, .inl (fun _ => 0)))]) ++ [(q2, .inl (cA, 3, .inl (fun _ => 0)))]) ++ [(q3, .inl (cA, 3, .inl (fun _ => 0)))]) ++ [(q4, .inl (cA, 3, .inl (fun _ => 0)))])) := hD
  refine k_put (ty := tyX1 8) (v := .ref q4) G hin inGX1 tyX1_ok nmX1 (k := 8) rfl (by decide) fl_X1_21 rfl rfl rfl rfl rfl rfl (Nat.le_of_ble_eq_true rfl) hP hD hS dX1_init_29 (fun H locs hP hD hS => ?_)
  replace hP : va_P D classes ((h0, .inr (1, [.int 0, .int 0, .int 0, .int 0, .int 0, .ref q1, .ref q2, .ref q3, .ref q4])) :: (((([] ++ [(q1, .inl (cA, 3, .inl (fun _ => 0)))]) ++ [(q2, .inl (cA, 3, .inl (fun _ => 0)))]) ++ [(q3, .inl (cA, 3, .inl (fun _ => 0)))]) ++ [(q4, .inl (cA, 3, .inl (fun _ => 0)))])) _ := hP
  replace hD : va_D (KA h0 s.heap.size) ((h0, .inr (1, [.int 0, .int 0, .int 0, .int 0, .int 0, .ref q1, .ref q2, .ref q3, .ref q4])) :: (((([] ++ [(q1, .inl (cA, 3, .inl (fun _ => 0)))]) ++ [(q2, .inl (cA, 3, .inl (fun _ => 0)))]) ++ [(q3, .inl (cA, 3, .inl (fun _ => 0)))]) ++ [(q4, .inl (cA, 3, .inl (fun _ => 0)))])) := hD
  have heq : ((h0, .inr (1, [.int 0, .int 0, .int 0, .int 0, .int 0, .ref q1, .ref q2, .ref q3, .ref q4])) :: (((([] ++ [(q1, .inl (cA, 3, .inl (fun _ => 0)))]) ++ [(q2, .inl (cA, 3, .inl (fun _ => 0)))]) ++ [(q3, .inl (cA, 3, .inl (fun _ => 0)))]) ++ [(q4, .inl (cA, 3, .inl (fun _ => 0)))]) : va_W) = wsO 5 shX1 (fun i => ([h0, q1, q2, q3, q4] : List Nat).getD i 0) cA wX1 := to_wsO rfl (fun k hk => match k, hk with
    | 0, _ => rfl
    | 1, _ => rfl
    | 2, _ => rfl
    | 3, _ => rfl
    | 4, _ => rfl
    | q + 5, h => absurd h (by omega))
  rw [heq] at hP hD
  exact k_ret (ad := (fun i => ([h0, q1, q2, q3, q4] : List Nat).getD i 0)) G hr hlocks rfl hP hD hS dX1_init_32
set_option maxHeartbeats 4000000 in
set_option maxRecDepth 20000 in
theorem k_X2 {l : Launch} {D : va_G} {cA : ClassId} {sa : Nat → Nat} {h0 sz : Nat} : KMet l D cA sa h0 sz 2 [.null, .int 0] yX2_init cX2_init 1 2 50 2 31 [] 3 shX2 wX2 := by
  refine k_enter (by decide) (Nat.le_of_ble_eq_true rfl) ?_
  intro p e s m args below meth c ls hsz G hr hlocks hin hP hD hl
  replace hl : lv_has ls 1 [(0, .ref h0)] := hl
  replace G : Kx D cA sa (KA h0 s.heap.size) p s m args meth c RX2 cX2_init 1 := G
  obtain ⟨hx, hb, hml, hown, hg, hK, -⟩ := id G
  have hS : va_S (KA h0 s.heap.size) s.heap s.heap [] := va_S.rf
  refine lv_aload_n hx hb dX2_init_0 rfl (lv_at hl 0 rfl) ?_
  refine k_obj G ko_X2 oi_i oi_c hl.1 dX2_init_1 (Nat.le_of_ble_eq_true rfl) (Nat.le_of_ble_eq_true rfl) ?_
  refine lv_aload_n hx hb dX2_init_4 rfl (lv_at hl 0 rfl) ?_
  refine k_new G inGX4 tyX4 tyX4_ok kk_X2_9 ki_X4 kn_X4 (ci := 4) rfl kd_X4 hP hD hS (Nat.le_of_ble_eq_true rfl) (Nat.le_of_ble_eq_true rfl) dX2_init_5 (fun q1 H hP hD hS => ?_)
  refine lv_dup hx hb dX2_init_8 rfl ?_
  refine lv_bipush (v := (7 : Int32)) hx hb dX2_init_9 (by decide) ?_
  refine k_ctor (ws := (h0, .inr (2, [.null, .int 0])) :: []) (rest := [.ref q1, .ref h0]) G hP hD hS (k_X4 (N := 28) (by decide) (by decide) (by decide)) my_X4_init rfl kl_X2_11 ⟨Nat.le_of_ble_eq_true rfl, Nat.le_of_ble_eq_true rfl⟩ rfl hl.1 rfl (Nat.le_of_ble_eq_true rfl) dX2_init_11 ⟨Nat.le_of_ble_eq_true rfl, Nat.le_of_ble_eq_true rfl⟩ (fun ad2 H1 locs1 ead2 hP1 hD1 hS1 => ?_)
  clear hP hD hS
  subst ead2
  have hP : va_P D classes ((h0, .inr (2, [.null, .int 0])) :: ([] ++ wsO 2 (shX4 28) ad2 cA (wX4 (imax 0 (7 : Int32))))) H1 := hP1
  have hD : va_D (KA h0 s.heap.size) ((h0, .inr (2, [.null, .int 0])) :: ([] ++ wsO 2 (shX4 28) ad2 cA (wX4 (imax 0 (7 : Int32))))) := hD1
  have hS := hS1
  clear hP1 hD1 hS1
  refine k_put (ty := tyX2 0) (v := .ref (ad2 0)) G hin inGX2 tyX2_ok nmX2 (k := 0) rfl (by decide) fl_X2_14 rfl rfl rfl rfl rfl rfl (Nat.le_of_ble_eq_true rfl) hP hD hS dX2_init_14 (fun H locs hP hD hS => ?_)
  replace hP : va_P D classes ((h0, .inr (2, [.ref (ad2 0), .int 0])) :: ([] ++ wsO 2 (shX4 28) ad2 cA (wX4 (imax 0 (7 : Int32))))) _ := hP
  replace hD : va_D (KA h0 s.heap.size) ((h0, .inr (2, [.ref (ad2 0), .int 0])) :: ([] ++ wsO 2 (shX4 28) ad2 cA (wX4 (imax 0 (7 : Int32))))) := hD
  have heq : ((h0, .inr (2, [.ref (ad2 0), .int 0])) :: ([] ++ wsO 2 (shX4 28) ad2 cA (wX4 (imax 0 (7 : Int32)))) : va_W) = wsO 3 shX2 (fun i => ([h0, ad2 0, ad2 1] : List Nat).getD i 0) cA wX2 := to_wsO rfl (fun k hk => match k, hk with
    | 0, _ => rfl
    | 1, _ => rfl
    | 2, _ => rfl
    | q + 3, h => absurd h (by omega))
  rw [heq] at hP hD
  exact k_ret (ad := (fun i => ([h0, ad2 0, ad2 1] : List Nat).getD i 0)) G hr hlocks rfl hP hD hS dX2_init_17
set_option maxHeartbeats 4000000 in
set_option maxRecDepth 20000 in
theorem k_X3 {l : Launch} {D : va_G} {cA : ClassId} {sa : Nat → Nat} {h0 sz : Nat} : KMet l D cA sa h0 sz 3 [.null, .null, .null, .null, .int 0, .int 0] yX3_init cX3_init 1 3 70 6 42 [] 7 shX3 wX3 := by
  refine k_enter (by decide) (Nat.le_of_ble_eq_true rfl) ?_
  intro p e s m args below meth c ls hsz G hr hlocks hin hP hD hl
  replace hl : lv_has ls 1 [(0, .ref h0)] := hl
  replace G : Kx D cA sa (KA h0 s.heap.size) p s m args meth c RX3 cX3_init 1 := G
  obtain ⟨hx, hb, hml, hown, hg, hK, -⟩ := id G
  have hS : va_S (KA h0 s.heap.size) s.heap s.heap [] := va_S.rf
  refine lv_aload_n hx hb dX3_init_0 rfl (lv_at hl 0 rfl) ?_
  refine k_obj G ko_X3 oi_i oi_c hl.1 dX3_init_1 (Nat.le_of_ble_eq_true rfl) (Nat.le_of_ble_eq_true rfl) ?_
  refine lv_aload_n hx hb dX3_init_4 rfl (lv_at hl 0 rfl) ?_
  refine k_new G inGX2 tyX2 tyX2_ok kk_X3_9 ki_X2 kn_X2 (ci := 2) rfl kd_X2 hP hD hS (Nat.le_of_ble_eq_true rfl) (Nat.le_of_ble_eq_true rfl) dX3_init_5 (fun q1 H hP hD hS => ?_)
  refine lv_dup hx hb dX3_init_8 rfl ?_
  refine k_ctorN (host := "DriveTicks") (ws := (h0, .inr (3, [.null, .null, .null, .null, .int 0, .int 0])) :: []) (rest := [.ref q1, .ref h0]) G hP hD hS k_X2 my_X2_init rfl (by decide) ⟨Nat.le_of_ble_eq_true rfl, Nat.le_of_ble_eq_true rfl⟩ rfl hl.1 rfl (Nat.le_of_ble_eq_true rfl) dX3_init_9 ⟨Nat.le_of_ble_eq_true rfl, Nat.le_of_ble_eq_true rfl⟩ (fun ad2 H1 locs1 ead2 hP1 hD1 hS1 => ?_)
  clear hP hD hS
  subst ead2
  have hP : va_P D classes ((h0, .inr (3, [.null, .null, .null, .null, .int 0, .int 0])) :: ([] ++ wsO 3 shX2 ad2 cA wX2)) H1 := hP1
  have hD : va_D (KA h0 s.heap.size) ((h0, .inr (3, [.null, .null, .null, .null, .int 0, .int 0])) :: ([] ++ wsO 3 shX2 ad2 cA wX2)) := hD1
  have hS := hS1
  clear hP1 hD1 hS1
  refine k_put (ty := tyX3 0) (v := .ref (ad2 0)) G hin inGX3 tyX3_ok nmX3 (k := 0) rfl (by decide) fl_X3_12 rfl rfl rfl rfl rfl rfl (Nat.le_of_ble_eq_true rfl) hP hD hS dX3_init_12 (fun H locs hP hD hS => ?_)
  replace hP : va_P D classes ((h0, .inr (3, [.ref (ad2 0), .null, .null, .null, .int 0, .int 0])) :: ([] ++ wsO 3 shX2 ad2 cA wX2)) _ := hP
  replace hD : va_D (KA h0 s.heap.size) ((h0, .inr (3, [.ref (ad2 0), .null, .null, .null, .int 0, .int 0])) :: ([] ++ wsO 3 shX2 ad2 cA wX2)) := hD
  refine lv_aload_n hx hb dX3_init_15 rfl (lv_at hl 0 rfl) ?_
  refine lv_iconst (v := (3 : Int32)) hx hb dX3_init_16 (by decide) ?_
  refine k_newa G ac_int hP hD hS (by decide) rfl (by decide) (Nat.le_of_ble_eq_true rfl) (Nat.le_of_ble_eq_true rfl) dX3_init_17 (fun q3 H hP hD hS => ?_)
  replace hP : va_P D classes ((h0, .inr (3, [.ref (ad2 0), .null, .null, .null, .int 0, .int 0])) :: (([] ++ wsO 3 shX2 ad2 cA wX2) ++ [(q3, .inl (cA, 3, .inl (fun _ => 0)))])) _ := hP
  replace hD : va_D (KA h0 s.heap.size) ((h0, .inr (3, [.ref (ad2 0), .null, .null, .null, .int 0, .int 0])) :: (([] ++ wsO 3 shX2 ad2 cA wX2) ++ [(q3, .inl (cA, 3, .inl (fun _ => 0)))])) := hD
  refine k_put (ty := tyX3 1) (v := .ref q3) G hin inGX3 tyX3_ok nmX3 (k := 1) rfl (by decide) fl_X3_18 rfl rfl rfl rfl rfl rfl (Nat.le_of_ble_eq_true rfl) hP hD hS dX3_init_19 (fun H locs hP hD hS => ?_)
  replace hP : va_P D classes ((h0, .inr (3, [.ref (ad2 0), .ref q3, .null, .null, .int 0, .int 0])) :: (([] ++ wsO 3 shX2 ad2 cA wX2) ++ [(q3, .inl (cA, 3, .inl (fun _ => 0)))])) _ := hP
  replace hD : va_D (KA h0 s.heap.size) ((h0, .inr (3, [.ref (ad2 0), .ref q3, .null, .null, .int 0, .int 0])) :: (([] ++ wsO 3 shX2 ad2 cA wX2) ++ [(q3, .inl (cA, 3, .inl (fun _ => 0)))])) := hD
  refine lv_aload_n hx hb dX3_init_22 rfl (lv_at hl 0 rfl) ?_
  refine lv_iconst (v := (3 : Int32)) hx hb dX3_init_23 (by decide) ?_
  refine k_newa G ac_int hP hD hS (by decide) rfl (by decide) (Nat.le_of_ble_eq_true rfl) (Nat.le_of_ble_eq_true rfl) dX3_init_24 (fun q4 H hP hD hS => ?_)
  replace hP : va_P D classes ((h0, .inr (3, [.ref (ad2 0), .ref q3, .null, .null, .int 0, .int 0])) :: ((([] ++ wsO 3 shX2 ad2 cA wX2) ++ [(q3, .inl (cA, 3, .inl (fun _ => 0)))]) ++ [(q4, .inl (cA, 3, .inl (fun _ => 0)))])) _ := hP
  replace hD : va_D (KA h0 s.heap.size) ((h0, .inr (3, [.ref (ad2 0), .ref q3, .null, .null, .int 0, .int 0])) :: ((([] ++ wsO 3 shX2 ad2 cA wX2) ++ [(q3, .inl (cA, 3, .inl (fun _ => 0)))]) ++ [(q4, .inl (cA, 3, .inl (fun _ => 0)))])) := hD
  refine k_put (ty := tyX3 2) (v := .ref q4) G hin inGX3 tyX3_ok nmX3 (k := 2) rfl (by decide) fl_X3_22 rfl rfl rfl rfl rfl rfl (Nat.le_of_ble_eq_true rfl) hP hD hS dX3_init_26 (fun H locs hP hD hS => ?_)
  replace hP : va_P D classes ((h0, .inr (3, [.ref (ad2 0), .ref q3, .ref q4, .null, .int 0, .int 0])) :: ((([] ++ wsO 3 shX2 ad2 cA wX2) ++ [(q3, .inl (cA, 3, .inl (fun _ => 0)))]) ++ [(q4, .inl (cA, 3, .inl (fun _ => 0)))])) _ := hP
  replace hD : va_D (KA h0 s.heap.size) ((h0, .inr (3, [.ref (ad2 0), .ref q3, .ref q4, .null, .int 0, .int 0])) :: ((([] ++ wsO 3 shX2 ad2 cA wX2) ++ [(q3, .inl (cA, 3, .inl (fun _ => 0)))]) ++ [(q4, .inl (cA, 3, .inl (fun _ => 0)))])) := hD
  refine lv_aload_n hx hb dX3_init_29 rfl (lv_at hl 0 rfl) ?_
  refine lv_iconst (v := (3 : Int32)) hx hb dX3_init_30 (by decide) ?_
  refine k_newa G ac_int hP hD hS (by decide) rfl (by decide) (Nat.le_of_ble_eq_true rfl) (Nat.le_of_ble_eq_true rfl) dX3_init_31 (fun q5 H hP hD hS => ?_)
  replace hP : va_P D classes ((h0, .inr (3, [.ref (ad2 0), .ref q3, .ref q4, .null, .int 0, .int 0])) :: (((([] ++ wsO 3 shX2 ad2 cA wX2) ++ [(q3, .inl (cA, 3, .inl (fun _ => 0)))]) ++ [(q4, .inl (cA, 3, .inl (fun _ => 0)))]) ++ [(q5, .inl (cA, 3, .inl (fun _ => 0)))])) _ := hP
  replace hD : va_D (KA h0 s.heap.size) ((h0, .inr (3, [.ref (ad2 0), .ref q3, .ref q4, .null, .int 0, .int 0])) :: (((([] ++ wsO 3 shX2 ad2 cA wX2) ++ [(q3, .inl (cA, 3, .inl (fun _ => 0)))]) ++ [(q4, .inl (cA, 3, .inl (fun _ => 0)))]) ++ [(q5, .inl (cA, 3, .inl (fun _ => 0)))])) := hD
  refine k_put (ty := tyX3 3) (v := .ref q5) G hin inGX3 tyX3_ok nmX3 (k := 3) rfl (by decide) fl_X3_25 rfl rfl rfl rfl rfl rfl (Nat.le_of_ble_eq_true rfl) hP hD hS dX3_init_33 (fun H locs hP hD hS => ?_)
  replace hP : va_P D classes ((h0, .inr (3, [.ref (ad2 0), .ref q3, .ref q4, .ref q5, .int 0, .int 0])) :: (((([] ++ wsO 3 shX2 ad2 cA wX2) ++ [(q3, .inl (cA, 3, .inl (fun _ => 0)))]) ++ [(q4, .inl (cA, 3, .inl (fun _ => 0)))]) ++ [(q5, .inl (cA, 3, .inl (fun _ => 0)))])) _ := hP
  replace hD : va_D (KA h0 s.heap.size) ((h0, .inr (3, [.ref (ad2 0), .ref q3, .ref q4, .ref q5, .int 0, .int 0])) :: (((([] ++ wsO 3 shX2 ad2 cA wX2) ++ [(q3, .inl (cA, 3, .inl (fun _ => 0)))]) ++ [(q4, .inl (cA, 3, .inl (fun _ => 0)))]) ++ [(q5, .inl (cA, 3, .inl (fun _ => 0)))])) := hD
  have heq : ((h0, .inr (3, [.ref (ad2 0), .ref q3, .ref q4, .ref q5, .int 0, .int 0])) :: (((([] ++ wsO 3 shX2 ad2 cA wX2) ++ [(q3, .inl (cA, 3, .inl (fun _ => 0)))]) ++ [(q4, .inl (cA, 3, .inl (fun _ => 0)))]) ++ [(q5, .inl (cA, 3, .inl (fun _ => 0)))]) : va_W) = wsO 7 shX3 (fun i => ([h0, ad2 0, ad2 1, ad2 2, q3, q4, q5] : List Nat).getD i 0) cA wX3 := to_wsO rfl (fun k hk => match k, hk with
    | 0, _ => rfl
    | 1, _ => rfl
    | 2, _ => rfl
    | 3, _ => rfl
    | 4, _ => rfl
    | 5, _ => rfl
    | 6, _ => rfl
    | q + 7, h => absurd h (by omega))
  rw [heq] at hP hD
  exact k_ret (ad := (fun i => ([h0, ad2 0, ad2 1, ad2 2, q3, q4, q5] : List Nat).getD i 0)) G hr hlocks rfl hP hD hS dX3_init_36
set_option maxHeartbeats 4000000 in
set_option maxRecDepth 20000 in
theorem k_X5 {l : Launch} {D : va_G} {cA : ClassId} {sa : Nat → Nat} {h0 sz : Nat} : KMet l D cA sa h0 sz 5 [.null, .null, .int 0, .int 0, .int 0] yX5_init cX5_init 1 2 50 3 171 [] 4 shX5 wX5 := by
  refine k_enter (by decide) (Nat.le_of_ble_eq_true rfl) ?_
  intro p e s m args below meth c ls hsz G hr hlocks hin hP hD hl
  replace hl : lv_has ls 1 [(0, .ref h0)] := hl
  replace G : Kx D cA sa (KA h0 s.heap.size) p s m args meth c RX5 cX5_init 1 := G
  obtain ⟨hx, hb, hml, hown, hg, hK, -⟩ := id G
  have hS : va_S (KA h0 s.heap.size) s.heap s.heap [] := va_S.rf
  refine lv_aload_n hx hb dX5_init_0 rfl (lv_at hl 0 rfl) ?_
  refine k_obj G ko_X5 oi_i oi_c hl.1 dX5_init_1 (Nat.le_of_ble_eq_true rfl) (Nat.le_of_ble_eq_true rfl) ?_
  refine lv_aload_n hx hb dX5_init_4 rfl (lv_at hl 0 rfl) ?_
  refine lv_bipush (v := (120 : Int32)) hx hb dX5_init_5 (by decide) ?_
  refine k_newa G ac_int hP hD hS (by decide) rfl (by decide) (Nat.le_of_ble_eq_true rfl) (Nat.le_of_ble_eq_true rfl) dX5_init_7 (fun q1 H hP hD hS => ?_)
  replace hP : va_P D classes ((h0, .inr (5, [.null, .null, .int 0, .int 0, .int 0])) :: ([] ++ [(q1, .inl (cA, 120, .inl (fun _ => 0)))])) _ := hP
  replace hD : va_D (KA h0 s.heap.size) ((h0, .inr (5, [.null, .null, .int 0, .int 0, .int 0])) :: ([] ++ [(q1, .inl (cA, 120, .inl (fun _ => 0)))])) := hD
  refine k_put (ty := tyX5 0) (v := .ref q1) G hin inGX5 tyX5_ok nmX5 (k := 0) rfl (by decide) fl_X5_9 rfl rfl rfl rfl rfl rfl (Nat.le_of_ble_eq_true rfl) hP hD hS dX5_init_9 (fun H locs hP hD hS => ?_)
  replace hP : va_P D classes ((h0, .inr (5, [.ref q1, .null, .int 0, .int 0, .int 0])) :: ([] ++ [(q1, .inl (cA, 120, .inl (fun _ => 0)))])) _ := hP
  replace hD : va_D (KA h0 s.heap.size) ((h0, .inr (5, [.ref q1, .null, .int 0, .int 0, .int 0])) :: ([] ++ [(q1, .inl (cA, 120, .inl (fun _ => 0)))])) := hD
  refine lv_aload_n hx hb dX5_init_12 rfl (lv_at hl 0 rfl) ?_
  refine k_new G inGX4 tyX4 tyX4_ok kk_X5_15 ki_X4 kn_X4 (ci := 4) rfl kd_X4 hP hD hS (Nat.le_of_ble_eq_true rfl) (Nat.le_of_ble_eq_true rfl) dX5_init_13 (fun q2 H hP hD hS => ?_)
  refine lv_dup hx hb dX5_init_16 rfl ?_
  refine lv_bipush (v := (12 : Int32)) hx hb dX5_init_17 (by decide) ?_
  refine k_ctor (ws := (h0, .inr (5, [.ref q1, .null, .int 0, .int 0, .int 0])) :: ([] ++ [(q1, .inl (cA, 120, .inl (fun _ => 0)))])) (rest := [.ref q2, .ref h0]) G hP hD hS (k_X4 (N := 48) (by decide) (by decide) (by decide)) my_X4_init rfl kl_X5_17 ⟨Nat.le_of_ble_eq_true rfl, Nat.le_of_ble_eq_true rfl⟩ rfl hl.1 rfl (Nat.le_of_ble_eq_true rfl) dX5_init_19 ⟨Nat.le_of_ble_eq_true rfl, Nat.le_of_ble_eq_true rfl⟩ (fun ad3 H1 locs1 ead3 hP1 hD1 hS1 => ?_)
  clear hP hD hS
  subst ead3
  have hP : va_P D classes ((h0, .inr (5, [.ref q1, .null, .int 0, .int 0, .int 0])) :: (([] ++ [(q1, .inl (cA, 120, .inl (fun _ => 0)))]) ++ wsO 2 (shX4 48) ad3 cA (wX4 (imax 0 (12 : Int32))))) H1 := hP1
  have hD : va_D (KA h0 s.heap.size) ((h0, .inr (5, [.ref q1, .null, .int 0, .int 0, .int 0])) :: (([] ++ [(q1, .inl (cA, 120, .inl (fun _ => 0)))]) ++ wsO 2 (shX4 48) ad3 cA (wX4 (imax 0 (12 : Int32))))) := hD1
  have hS := hS1
  clear hP1 hD1 hS1
  refine k_put (ty := tyX5 1) (v := .ref (ad3 0)) G hin inGX5 tyX5_ok nmX5 (k := 1) rfl (by decide) fl_X5_20 rfl rfl rfl rfl rfl rfl (Nat.le_of_ble_eq_true rfl) hP hD hS dX5_init_22 (fun H locs hP hD hS => ?_)
  replace hP : va_P D classes ((h0, .inr (5, [.ref q1, .ref (ad3 0), .int 0, .int 0, .int 0])) :: (([] ++ [(q1, .inl (cA, 120, .inl (fun _ => 0)))]) ++ wsO 2 (shX4 48) ad3 cA (wX4 (imax 0 (12 : Int32))))) _ := hP
  replace hD : va_D (KA h0 s.heap.size) ((h0, .inr (5, [.ref q1, .ref (ad3 0), .int 0, .int 0, .int 0])) :: (([] ++ [(q1, .inl (cA, 120, .inl (fun _ => 0)))]) ++ wsO 2 (shX4 48) ad3 cA (wX4 (imax 0 (12 : Int32))))) := hD
  have heq : ((h0, .inr (5, [.ref q1, .ref (ad3 0), .int 0, .int 0, .int 0])) :: (([] ++ [(q1, .inl (cA, 120, .inl (fun _ => 0)))]) ++ wsO 2 (shX4 48) ad3 cA (wX4 (imax 0 (12 : Int32)))) : va_W) = wsO 4 shX5 (fun i => ([h0, q1, ad3 0, ad3 1] : List Nat).getD i 0) cA wX5 := to_wsO rfl (fun k hk => match k, hk with
    | 0, _ => rfl
    | 1, _ => rfl
    | 2, _ => rfl
    | 3, _ => rfl
    | q + 4, h => absurd h (by omega))
  rw [heq] at hP hD
  exact k_ret (ad := (fun i => ([h0, q1, ad3 0, ad3 1] : List Nat).getD i 0)) G hr hlocks rfl hP hD hS dX5_init_25
set_option maxHeartbeats 4000000 in
set_option maxRecDepth 20000 in
theorem k_X0 {l : Launch} {D : va_G} {cA : ClassId} {sa : Nat → Nat} {h0 sz : Nat} : KMet l D cA sa h0 sz 0 [.null, .null, .null, .null, .null, .null, .null, .int 0] yX0_init cX0_init 1 4 85 12 91 [] 13 shX0 wX0 := by
  refine k_enter (by decide) (Nat.le_of_ble_eq_true rfl) ?_
  intro p e s m args below meth c ls hsz G hr hlocks hin hP hD hl
  replace hl : lv_has ls 1 [(0, .ref h0)] := hl
  replace G : Kx D cA sa (KA h0 s.heap.size) p s m args meth c RX0 cX0_init 1 := G
  obtain ⟨hx, hb, hml, hown, hg, hK, -⟩ := id G
  have hS : va_S (KA h0 s.heap.size) s.heap s.heap [] := va_S.rf
  refine lv_aload_n hx hb dX0_init_0 rfl (lv_at hl 0 rfl) ?_
  refine k_obj G ko_X0 oi_i oi_c hl.1 dX0_init_1 (Nat.le_of_ble_eq_true rfl) (Nat.le_of_ble_eq_true rfl) ?_
  refine lv_aload_n hx hb dX0_init_4 rfl (lv_at hl 0 rfl) ?_
  refine lv_bipush (v := (7 : Int32)) hx hb dX0_init_5 (by decide) ?_
  refine k_newa G ac_int hP hD hS (by decide) rfl (by decide) (Nat.le_of_ble_eq_true rfl) (Nat.le_of_ble_eq_true rfl) dX0_init_7 (fun q1 H hP hD hS => ?_)
  replace hP : va_P D classes ((h0, .inr (0, [.null, .null, .null, .null, .null, .null, .null, .int 0])) :: ([] ++ [(q1, .inl (cA, 7, .inl (fun _ => 0)))])) _ := hP
  replace hD : va_D (KA h0 s.heap.size) ((h0, .inr (0, [.null, .null, .null, .null, .null, .null, .null, .int 0])) :: ([] ++ [(q1, .inl (cA, 7, .inl (fun _ => 0)))])) := hD
  refine k_put (ty := tyX0 0) (v := .ref q1) G hin inGX0 tyX0_ok nmX0 (k := 0) rfl (by decide) fl_X0_9 rfl rfl rfl rfl rfl rfl (Nat.le_of_ble_eq_true rfl) hP hD hS dX0_init_9 (fun H locs hP hD hS => ?_)
  replace hP : va_P D classes ((h0, .inr (0, [.ref q1, .null, .null, .null, .null, .null, .null, .int 0])) :: ([] ++ [(q1, .inl (cA, 7, .inl (fun _ => 0)))])) _ := hP
  replace hD : va_D (KA h0 s.heap.size) ((h0, .inr (0, [.ref q1, .null, .null, .null, .null, .null, .null, .int 0])) :: ([] ++ [(q1, .inl (cA, 7, .inl (fun _ => 0)))])) := hD
  refine lv_aload_n hx hb dX0_init_12 rfl (lv_at hl 0 rfl) ?_
  refine lv_iconst (v := (3 : Int32)) hx hb dX0_init_13 (by decide) ?_
  refine k_newa G ac_int hP hD hS (by decide) rfl (by decide) (Nat.le_of_ble_eq_true rfl) (Nat.le_of_ble_eq_true rfl) dX0_init_14 (fun q2 H hP hD hS => ?_)
  replace hP : va_P D classes ((h0, .inr (0, [.ref q1, .null, .null, .null, .null, .null, .null, .int 0])) :: (([] ++ [(q1, .inl (cA, 7, .inl (fun _ => 0)))]) ++ [(q2, .inl (cA, 3, .inl (fun _ => 0)))])) _ := hP
  replace hD : va_D (KA h0 s.heap.size) ((h0, .inr (0, [.ref q1, .null, .null, .null, .null, .null, .null, .int 0])) :: (([] ++ [(q1, .inl (cA, 7, .inl (fun _ => 0)))]) ++ [(q2, .inl (cA, 3, .inl (fun _ => 0)))])) := hD
  refine k_put (ty := tyX0 1) (v := .ref q2) G hin inGX0 tyX0_ok nmX0 (k := 1) rfl (by decide) fl_X0_15 rfl rfl rfl rfl rfl rfl (Nat.le_of_ble_eq_true rfl) hP hD hS dX0_init_16 (fun H locs hP hD hS => ?_)
  replace hP : va_P D classes ((h0, .inr (0, [.ref q1, .ref q2, .null, .null, .null, .null, .null, .int 0])) :: (([] ++ [(q1, .inl (cA, 7, .inl (fun _ => 0)))]) ++ [(q2, .inl (cA, 3, .inl (fun _ => 0)))])) _ := hP
  replace hD : va_D (KA h0 s.heap.size) ((h0, .inr (0, [.ref q1, .ref q2, .null, .null, .null, .null, .null, .int 0])) :: (([] ++ [(q1, .inl (cA, 7, .inl (fun _ => 0)))]) ++ [(q2, .inl (cA, 3, .inl (fun _ => 0)))])) := hD
  refine lv_aload_n hx hb dX0_init_19 rfl (lv_at hl 0 rfl) ?_
  refine lv_iconst (v := (3 : Int32)) hx hb dX0_init_20 (by decide) ?_
  refine k_newa G ac_int hP hD hS (by decide) rfl (by decide) (Nat.le_of_ble_eq_true rfl) (Nat.le_of_ble_eq_true rfl) dX0_init_21 (fun q3 H hP hD hS => ?_)
  replace hP : va_P D classes ((h0, .inr (0, [.ref q1, .ref q2, .null, .null, .null, .null, .null, .int 0])) :: ((([] ++ [(q1, .inl (cA, 7, .inl (fun _ => 0)))]) ++ [(q2, .inl (cA, 3, .inl (fun _ => 0)))]) ++ [(q3, .inl (cA, 3, .inl (fun _ => 0)))])) _ := hP
  replace hD : va_D (KA h0 s.heap.size) ((h0, .inr (0, [.ref q1, .ref q2, .null, .null, .null, .null, .null, .int 0])) :: ((([] ++ [(q1, .inl (cA, 7, .inl (fun _ => 0)))]) ++ [(q2, .inl (cA, 3, .inl (fun _ => 0)))]) ++ [(q3, .inl (cA, 3, .inl (fun _ => 0)))])) := hD
  refine k_put (ty := tyX0 2) (v := .ref q3) G hin inGX0 tyX0_ok nmX0 (k := 2) rfl (by decide) fl_X0_18 rfl rfl rfl rfl rfl rfl (Nat.le_of_ble_eq_true rfl) hP hD hS dX0_init_23 (fun H locs hP hD hS => ?_)
  replace hP : va_P D classes ((h0, .inr (0, [.ref q1, .ref q2, .ref q3, .null, .null, .null, .null, .int 0])) :: ((([] ++ [(q1, .inl (cA, 7, .inl (fun _ => 0)))]) ++ [(q2, .inl (cA, 3, .inl (fun _ => 0)))]) ++ [(q3, .inl (cA, 3, .inl (fun _ => 0)))])) _ := hP
  replace hD : va_D (KA h0 s.heap.size) ((h0, .inr (0, [.ref q1, .ref q2, .ref q3, .null, .null, .null, .null, .int 0])) :: ((([] ++ [(q1, .inl (cA, 7, .inl (fun _ => 0)))]) ++ [(q2, .inl (cA, 3, .inl (fun _ => 0)))]) ++ [(q3, .inl (cA, 3, .inl (fun _ => 0)))])) := hD
  refine lv_aload_n hx hb dX0_init_26 rfl (lv_at hl 0 rfl) ?_
  refine lv_iconst (v := (3 : Int32)) hx hb dX0_init_27 (by decide) ?_
  refine k_newa G ac_int hP hD hS (by decide) rfl (by decide) (Nat.le_of_ble_eq_true rfl) (Nat.le_of_ble_eq_true rfl) dX0_init_28 (fun q4 H hP hD hS => ?_)
  replace hP : va_P D classes ((h0, .inr (0, [.ref q1, .ref q2, .ref q3, .null, .null, .null, .null, .int 0])) :: (((([] ++ [(q1, .inl (cA, 7, .inl (fun _ => 0)))]) ++ [(q2, .inl (cA, 3, .inl (fun _ => 0)))]) ++ [(q3, .inl (cA, 3, .inl (fun _ => 0)))]) ++ [(q4, .inl (cA, 3, .inl (fun _ => 0)))])) _ := hP
  replace hD : va_D (KA h0 s.heap.size) ((h0, .inr (0, [.ref q1, .ref q2, .ref q3, .null, .null, .null, .null, .int 0])) :: (((([] ++ [(q1, .inl (cA, 7, .inl (fun _ => 0)))]) ++ [(q2, .inl (cA, 3, .inl (fun _ => 0)))]) ++ [(q3, .inl (cA, 3, .inl (fun _ => 0)))]) ++ [(q4, .inl (cA, 3, .inl (fun _ => 0)))])) := hD
  refine k_put (ty := tyX0 3) (v := .ref q4) G hin inGX0 tyX0_ok nmX0 (k := 3) rfl (by decide) fl_X0_21 rfl rfl rfl rfl rfl rfl (Nat.le_of_ble_eq_true rfl) hP hD hS dX0_init_30 (fun H locs hP hD hS => ?_)
  replace hP : va_P D classes ((h0, .inr (0, [.ref q1, .ref q2, .ref q3, .ref q4, .null, .null, .null, .int 0])) :: (((([] ++ [(q1, .inl (cA, 7, .inl (fun _ => 0)))]) ++ [(q2, .inl (cA, 3, .inl (fun _ => 0)))]) ++ [(q3, .inl (cA, 3, .inl (fun _ => 0)))]) ++ [(q4, .inl (cA, 3, .inl (fun _ => 0)))])) _ := hP
  replace hD : va_D (KA h0 s.heap.size) ((h0, .inr (0, [.ref q1, .ref q2, .ref q3, .ref q4, .null, .null, .null, .int 0])) :: (((([] ++ [(q1, .inl (cA, 7, .inl (fun _ => 0)))]) ++ [(q2, .inl (cA, 3, .inl (fun _ => 0)))]) ++ [(q3, .inl (cA, 3, .inl (fun _ => 0)))]) ++ [(q4, .inl (cA, 3, .inl (fun _ => 0)))])) := hD
  refine lv_aload_n hx hb dX0_init_33 rfl (lv_at hl 0 rfl) ?_
  refine lv_iconst (v := (3 : Int32)) hx hb dX0_init_34 (by decide) ?_
  refine k_newa G ac_int hP hD hS (by decide) rfl (by decide) (Nat.le_of_ble_eq_true rfl) (Nat.le_of_ble_eq_true rfl) dX0_init_35 (fun q5 H hP hD hS => ?_)
  replace hP : va_P D classes ((h0, .inr (0, [.ref q1, .ref q2, .ref q3, .ref q4, .null, .null, .null, .int 0])) :: ((((([] ++ [(q1, .inl (cA, 7, .inl (fun _ => 0)))]) ++ [(q2, .inl (cA, 3, .inl (fun _ => 0)))]) ++ [(q3, .inl (cA, 3, .inl (fun _ => 0)))]) ++ [(q4, .inl (cA, 3, .inl (fun _ => 0)))]) ++ [(q5, .inl (cA, 3, .inl (fun _ => 0)))])) _ := hP
  replace hD : va_D (KA h0 s.heap.size) ((h0, .inr (0, [.ref q1, .ref q2, .ref q3, .ref q4, .null, .null, .null, .int 0])) :: ((((([] ++ [(q1, .inl (cA, 7, .inl (fun _ => 0)))]) ++ [(q2, .inl (cA, 3, .inl (fun _ => 0)))]) ++ [(q3, .inl (cA, 3, .inl (fun _ => 0)))]) ++ [(q4, .inl (cA, 3, .inl (fun _ => 0)))]) ++ [(q5, .inl (cA, 3, .inl (fun _ => 0)))])) := hD
  refine k_put (ty := tyX0 4) (v := .ref q5) G hin inGX0 tyX0_ok nmX0 (k := 4) rfl (by decide) fl_X0_24 rfl rfl rfl rfl rfl rfl (Nat.le_of_ble_eq_true rfl) hP hD hS dX0_init_37 (fun H locs hP hD hS => ?_)
  replace hP : va_P D classes ((h0, .inr (0, [.ref q1, .ref q2, .ref q3, .ref q4, .ref q5, .null, .null, .int 0])) :: ((((([] ++ [(q1, .inl (cA, 7, .inl (fun _ => 0)))]) ++ [(q2, .inl (cA, 3, .inl (fun _ => 0)))]) ++ [(q3, .inl (cA, 3, .inl (fun _ => 0)))]) ++ [(q4, .inl (cA, 3, .inl (fun _ => 0)))]) ++ [(q5, .inl (cA, 3, .inl (fun _ => 0)))])) _ := hP
  replace hD : va_D (KA h0 s.heap.size) ((h0, .inr (0, [.ref q1, .ref q2, .ref q3, .ref q4, .ref q5, .null, .null, .int 0])) :: ((((([] ++ [(q1, .inl (cA, 7, .inl (fun _ => 0)))]) ++ [(q2, .inl (cA, 3, .inl (fun _ => 0)))]) ++ [(q3, .inl (cA, 3, .inl (fun _ => 0)))]) ++ [(q4, .inl (cA, 3, .inl (fun _ => 0)))]) ++ [(q5, .inl (cA, 3, .inl (fun _ => 0)))])) := hD
  refine lv_aload_n hx hb dX0_init_40 rfl (lv_at hl 0 rfl) ?_
  refine k_new G inGX4 tyX4 tyX4_ok kk_X0_27 ki_X4 kn_X4 (ci := 4) rfl kd_X4 hP hD hS (Nat.le_of_ble_eq_true rfl) (Nat.le_of_ble_eq_true rfl) dX0_init_41 (fun q6 H hP hD hS => ?_)
  refine lv_dup hx hb dX0_init_44 rfl ?_
  refine lv_bipush (v := (12 : Int32)) hx hb dX0_init_45 (by decide) ?_
  refine k_ctor (ws := (h0, .inr (0, [.ref q1, .ref q2, .ref q3, .ref q4, .ref q5, .null, .null, .int 0])) :: ((((([] ++ [(q1, .inl (cA, 7, .inl (fun _ => 0)))]) ++ [(q2, .inl (cA, 3, .inl (fun _ => 0)))]) ++ [(q3, .inl (cA, 3, .inl (fun _ => 0)))]) ++ [(q4, .inl (cA, 3, .inl (fun _ => 0)))]) ++ [(q5, .inl (cA, 3, .inl (fun _ => 0)))])) (rest := [.ref q6, .ref h0]) G hP hD hS (k_X4 (N := 48) (by decide) (by decide) (by decide)) my_X4_init rfl kl_X0_29 ⟨Nat.le_of_ble_eq_true rfl, Nat.le_of_ble_eq_true rfl⟩ rfl hl.1 rfl (Nat.le_of_ble_eq_true rfl) dX0_init_47 ⟨Nat.le_of_ble_eq_true rfl, Nat.le_of_ble_eq_true rfl⟩ (fun ad7 H1 locs1 ead7 hP1 hD1 hS1 => ?_)
  clear hP hD hS
  subst ead7
  have hP : va_P D classes ((h0, .inr (0, [.ref q1, .ref q2, .ref q3, .ref q4, .ref q5, .null, .null, .int 0])) :: (((((([] ++ [(q1, .inl (cA, 7, .inl (fun _ => 0)))]) ++ [(q2, .inl (cA, 3, .inl (fun _ => 0)))]) ++ [(q3, .inl (cA, 3, .inl (fun _ => 0)))]) ++ [(q4, .inl (cA, 3, .inl (fun _ => 0)))]) ++ [(q5, .inl (cA, 3, .inl (fun _ => 0)))]) ++ wsO 2 (shX4 48) ad7 cA (wX4 (imax 0 (12 : Int32))))) H1 := hP1
  have hD : va_D (KA h0 s.heap.size) ((h0, .inr (0, [.ref q1, .ref q2, .ref q3, .ref q4, .ref q5, .null, .null, .int 0])) :: (((((([] ++ [(q1, .inl (cA, 7, .inl (fun _ => 0)))]) ++ [(q2, .inl (cA, 3, .inl (fun _ => 0)))]) ++ [(q3, .inl (cA, 3, .inl (fun _ => 0)))]) ++ [(q4, .inl (cA, 3, .inl (fun _ => 0)))]) ++ [(q5, .inl (cA, 3, .inl (fun _ => 0)))]) ++ wsO 2 (shX4 48) ad7 cA (wX4 (imax 0 (12 : Int32))))) := hD1
  have hS := hS1
  clear hP1 hD1 hS1
  refine k_put (ty := tyX0 5) (v := .ref (ad7 0)) G hin inGX0 tyX0_ok nmX0 (k := 5) rfl (by decide) fl_X0_32 rfl rfl rfl rfl rfl rfl (Nat.le_of_ble_eq_true rfl) hP hD hS dX0_init_50 (fun H locs hP hD hS => ?_)
  replace hP : va_P D classes ((h0, .inr (0, [.ref q1, .ref q2, .ref q3, .ref q4, .ref q5, .ref (ad7 0), .null, .int 0])) :: (((((([] ++ [(q1, .inl (cA, 7, .inl (fun _ => 0)))]) ++ [(q2, .inl (cA, 3, .inl (fun _ => 0)))]) ++ [(q3, .inl (cA, 3, .inl (fun _ => 0)))]) ++ [(q4, .inl (cA, 3, .inl (fun _ => 0)))]) ++ [(q5, .inl (cA, 3, .inl (fun _ => 0)))]) ++ wsO 2 (shX4 48) ad7 cA (wX4 (imax 0 (12 : Int32))))) _ := hP
  replace hD : va_D (KA h0 s.heap.size) ((h0, .inr (0, [.ref q1, .ref q2, .ref q3, .ref q4, .ref q5, .ref (ad7 0), .null, .int 0])) :: (((((([] ++ [(q1, .inl (cA, 7, .inl (fun _ => 0)))]) ++ [(q2, .inl (cA, 3, .inl (fun _ => 0)))]) ++ [(q3, .inl (cA, 3, .inl (fun _ => 0)))]) ++ [(q4, .inl (cA, 3, .inl (fun _ => 0)))]) ++ [(q5, .inl (cA, 3, .inl (fun _ => 0)))]) ++ wsO 2 (shX4 48) ad7 cA (wX4 (imax 0 (12 : Int32))))) := hD
  refine lv_aload_n hx hb dX0_init_53 rfl (lv_at hl 0 rfl) ?_
  refine k_new G inGX1 tyX1 tyX1_ok kk_X0_36 ki_X1 kn_X1 (ci := 1) rfl kd_X1 hP hD hS (Nat.le_of_ble_eq_true rfl) (Nat.le_of_ble_eq_true rfl) dX0_init_54 (fun q8 H hP hD hS => ?_)
  refine lv_dup hx hb dX0_init_57 rfl ?_
  refine k_ctorN (host := "DriveTicks") (ws := (h0, .inr (0, [.ref q1, .ref q2, .ref q3, .ref q4, .ref q5, .ref (ad7 0), .null, .int 0])) :: (((((([] ++ [(q1, .inl (cA, 7, .inl (fun _ => 0)))]) ++ [(q2, .inl (cA, 3, .inl (fun _ => 0)))]) ++ [(q3, .inl (cA, 3, .inl (fun _ => 0)))]) ++ [(q4, .inl (cA, 3, .inl (fun _ => 0)))]) ++ [(q5, .inl (cA, 3, .inl (fun _ => 0)))]) ++ wsO 2 (shX4 48) ad7 cA (wX4 (imax 0 (12 : Int32))))) (rest := [.ref q8, .ref h0]) G hP hD hS k_X1 my_X1_init rfl (by decide) ⟨Nat.le_of_ble_eq_true rfl, Nat.le_of_ble_eq_true rfl⟩ rfl hl.1 rfl (Nat.le_of_ble_eq_true rfl) dX0_init_58 ⟨Nat.le_of_ble_eq_true rfl, Nat.le_of_ble_eq_true rfl⟩ (fun ad9 H1 locs1 ead9 hP1 hD1 hS1 => ?_)
  clear hP hD hS
  subst ead9
  have hP : va_P D classes ((h0, .inr (0, [.ref q1, .ref q2, .ref q3, .ref q4, .ref q5, .ref (ad7 0), .null, .int 0])) :: ((((((([] ++ [(q1, .inl (cA, 7, .inl (fun _ => 0)))]) ++ [(q2, .inl (cA, 3, .inl (fun _ => 0)))]) ++ [(q3, .inl (cA, 3, .inl (fun _ => 0)))]) ++ [(q4, .inl (cA, 3, .inl (fun _ => 0)))]) ++ [(q5, .inl (cA, 3, .inl (fun _ => 0)))]) ++ wsO 2 (shX4 48) ad7 cA (wX4 (imax 0 (12 : Int32)))) ++ wsO 5 shX1 ad9 cA wX1)) H1 := hP1
  have hD : va_D (KA h0 s.heap.size) ((h0, .inr (0, [.ref q1, .ref q2, .ref q3, .ref q4, .ref q5, .ref (ad7 0), .null, .int 0])) :: ((((((([] ++ [(q1, .inl (cA, 7, .inl (fun _ => 0)))]) ++ [(q2, .inl (cA, 3, .inl (fun _ => 0)))]) ++ [(q3, .inl (cA, 3, .inl (fun _ => 0)))]) ++ [(q4, .inl (cA, 3, .inl (fun _ => 0)))]) ++ [(q5, .inl (cA, 3, .inl (fun _ => 0)))]) ++ wsO 2 (shX4 48) ad7 cA (wX4 (imax 0 (12 : Int32)))) ++ wsO 5 shX1 ad9 cA wX1)) := hD1
  have hS := hS1
  clear hP1 hD1 hS1
  refine k_put (ty := tyX0 6) (v := .ref (ad9 0)) G hin inGX0 tyX0_ok nmX0 (k := 6) rfl (by decide) fl_X0_39 rfl rfl rfl rfl rfl rfl (Nat.le_of_ble_eq_true rfl) hP hD hS dX0_init_61 (fun H locs hP hD hS => ?_)
  replace hP : va_P D classes ((h0, .inr (0, [.ref q1, .ref q2, .ref q3, .ref q4, .ref q5, .ref (ad7 0), .ref (ad9 0), .int 0])) :: ((((((([] ++ [(q1, .inl (cA, 7, .inl (fun _ => 0)))]) ++ [(q2, .inl (cA, 3, .inl (fun _ => 0)))]) ++ [(q3, .inl (cA, 3, .inl (fun _ => 0)))]) ++ [(q4, .inl (cA, 3, .inl (fun _ => 0)))]) ++ [(q5, .inl (cA, 3, .inl (fun _ => 0)))]) ++ wsO 2 (shX4 48) ad7 cA (wX4 (imax 0 (12 : Int32)))) ++ wsO 5 shX1 ad9 cA wX1)) _ := hP
  replace hD : va_D (KA h0 s.heap.size) ((h0, .inr (0, [.ref q1, .ref q2, .ref q3, .ref q4, .ref q5, .ref (ad7 0), .ref (ad9 0), .int 0])) :: ((((((([] ++ [(q1, .inl (cA, 7, .inl (fun _ => 0)))]) ++ [(q2, .inl (cA, 3, .inl (fun _ => 0)))]) ++ [(q3, .inl (cA, 3, .inl (fun _ => 0)))]) ++ [(q4, .inl (cA, 3, .inl (fun _ => 0)))]) ++ [(q5, .inl (cA, 3, .inl (fun _ => 0)))]) ++ wsO 2 (shX4 48) ad7 cA (wX4 (imax 0 (12 : Int32)))) ++ wsO 5 shX1 ad9 cA wX1)) := hD
  refine lv_aload_n hx hb dX0_init_64 rfl (lv_at hl 0 rfl) ?_
  have heq : ((h0, .inr (0, [.ref q1, .ref q2, .ref q3, .ref q4, .ref q5, .ref (ad7 0), .ref (ad9 0), .int 0])) :: ((((((([] ++ [(q1, .inl (cA, 7, .inl (fun _ => 0)))]) ++ [(q2, .inl (cA, 3, .inl (fun _ => 0)))]) ++ [(q3, .inl (cA, 3, .inl (fun _ => 0)))]) ++ [(q4, .inl (cA, 3, .inl (fun _ => 0)))]) ++ [(q5, .inl (cA, 3, .inl (fun _ => 0)))]) ++ wsO 2 (shX4 48) ad7 cA (wX4 (imax 0 (12 : Int32)))) ++ wsO 5 shX1 ad9 cA wX1) : va_W) = wsO 13 shX0 (fun i => ([h0, q1, q2, q3, q4, q5, ad7 0, ad7 1, ad9 0, ad9 1, ad9 2, ad9 3, ad9 4] : List Nat).getD i 0) cA wX0a := to_wsO rfl (fun k hk => match k, hk with
    | 0, _ => rfl
    | 1, _ => rfl
    | 2, _ => rfl
    | 3, _ => rfl
    | 4, _ => rfl
    | 5, _ => rfl
    | 6, _ => rfl
    | 7, _ => rfl
    | 8, _ => rfl
    | 9, _ => rfl
    | 10, _ => rfl
    | 11, _ => rfl
    | 12, _ => rfl
    | q + 13, h => absurd h (by omega))
  rw [heq] at hP hD
  refine k_callV G hP hS hD.ad (c_X0_beginAnew hD.ad isX0_at0 beginAnew_at0) my_X0_beginAnew kl_X0_43 (by decide) rfl rfl ⟨Nat.le_of_ble_eq_true rfl, Nat.le_of_ble_eq_true rfl⟩ hl.1 dX0_init_65 ⟨Nat.le_of_ble_eq_true rfl, Nat.le_of_ble_eq_true rfl⟩ (fun H locs hP hS => ?_)
  replace hD : va_D (KA h0 s.heap.size) (wsO 13 shX0 (fun i => ([h0, q1, q2, q3, q4, q5, ad7 0, ad7 1, ad9 0, ad9 1, ad9 2, ad9 3, ad9 4] : List Nat).getD i 0) cA wX0) := hD.ad.D _ _ _
  exact k_ret (ad := (fun i => ([h0, q1, q2, q3, q4, q5, ad7 0, ad7 1, ad9 0, ad9 1, ad9 2, ad9 3, ad9 4] : List Nat).getD i 0)) G hr hlocks rfl hP hD hS dX0_init_68
