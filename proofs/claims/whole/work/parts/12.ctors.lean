/-! the constructors, by program (wip/gen/gctor.py) -/
def shX4 (N : Nat) : Nat → Shp := fun i => match i with
  | 0 => .inr (4, [none, some 1, none])
  | 1 => .inl N
  | _ => .inl 0
def shX1 : Nat → Shp := fun i => match i with
  | 0 => .inr (1, [none, none, none, none, none, some 1, some 2, some 3, some 4])
  | 1 => .inl 3
  | 2 => .inl 3
  | 3 => .inl 3
  | 4 => .inl 3
  | _ => .inl 0
def shX2 : Nat → Shp := fun i => match i with
  | 0 => .inr (2, [some 1, none])
  | 1 => .inr (4, [none, some 2, none])
  | 2 => .inl 28
  | _ => .inl 0
def shX3 : Nat → Shp := fun i => match i with
  | 0 => .inr (3, [some 1, some 4, some 5, some 6, none, none])
  | 1 => .inr (2, [some 2, none])
  | 2 => .inr (4, [none, some 3, none])
  | 3 => .inl 28
  | 4 => .inl 3
  | 5 => .inl 3
  | 6 => .inl 3
  | _ => .inl 0
def shX5 : Nat → Shp := fun i => match i with
  | 0 => .inr (5, [some 1, some 2, none, none, none])
  | 1 => .inl 120
  | 2 => .inr (4, [none, some 3, none])
  | 3 => .inl 48
  | _ => .inl 0
def shX0 : Nat → Shp := fun i => match i with
  | 0 => .inr (0, [some 1, some 2, some 3, some 4, some 5, some 6, some 8, none])
  | 1 => .inl 7
  | 2 => .inl 3
  | 3 => .inl 3
  | 4 => .inl 3
  | 5 => .inl 3
  | 6 => .inr (4, [none, some 7, none])
  | 7 => .inl 48
  | 8 => .inr (1, [none, none, none, none, none, some 9, some 10, some 11, some 12])
  | 9 => .inl 3
  | 10 => .inl 3
  | 11 => .inl 3
  | 12 => .inl 3
  | _ => .inl 0
def wX4 (v : Int32) : Mem := fun i => match i with
  | 0 => fun k => match k with
    | 0 => v
    | _ => 0
  | _ => fun _ => 0
def wX1 : Mem := fun _ _ => 0
def wX2 : Mem := fun i => match i with
  | 1 => wX4 7 0
  | _ => fun _ => 0
def wX3 : Mem := fun i => match i with
  | 2 => wX4 7 0
  | _ => fun _ => 0
def wX5 : Mem := fun i => match i with
  | 2 => wX4 12 0
  | _ => fun _ => 0
def wX0a : Mem := fun i => match i with
  | 6 => wX4 12 0
  | _ => fun _ => 0
def wX0 : Mem := fun i => match i with
  | 1 => sct 0
  | 6 => wX4 12 0
  | _ => fun _ => 0
def wX7a : Mem := fun _ _ => 0
def wX7 : Mem := fun i => match i with
  | 2 => sct 0
  | _ => fun _ => 0
def wC0 : Mem := fun i => match i with
  | 2 => sct 0
  | 7 => wX4 12 0
  | 15 => sct 0
  | 20 => wX4 12 0
  | 28 => wX4 7 0
  | 30 => wX4 12 0
  | 34 => wX4 7 0
  | 39 => wX4 10 0
  | 43 => wX4 12 0
  | _ => fun _ => 0
theorem oi_i : Cond.instanceMethod Lib.objectInit ∈ gT := tin 18 (by decide +kernel) rfl
theorem oi_c : Cond.code Lib.objectInit ⟨#[0xb1]⟩ 1 none ∈ gT := tin 19 (by decide +kernel) rfl
theorem ac_int : Cond.arrayClass .int ∈ gT := tin 49 (by decide +kernel) rfl
set_option maxRecDepth 100000 in
theorem my_X0_init : MI yX0_init cX0_init 1 0 := ⟨tin 24 rfl rfl, tin 23 (by decide +kernel) rfl, tin 2 (by decide +kernel) rfl, by decide +kernel, by decide +kernel, by decide +kernel⟩
set_option maxRecDepth 100000 in
theorem my_X1_init : MI yX1_init cX1_init 1 0 := ⟨tin 54 rfl rfl, tin 53 (by decide +kernel) rfl, tin 5 (by decide +kernel) rfl, by decide +kernel, by decide +kernel, by decide +kernel⟩
set_option maxRecDepth 100000 in
theorem my_X2_init : MI yX2_init cX2_init 1 0 := ⟨tin 151 rfl rfl, tin 150 (by decide +kernel) rfl, tin 7 (by decide +kernel) rfl, by decide +kernel, by decide +kernel, by decide +kernel⟩
set_option maxRecDepth 100000 in
theorem my_X3_init : MI yX3_init cX3_init 1 0 := ⟨tin 170 rfl rfl, tin 169 (by decide +kernel) rfl, tin 8 (by decide +kernel) rfl, by decide +kernel, by decide +kernel, by decide +kernel⟩
set_option maxRecDepth 100000 in
theorem my_X4_init : MI yX4_init cX4_init 2 1 := ⟨tin 30 rfl rfl, tin 29 (by decide +kernel) rfl, tin 3 (by decide +kernel) rfl, by decide +kernel, by decide +kernel, by decide +kernel⟩
set_option maxRecDepth 100000 in
theorem my_X5_init : MI yX5_init cX5_init 1 0 := ⟨tin 200 rfl rfl, tin 199 (by decide +kernel) rfl, tin 9 (by decide +kernel) rfl, by decide +kernel, by decide +kernel, by decide +kernel⟩
set_option maxRecDepth 100000 in
theorem my_X6_init : MI yX6_init cX6_init 1 0 := ⟨tin 16 rfl rfl, tin 15 (by decide +kernel) rfl, tin 1 (by decide +kernel) rfl, by decide +kernel, by decide +kernel, by decide +kernel⟩
set_option maxRecDepth 100000 in
theorem my_X7_init : MI yX7_init cX7_init 1 0 := ⟨tin 700 rfl rfl, tin 699 (by decide +kernel) rfl, tin 10 (by decide +kernel) rfl, by decide +kernel, by decide +kernel, by decide +kernel⟩
theorem ko_X6 : Cond.methodLink RX6 1 Lib.objectInit ∈ gT := tin 17 (by decide +kernel) rfl
theorem kl_X6_9 : Cond.methodLink RX6 9 yX0_init ∈ gT := tin 22 (by decide +kernel) rfl
theorem kl_X6_28 : Cond.methodLink RX6 28 yX4_init ∈ gT := tin 165 (by decide +kernel) rfl
theorem ko_X0 : Cond.methodLink RX0 3 Lib.objectInit ∈ gT := tin 25 (by decide +kernel) rfl
theorem kl_X0_29 : Cond.methodLink RX0 29 yX4_init ∈ gT := tin 28 (by decide +kernel) rfl
theorem ko_X1 : Cond.methodLink RX1 3 Lib.objectInit ∈ gT := tin 55 (by decide +kernel) rfl
theorem ko_X2 : Cond.methodLink RX2 3 Lib.objectInit ∈ gT := tin 152 (by decide +kernel) rfl
theorem kl_X2_11 : Cond.methodLink RX2 11 yX4_init ∈ gT := tin 154 (by decide +kernel) rfl
theorem ko_X3 : Cond.methodLink RX3 3 Lib.objectInit ∈ gT := tin 171 (by decide +kernel) rfl
theorem ko_X4 : Cond.methodLink RX4 3 Lib.objectInit ∈ gT := tin 31 (by decide +kernel) rfl
theorem ko_X5 : Cond.methodLink RX5 3 Lib.objectInit ∈ gT := tin 201 (by decide +kernel) rfl
theorem kl_X5_17 : Cond.methodLink RX5 17 yX4_init ∈ gT := tin 203 (by decide +kernel) rfl
theorem kl_L_9 : Cond.methodLink RL 9 yX6_init ∈ gT := tin 14 (by decide +kernel) rfl
theorem kl_L_12 : Cond.methodLink RL 12 yX7_init ∈ gT := tin 698 (by decide +kernel) rfl
theorem ko_X7 : Cond.methodLink RX7 7 Lib.objectInit ∈ gT := tin 701 (by decide +kernel) rfl
theorem kk_X6_7 : Cond.classLink RX6 7 RX0 ∈ gT := tin 20 (by decide +kernel) rfl
theorem kk_X6_19 : Cond.classLink RX6 19 RX2 ∈ gT := tin 147 (by decide +kernel) rfl
theorem kk_X6_26 : Cond.classLink RX6 26 RX4 ∈ gT := tin 164 (by decide +kernel) rfl
theorem kk_X6_35 : Cond.classLink RX6 35 RX3 ∈ gT := tin 166 (by decide +kernel) rfl
theorem kk_X6_45 : Cond.classLink RX6 45 RX5 ∈ gT := tin 196 (by decide +kernel) rfl
theorem kk_X0_27 : Cond.classLink RX0 27 RX4 ∈ gT := tin 26 (by decide +kernel) rfl
theorem kk_X0_36 : Cond.classLink RX0 36 RX1 ∈ gT := tin 50 (by decide +kernel) rfl
theorem kk_X2_9 : Cond.classLink RX2 9 RX4 ∈ gT := tin 153 (by decide +kernel) rfl
theorem kk_X3_9 : Cond.classLink RX3 9 RX2 ∈ gT := tin 172 (by decide +kernel) rfl
theorem kk_X5_15 : Cond.classLink RX5 15 RX4 ∈ gT := tin 202 (by decide +kernel) rfl
theorem kk_L_7 : Cond.classLink RL 7 RX6 ∈ gT := tin 12 (by decide +kernel) rfl
theorem kk_L_10 : Cond.classLink RL 10 RX7 ∈ gT := tin 696 (by decide +kernel) rfl
theorem ki_X0 : Cond.instantiable RX0 8 ∈ gT := tin 21 (by decide +kernel) rfl
theorem kn_X0 : Cond.initialized RX0 ∈ gT := tin 2 (by decide +kernel) rfl
theorem kd_X0 : ∀ j, j < 8 → defaultValue (tyX0 j) = vp_V [.null, .null, .null, .null, .null, .null, .null, .int 0] j := by
  intro j hj
  match j, hj with
  | 0, _ => rfl
  | 1, _ => rfl
  | 2, _ => rfl
  | 3, _ => rfl
  | 4, _ => rfl
  | 5, _ => rfl
  | 6, _ => rfl
  | 7, _ => rfl
  | q + 8, h => exact absurd h (by omega)
theorem ki_X1 : Cond.instantiable RX1 9 ∈ gT := tin 51 (by decide +kernel) rfl
theorem kn_X1 : Cond.initialized RX1 ∈ gT := tin 5 (by decide +kernel) rfl
theorem kd_X1 : ∀ j, j < 9 → defaultValue (tyX1 j) = vp_V [.int 0, .int 0, .int 0, .int 0, .int 0, .null, .null, .null, .null] j := by
  intro j hj
  match j, hj with
  | 0, _ => rfl
  | 1, _ => rfl
  | 2, _ => rfl
  | 3, _ => rfl
  | 4, _ => rfl
  | 5, _ => rfl
  | 6, _ => rfl
  | 7, _ => rfl
  | 8, _ => rfl
  | q + 9, h => exact absurd h (by omega)
theorem ki_X2 : Cond.instantiable RX2 2 ∈ gT := tin 148 (by decide +kernel) rfl
theorem kn_X2 : Cond.initialized RX2 ∈ gT := tin 7 (by decide +kernel) rfl
theorem kd_X2 : ∀ j, j < 2 → defaultValue (tyX2 j) = vp_V [.null, .int 0] j := by
  intro j hj
  match j, hj with
  | 0, _ => rfl
  | 1, _ => rfl
  | q + 2, h => exact absurd h (by omega)
theorem ki_X3 : Cond.instantiable RX3 6 ∈ gT := tin 167 (by decide +kernel) rfl
theorem kn_X3 : Cond.initialized RX3 ∈ gT := tin 8 (by decide +kernel) rfl
theorem kd_X3 : ∀ j, j < 6 → defaultValue (tyX3 j) = vp_V [.null, .null, .null, .null, .int 0, .int 0] j := by
  intro j hj
  match j, hj with
  | 0, _ => rfl
  | 1, _ => rfl
  | 2, _ => rfl
  | 3, _ => rfl
  | 4, _ => rfl
  | 5, _ => rfl
  | q + 6, h => exact absurd h (by omega)
theorem ki_X4 : Cond.instantiable RX4 3 ∈ gT := tin 27 (by decide +kernel) rfl
theorem kn_X4 : Cond.initialized RX4 ∈ gT := tin 3 (by decide +kernel) rfl
theorem kd_X4 : ∀ j, j < 3 → defaultValue (tyX4 j) = vp_V [.int 0, .null, .int 0] j := by
  intro j hj
  match j, hj with
  | 0, _ => rfl
  | 1, _ => rfl
  | 2, _ => rfl
  | q + 3, h => exact absurd h (by omega)
theorem ki_X5 : Cond.instantiable RX5 5 ∈ gT := tin 197 (by decide +kernel) rfl
theorem kn_X5 : Cond.initialized RX5 ∈ gT := tin 9 (by decide +kernel) rfl
theorem kd_X5 : ∀ j, j < 5 → defaultValue (tyX5 j) = vp_V [.null, .null, .int 0, .int 0, .int 0] j := by
  intro j hj
  match j, hj with
  | 0, _ => rfl
  | 1, _ => rfl
  | 2, _ => rfl
  | 3, _ => rfl
  | 4, _ => rfl
  | q + 5, h => exact absurd h (by omega)
theorem ki_X6 : Cond.instantiable RX6 8 ∈ gT := tin 13 (by decide +kernel) rfl
theorem kn_X6 : Cond.initialized RX6 ∈ gT := tin 1 (by decide +kernel) rfl
theorem kd_X6 : ∀ j, j < 8 → defaultValue (tyX6 j) = vp_V [.null, .null, .null, .null, .null, .null, .null, .null] j := by
  intro j hj
  match j, hj with
  | 0, _ => rfl
  | 1, _ => rfl
  | 2, _ => rfl
  | 3, _ => rfl
  | 4, _ => rfl
  | 5, _ => rfl
  | 6, _ => rfl
  | 7, _ => rfl
  | q + 8, h => exact absurd h (by omega)
theorem ki_X7 : Cond.instantiable RX7 37 ∈ gT := tin 697 (by decide +kernel) rfl
theorem kn_X7 : Cond.initialized RX7 ∈ gT := tin 10 (by decide +kernel) rfl
theorem kd_X7 : ∀ j, j < 37 → defaultValue (tyX7 j) = vp_V [.null, .null, .null, .null, .null, .null, .int 0, .int 0, .null, .null, .null, .int 0, .null, .int 0, .int 0, .null, .null, .null, .null, .int 0, .null, .null, .int 0, .int 0, .int 0, .int 0, .int 0, .null, .null, .null, .null, .null, .int 0, .int 0, .int 0, .int 0, .int 0] j := by
  intro j hj
  match j, hj with
  | 0, _ => rfl
  | 1, _ => rfl
  | 2, _ => rfl
  | 3, _ => rfl
  | 4, _ => rfl
  | 5, _ => rfl
  | 6, _ => rfl
  | 7, _ => rfl
  | 8, _ => rfl
  | 9, _ => rfl
  | 10, _ => rfl
  | 11, _ => rfl
  | 12, _ => rfl
  | 13, _ => rfl
  | 14, _ => rfl
  | 15, _ => rfl
  | 16, _ => rfl
  | 17, _ => rfl
  | 18, _ => rfl
  | 19, _ => rfl
  | 20, _ => rfl
  | 21, _ => rfl
  | 22, _ => rfl
  | 23, _ => rfl
  | 24, _ => rfl
  | 25, _ => rfl
  | 26, _ => rfl
  | 27, _ => rfl
  | 28, _ => rfl
  | 29, _ => rfl
  | 30, _ => rfl
  | 31, _ => rfl
  | 32, _ => rfl
  | 33, _ => rfl
  | 34, _ => rfl
  | 35, _ => rfl
  | 36, _ => rfl
  | q + 37, h => exact absurd h (by omega)
theorem to_wsO {n : Nat} {sh : Nat → Shp} {ad : Nat → Nat} {cA : ClassId} {w : Mem} {ws : va_W} (hl : ws.length = n) (h : ∀ k, k < n → ws[k]? = some (ad k, cE sh ad cA w k)) : ws = wsO n sh ad cA w := by
  apply List.ext_getElem?
  intro k
  by_cases hk : k < n
  · rw [h k hk, wsO_get hk]
  · rw [List.getElem?_eq_none (by omega), List.getElem?_eq_none (by simp [wsO]; omega)]
abbrev cArr (q : Nat) (cA : ClassId) (N : Nat) : Nat × va_E := (q, .inl (cA, N, .inl (fun _ => 0)))
theorem isX0_at0 : isX0 13 shX0 0 := ⟨by decide, rfl, ⟨by decide, rfl⟩, ⟨by decide, rfl⟩, ⟨by decide, rfl⟩, ⟨by decide, rfl⟩, ⟨by decide, rfl⟩, ⟨by decide, rfl, ⟨by decide, rfl⟩⟩, ⟨by decide, rfl, ⟨by decide, rfl⟩, ⟨by decide, rfl⟩, ⟨by decide, rfl⟩, ⟨by decide, rfl⟩⟩⟩
set_option maxHeartbeats 4000000 in
set_option maxRecDepth 20000 in
theorem k_X4 {l : Launch} {D : va_G} {cA : ClassId} {sa : Nat → Nat} {h0 sz : Nat} {a1 : Int32} {N : Nat} (h1 : ¬ (imax 0 a1 * 4) < 0) (h2 : (imax 0 a1 * 4).toNatClampNeg = N) (h3 : N ≤ 200) : KMet l D cA sa h0 sz 4 [.int 0, .null, .int 0] yX4_init cX4_init 2 1 29 1 N [.int a1] 2 (shX4 N) (wX4 (imax 0 a1)) := by
  refine k_enter (by decide) (Nat.le_of_ble_eq_true rfl) ?_
  intro p e s m args below meth c ls hsz G hr hlocks hin hP hD hl
  replace hl : lv_has ls 2 [(0, .ref h0), (1, .int a1)] := hl
  replace G : Kx D cA sa (KA h0 s.heap.size) p s m args meth c RX4 cX4_init 2 := G
  obtain ⟨hx, hb, hml, hown, hg, hK, -⟩ := id G
  have hS : va_S (KA h0 s.heap.size) s.heap s.heap [] := va_S.rf
  refine lv_aload_n hx hb dX4_init_0 rfl (lv_at hl 0 rfl) ?_
  refine k_obj G ko_X4 oi_i oi_c hl.1 dX4_init_1 (Nat.le_of_ble_eq_true rfl) (Nat.le_of_ble_eq_true rfl) ?_
  refine lv_aload_n hx hb dX4_init_4 rfl (lv_at hl 0 rfl) ?_
  refine lv_iconst (v := (0 : Int32)) hx hb dX4_init_5 (by decide) ?_
  refine lv_iload_n hx hb dX4_init_6 rfl (lv_at hl 1 rfl) ?_
  refine va_mmax hx hb (hml.trans hl.1.symm) hown (hg _ kl_X4_9) (hg _ st_max) (hg _ ini_Math) (hg _ cd_max) (Nat.le_of_ble_eq_true rfl) (Nat.le_of_ble_eq_true rfl) (Nat.zero_le _) (Nat.zero_le _) dX4_init_7 ?_
  refine W.eq (g2 := F0 m 10 ls [.int (imax (0 : Int32) a1), .ref h0]) rfl ?_
  refine k_put (ty := tyX4 0) (v := .int (imax (0 : Int32) a1)) G hin inGX4 tyX4_ok nmX4 (k := 0) rfl (by decide) fl_X4_15 rfl rfl rfl (tyX4_ok 0 (by decide)) rfl rfl (Nat.le_of_ble_eq_true rfl) hP hD hS dX4_init_10 (fun H locs hP hD hS => ?_)
  replace hP : va_P D classes ((h0, .inr (4, [.int (imax (0 : Int32) a1), .null, .int 0])) :: []) _ := hP
  replace hD : va_D (KA h0 s.heap.size) ((h0, .inr (4, [.int (imax (0 : Int32) a1), .null, .int 0])) :: []) := hD
  refine lv_aload_n hx hb dX4_init_13 rfl (lv_at hl 0 rfl) ?_
  refine lv_aload_n hx hb dX4_init_14 rfl (lv_at hl 0 rfl) ?_
  refine va_get hx hb hg inGX4 hown hK hP 0 rfl rfl 0 (by decide) (hg _ fl_X4_15) (fun _ h => h) rfl dX4_init_15 ?_
  refine lv_iconst (v := (4 : Int32)) hx hb dX4_init_18 (by decide) ?_
  refine lv_imul hx hb dX4_init_19 ?_
  refine k_newa (N := N) G ac_int hP hD hS h1 h2 (by omega) (Nat.le_of_ble_eq_true rfl) (by show 0 + N ≤ N; omega) dX4_init_20 (fun q1 H hP hD hS => ?_)
  obtain ⟨T1, eT1⟩ : ∃ T : va_W, T = ([] : va_W) ++ [cArr q1 cA N] := ⟨_, rfl⟩
  replace hP : va_P D classes ((h0, .inr (4, [.int (imax (0 : Int32) a1), .null, .int 0])) :: T1) H := by rw [eT1]; exact hP
  replace hD : va_D (KA h0 s.heap.size) ((h0, .inr (4, [.int (imax (0 : Int32) a1), .null, .int 0])) :: T1) := by rw [eT1]; exact hD
  refine k_put (ty := tyX4 1) (v := .ref q1) G hin inGX4 tyX4_ok nmX4 (k := 1) rfl (by decide) fl_X4_21 rfl rfl rfl (tyX4_ok 1 (by decide)) rfl rfl (Nat.le_of_ble_eq_true rfl) hP hD hS dX4_init_22 (fun H locs hP hD hS => ?_)
  replace hP : va_P D classes ((h0, .inr (4, [.int (imax (0 : Int32) a1), .ref q1, .int 0])) :: T1) _ := hP
  replace hD : va_D (KA h0 s.heap.size) ((h0, .inr (4, [.int (imax (0 : Int32) a1), .ref q1, .int 0])) :: T1) := hD
  have heq : ((h0, .inr (4, [.int (imax (0 : Int32) a1), .ref q1, .int 0])) :: T1 : va_W) = wsO 2 (shX4 N) (fun i => ([h0, q1] : List Nat).getD i 0) cA (wX4 (imax 0 a1)) := by
    rw [eT1]
    simp only [List.nil_append, List.append_assoc, List.cons_append]
    exact to_wsO rfl (fun k hk => match k, hk with
    | 0, _ => rfl
    | 1, _ => rfl
    | q + 2, h => absurd h (by omega))
  rw [heq] at hP hD
  refine W.widen (k := 1) (n := N) (by omega) (by omega) ?_
  exact k_ret (ad := (fun i => ([h0, q1] : List Nat).getD i 0)) G hr hlocks rfl hP hD hS dX4_init_25
set_option maxHeartbeats 4000000 in
set_option maxRecDepth 20000 in
theorem k_X1 {l : Launch} {D : va_G} {cA : ClassId} {sa : Nat → Nat} {h0 sz : Nat} : KMet l D cA sa h0 sz 1 [.int 0, .int 0, .int 0, .int 0, .int 0, .null, .null, .null, .null] yX1_init cX1_init 1 1 20 4 12 [] 5 shX1 wX1 := by
  refine k_enter (by decide) (Nat.le_of_ble_eq_true rfl) ?_
  intro p e s m args below meth c ls hsz G hr hlocks hin hP hD hl
  replace hl : lv_has ls 1 [(0, .ref h0)] := hl
  replace G : Kx D cA sa (KA h0 s.heap.size) p s m args meth c RX1 cX1_init 1 := G
  obtain ⟨hx, hb, hml, hown, hg, hK, -⟩ := id G
  have hS : va_S (KA h0 s.heap.size) s.heap s.heap [] := va_S.rf
  refine lv_aload_n hx hb dX1_init_0 rfl (lv_at hl 0 rfl) ?_
  refine k_obj G ko_X1 oi_i oi_c hl.1 dX1_init_1 (Nat.le_of_ble_eq_true rfl) (Nat.le_of_ble_eq_true rfl) ?_
  refine lv_aload_n hx hb dX1_init_4 rfl (lv_at hl 0 rfl) ?_
  refine lv_iconst (v := (3 : Int32)) hx hb dX1_init_5 (by decide) ?_
  refine k_newa (N := 3) G ac_int hP hD hS (by decide) rfl (Nat.le_of_ble_eq_true rfl) (Nat.le_of_ble_eq_true rfl) (Nat.le_of_ble_eq_true rfl) dX1_init_6 (fun q1 H hP hD hS => ?_)
  obtain ⟨T1, eT1⟩ : ∃ T : va_W, T = ([] : va_W) ++ [cArr q1 cA 3] := ⟨_, rfl⟩
  replace hP : va_P D classes ((h0, .inr (1, [.int 0, .int 0, .int 0, .int 0, .int 0, .null, .null, .null, .null])) :: T1) H := by rw [eT1]; exact hP
  replace hD : va_D (KA h0 s.heap.size) ((h0, .inr (1, [.int 0, .int 0, .int 0, .int 0, .int 0, .null, .null, .null, .null])) :: T1) := by rw [eT1]; exact hD
  refine k_put (ty := tyX1 5) (v := .ref q1) G hin inGX1 tyX1_ok nmX1 (k := 5) rfl (by decide) fl_X1_9 rfl rfl rfl (tyX1_ok 5 (by decide)) rfl rfl (Nat.le_of_ble_eq_true rfl) hP hD hS dX1_init_8 (fun H locs hP hD hS => ?_)
  replace hP : va_P D classes ((h0, .inr (1, [.int 0, .int 0, .int 0, .int 0, .int 0, .ref q1, .null, .null, .null])) :: T1) _ := hP
  replace hD : va_D (KA h0 s.heap.size) ((h0, .inr (1, [.int 0, .int 0, .int 0, .int 0, .int 0, .ref q1, .null, .null, .null])) :: T1) := hD
  refine lv_aload_n hx hb dX1_init_11 rfl (lv_at hl 0 rfl) ?_
  refine lv_iconst (v := (3 : Int32)) hx hb dX1_init_12 (by decide) ?_
  refine k_newa (N := 3) G ac_int hP hD hS (by decide) rfl (Nat.le_of_ble_eq_true rfl) (Nat.le_of_ble_eq_true rfl) (Nat.le_of_ble_eq_true rfl) dX1_init_13 (fun q2 H hP hD hS => ?_)
  obtain ⟨T2, eT2⟩ : ∃ T : va_W, T = T1 ++ [cArr q2 cA 3] := ⟨_, rfl⟩
  replace hP : va_P D classes ((h0, .inr (1, [.int 0, .int 0, .int 0, .int 0, .int 0, .ref q1, .null, .null, .null])) :: T2) H := by rw [eT2]; exact hP
  replace hD : va_D (KA h0 s.heap.size) ((h0, .inr (1, [.int 0, .int 0, .int 0, .int 0, .int 0, .ref q1, .null, .null, .null])) :: T2) := by rw [eT2]; exact hD
  refine k_put (ty := tyX1 6) (v := .ref q2) G hin inGX1 tyX1_ok nmX1 (k := 6) rfl (by decide) fl_X1_15 rfl rfl rfl (tyX1_ok 6 (by decide)) rfl rfl (Nat.le_of_ble_eq_true rfl) hP hD hS dX1_init_15 (fun H locs hP hD hS => ?_)
  replace hP : va_P D classes ((h0, .inr (1, [.int 0, .int 0, .int 0, .int 0, .int 0, .ref q1, .ref q2, .null, .null])) :: T2) _ := hP
  replace hD : va_D (KA h0 s.heap.size) ((h0, .inr (1, [.int 0, .int 0, .int 0, .int 0, .int 0, .ref q1, .ref q2, .null, .null])) :: T2) := hD
  refine lv_aload_n hx hb dX1_init_18 rfl (lv_at hl 0 rfl) ?_
  refine lv_iconst (v := (3 : Int32)) hx hb dX1_init_19 (by decide) ?_
  refine k_newa (N := 3) G ac_int hP hD hS (by decide) rfl (Nat.le_of_ble_eq_true rfl) (Nat.le_of_ble_eq_true rfl) (Nat.le_of_ble_eq_true rfl) dX1_init_20 (fun q3 H hP hD hS => ?_)
  obtain ⟨T3, eT3⟩ : ∃ T : va_W, T = T2 ++ [cArr q3 cA 3] := ⟨_, rfl⟩
  replace hP : va_P D classes ((h0, .inr (1, [.int 0, .int 0, .int 0, .int 0, .int 0, .ref q1, .ref q2, .null, .null])) :: T3) H := by rw [eT3]; exact hP
  replace hD : va_D (KA h0 s.heap.size) ((h0, .inr (1, [.int 0, .int 0, .int 0, .int 0, .int 0, .ref q1, .ref q2, .null, .null])) :: T3) := by rw [eT3]; exact hD
  refine k_put (ty := tyX1 7) (v := .ref q3) G hin inGX1 tyX1_ok nmX1 (k := 7) rfl (by decide) fl_X1_18 rfl rfl rfl (tyX1_ok 7 (by decide)) rfl rfl (Nat.le_of_ble_eq_true rfl) hP hD hS dX1_init_22 (fun H locs hP hD hS => ?_)
  replace hP : va_P D classes ((h0, .inr (1, [.int 0, .int 0, .int 0, .int 0, .int 0, .ref q1, .ref q2, .ref q3, .null])) :: T3) _ := hP
  replace hD : va_D (KA h0 s.heap.size) ((h0, .inr (1, [.int 0, .int 0, .int 0, .int 0, .int 0, .ref q1, .ref q2, .ref q3, .null])) :: T3) := hD
  refine lv_aload_n hx hb dX1_init_25 rfl (lv_at hl 0 rfl) ?_
  refine lv_iconst (v := (3 : Int32)) hx hb dX1_init_26 (by decide) ?_
  refine k_newa (N := 3) G ac_int hP hD hS (by decide) rfl (Nat.le_of_ble_eq_true rfl) (Nat.le_of_ble_eq_true rfl) (Nat.le_of_ble_eq_true rfl) dX1_init_27 (fun q4 H hP hD hS => ?_)
  obtain ⟨T4, eT4⟩ : ∃ T : va_W, T = T3 ++ [cArr q4 cA 3] := ⟨_, rfl⟩
  replace hP : va_P D classes ((h0, .inr (1, [.int 0, .int 0, .int 0, .int 0, .int 0, .ref q1, .ref q2, .ref q3, .null])) :: T4) H := by rw [eT4]; exact hP
  replace hD : va_D (KA h0 s.heap.size) ((h0, .inr (1, [.int 0, .int 0, .int 0, .int 0, .int 0, .ref q1, .ref q2, .ref q3, .null])) :: T4) := by rw [eT4]; exact hD
  refine k_put (ty := tyX1 8) (v := .ref q4) G hin inGX1 tyX1_ok nmX1 (k := 8) rfl (by decide) fl_X1_21 rfl rfl rfl (tyX1_ok 8 (by decide)) rfl rfl (Nat.le_of_ble_eq_true rfl) hP hD hS dX1_init_29 (fun H locs hP hD hS => ?_)
  replace hP : va_P D classes ((h0, .inr (1, [.int 0, .int 0, .int 0, .int 0, .int 0, .ref q1, .ref q2, .ref q3, .ref q4])) :: T4) _ := hP
  replace hD : va_D (KA h0 s.heap.size) ((h0, .inr (1, [.int 0, .int 0, .int 0, .int 0, .int 0, .ref q1, .ref q2, .ref q3, .ref q4])) :: T4) := hD
  have heq : ((h0, .inr (1, [.int 0, .int 0, .int 0, .int 0, .int 0, .ref q1, .ref q2, .ref q3, .ref q4])) :: T4 : va_W) = wsO 5 shX1 (fun i => ([h0, q1, q2, q3, q4] : List Nat).getD i 0) cA wX1 := by
    rw [eT4, eT3, eT2, eT1]
    simp only [List.nil_append, List.append_assoc, List.cons_append]
    exact to_wsO rfl (fun k hk => match k, hk with
    | 0, _ => rfl
    | 1, _ => rfl
    | 2, _ => rfl
    | 3, _ => rfl
    | 4, _ => rfl
    | q + 5, h => absurd h (by omega))
  rw [heq] at hP hD
  exact k_ret (ad := (fun i => ([h0, q1, q2, q3, q4] : List Nat).getD i 0)) G hr hlocks rfl hP hD hS dX1_init_32
set_option maxHeartbeats 4000000 in
set_option maxRecDepth 20000 in
theorem k_X2 {l : Launch} {D : va_G} {cA : ClassId} {sa : Nat → Nat} {h0 sz : Nat} : KMet l D cA sa h0 sz 2 [.null, .int 0] yX2_init cX2_init 1 2 50 2 31 [] 3 shX2 wX2 := by
  refine k_enter (by decide) (Nat.le_of_ble_eq_true rfl) ?_
  intro p e s m args below meth c ls hsz G hr hlocks hin hP hD hl
  replace hl : lv_has ls 1 [(0, .ref h0)] := hl
  replace G : Kx D cA sa (KA h0 s.heap.size) p s m args meth c RX2 cX2_init 1 := G
  obtain ⟨hx, hb, hml, hown, hg, hK, -⟩ := id G
  have hS : va_S (KA h0 s.heap.size) s.heap s.heap [] := va_S.rf
  refine lv_aload_n hx hb dX2_init_0 rfl (lv_at hl 0 rfl) ?_
  refine k_obj G ko_X2 oi_i oi_c hl.1 dX2_init_1 (Nat.le_of_ble_eq_true rfl) (Nat.le_of_ble_eq_true rfl) ?_
  refine lv_aload_n hx hb dX2_init_4 rfl (lv_at hl 0 rfl) ?_
  refine k_new G inGX4 tyX4 tyX4_ok kk_X2_9 ki_X4 kn_X4 (ci := 4) rfl kd_X4 hP hD hS (Nat.le_of_ble_eq_true rfl) (Nat.le_of_ble_eq_true rfl) dX2_init_5 (fun q1 H hP hD hS => ?_)
  refine lv_dup hx hb dX2_init_8 rfl ?_
  refine lv_bipush (v := (7 : Int32)) hx hb dX2_init_9 (by decide) ?_
  refine k_ctor (ws := (h0, .inr (2, [.null, .int 0])) :: []) (rest := [.ref q1, .ref h0]) G hP hD hS (k_X4 (N := 28) (by decide) (by decide) (by decide)) my_X4_init rfl kl_X2_11 ⟨Nat.le_of_ble_eq_true rfl, Nat.le_of_ble_eq_true rfl⟩ rfl hl.1 rfl (Nat.le_of_ble_eq_true rfl) dX2_init_11 ⟨Nat.le_of_ble_eq_true rfl, Nat.le_of_ble_eq_true rfl⟩ (fun ad2 H1 locs1 ead2 hP1 hD1 hS1 => ?_)
  clear hP hD hS
  subst ead2
  obtain ⟨T1, eT1⟩ : ∃ T : va_W, T = ([] : va_W) ++ wsO 2 (shX4 28) ad2 cA (wX4 (imax 0 (7 : Int32))) := ⟨_, rfl⟩
  have hP : va_P D classes ((h0, .inr (2, [.null, .int 0])) :: T1) H1 := by rw [eT1]; exact hP1
  have hD : va_D (KA h0 s.heap.size) ((h0, .inr (2, [.null, .int 0])) :: T1) := by rw [eT1]; exact hD1
  have hS := hS1
  clear hP1 hD1 hS1
  refine k_put (ty := tyX2 0) (v := .ref (ad2 0)) G hin inGX2 tyX2_ok nmX2 (k := 0) rfl (by decide) fl_X2_14 rfl rfl rfl (tyX2_ok 0 (by decide)) rfl rfl (Nat.le_of_ble_eq_true rfl) hP hD hS dX2_init_14 (fun H locs hP hD hS => ?_)
  replace hP : va_P D classes ((h0, .inr (2, [.ref (ad2 0), .int 0])) :: T1) _ := hP
  replace hD : va_D (KA h0 s.heap.size) ((h0, .inr (2, [.ref (ad2 0), .int 0])) :: T1) := hD
  have heq : ((h0, .inr (2, [.ref (ad2 0), .int 0])) :: T1 : va_W) = wsO 3 shX2 (fun i => ([h0, ad2 0, ad2 1] : List Nat).getD i 0) cA wX2 := by
    rw [eT1]
    simp only [List.nil_append, List.append_assoc, List.cons_append]
    exact to_wsO rfl (fun k hk => match k, hk with
    | 0, _ => rfl
    | 1, _ => rfl
    | 2, _ => rfl
    | q + 3, h => absurd h (by omega))
  rw [heq] at hP hD
  exact k_ret (ad := (fun i => ([h0, ad2 0, ad2 1] : List Nat).getD i 0)) G hr hlocks rfl hP hD hS dX2_init_17
set_option maxHeartbeats 4000000 in
set_option maxRecDepth 20000 in
theorem k_X3 {l : Launch} {D : va_G} {cA : ClassId} {sa : Nat → Nat} {h0 sz : Nat} : KMet l D cA sa h0 sz 3 [.null, .null, .null, .null, .int 0, .int 0] yX3_init cX3_init 1 3 70 6 42 [] 7 shX3 wX3 := by
  refine k_enter (by decide) (Nat.le_of_ble_eq_true rfl) ?_
  intro p e s m args below meth c ls hsz G hr hlocks hin hP hD hl
  replace hl : lv_has ls 1 [(0, .ref h0)] := hl
  replace G : Kx D cA sa (KA h0 s.heap.size) p s m args meth c RX3 cX3_init 1 := G
  obtain ⟨hx, hb, hml, hown, hg, hK, -⟩ := id G
  have hS : va_S (KA h0 s.heap.size) s.heap s.heap [] := va_S.rf
  refine lv_aload_n hx hb dX3_init_0 rfl (lv_at hl 0 rfl) ?_
  refine k_obj G ko_X3 oi_i oi_c hl.1 dX3_init_1 (Nat.le_of_ble_eq_true rfl) (Nat.le_of_ble_eq_true rfl) ?_
  refine lv_aload_n hx hb dX3_init_4 rfl (lv_at hl 0 rfl) ?_
  refine k_new G inGX2 tyX2 tyX2_ok kk_X3_9 ki_X2 kn_X2 (ci := 2) rfl kd_X2 hP hD hS (Nat.le_of_ble_eq_true rfl) (Nat.le_of_ble_eq_true rfl) dX3_init_5 (fun q1 H hP hD hS => ?_)
  refine lv_dup hx hb dX3_init_8 rfl ?_
  refine k_ctorN (host := "DriveTicks") (ws := (h0, .inr (3, [.null, .null, .null, .null, .int 0, .int 0])) :: []) (rest := [.ref q1, .ref h0]) G hP hD hS k_X2 my_X2_init rfl (by decide) ⟨Nat.le_of_ble_eq_true rfl, Nat.le_of_ble_eq_true rfl⟩ rfl hl.1 rfl (Nat.le_of_ble_eq_true rfl) dX3_init_9 ⟨Nat.le_of_ble_eq_true rfl, Nat.le_of_ble_eq_true rfl⟩ (fun ad2 H1 locs1 ead2 hP1 hD1 hS1 => ?_)
  clear hP hD hS
  subst ead2
  obtain ⟨T1, eT1⟩ : ∃ T : va_W, T = ([] : va_W) ++ wsO 3 shX2 ad2 cA wX2 := ⟨_, rfl⟩
  have hP : va_P D classes ((h0, .inr (3, [.null, .null, .null, .null, .int 0, .int 0])) :: T1) H1 := by rw [eT1]; exact hP1
  have hD : va_D (KA h0 s.heap.size) ((h0, .inr (3, [.null, .null, .null, .null, .int 0, .int 0])) :: T1) := by rw [eT1]; exact hD1
  have hS := hS1
  clear hP1 hD1 hS1
  refine k_put (ty := tyX3 0) (v := .ref (ad2 0)) G hin inGX3 tyX3_ok nmX3 (k := 0) rfl (by decide) fl_X3_12 rfl rfl rfl (tyX3_ok 0 (by decide)) rfl rfl (Nat.le_of_ble_eq_true rfl) hP hD hS dX3_init_12 (fun H locs hP hD hS => ?_)
  replace hP : va_P D classes ((h0, .inr (3, [.ref (ad2 0), .null, .null, .null, .int 0, .int 0])) :: T1) _ := hP
  replace hD : va_D (KA h0 s.heap.size) ((h0, .inr (3, [.ref (ad2 0), .null, .null, .null, .int 0, .int 0])) :: T1) := hD
  refine lv_aload_n hx hb dX3_init_15 rfl (lv_at hl 0 rfl) ?_
  refine lv_iconst (v := (3 : Int32)) hx hb dX3_init_16 (by decide) ?_
  refine k_newa (N := 3) G ac_int hP hD hS (by decide) rfl (Nat.le_of_ble_eq_true rfl) (Nat.le_of_ble_eq_true rfl) (Nat.le_of_ble_eq_true rfl) dX3_init_17 (fun q3 H hP hD hS => ?_)
  obtain ⟨T2, eT2⟩ : ∃ T : va_W, T = T1 ++ [cArr q3 cA 3] := ⟨_, rfl⟩
  replace hP : va_P D classes ((h0, .inr (3, [.ref (ad2 0), .null, .null, .null, .int 0, .int 0])) :: T2) H := by rw [eT2]; exact hP
  replace hD : va_D (KA h0 s.heap.size) ((h0, .inr (3, [.ref (ad2 0), .null, .null, .null, .int 0, .int 0])) :: T2) := by rw [eT2]; exact hD
  refine k_put (ty := tyX3 1) (v := .ref q3) G hin inGX3 tyX3_ok nmX3 (k := 1) rfl (by decide) fl_X3_18 rfl rfl rfl (tyX3_ok 1 (by decide)) rfl rfl (Nat.le_of_ble_eq_true rfl) hP hD hS dX3_init_19 (fun H locs hP hD hS => ?_)
  replace hP : va_P D classes ((h0, .inr (3, [.ref (ad2 0), .ref q3, .null, .null, .int 0, .int 0])) :: T2) _ := hP
  replace hD : va_D (KA h0 s.heap.size) ((h0, .inr (3, [.ref (ad2 0), .ref q3, .null, .null, .int 0, .int 0])) :: T2) := hD
  refine lv_aload_n hx hb dX3_init_22 rfl (lv_at hl 0 rfl) ?_
  refine lv_iconst (v := (3 : Int32)) hx hb dX3_init_23 (by decide) ?_
  refine k_newa (N := 3) G ac_int hP hD hS (by decide) rfl (Nat.le_of_ble_eq_true rfl) (Nat.le_of_ble_eq_true rfl) (Nat.le_of_ble_eq_true rfl) dX3_init_24 (fun q4 H hP hD hS => ?_)
  obtain ⟨T3, eT3⟩ : ∃ T : va_W, T = T2 ++ [cArr q4 cA 3] := ⟨_, rfl⟩
  replace hP : va_P D classes ((h0, .inr (3, [.ref (ad2 0), .ref q3, .null, .null, .int 0, .int 0])) :: T3) H := by rw [eT3]; exact hP
  replace hD : va_D (KA h0 s.heap.size) ((h0, .inr (3, [.ref (ad2 0), .ref q3, .null, .null, .int 0, .int 0])) :: T3) := by rw [eT3]; exact hD
  refine k_put (ty := tyX3 2) (v := .ref q4) G hin inGX3 tyX3_ok nmX3 (k := 2) rfl (by decide) fl_X3_22 rfl rfl rfl (tyX3_ok 2 (by decide)) rfl rfl (Nat.le_of_ble_eq_true rfl) hP hD hS dX3_init_26 (fun H locs hP hD hS => ?_)
  replace hP : va_P D classes ((h0, .inr (3, [.ref (ad2 0), .ref q3, .ref q4, .null, .int 0, .int 0])) :: T3) _ := hP
  replace hD : va_D (KA h0 s.heap.size) ((h0, .inr (3, [.ref (ad2 0), .ref q3, .ref q4, .null, .int 0, .int 0])) :: T3) := hD
  refine lv_aload_n hx hb dX3_init_29 rfl (lv_at hl 0 rfl) ?_
  refine lv_iconst (v := (3 : Int32)) hx hb dX3_init_30 (by decide) ?_
  refine k_newa (N := 3) G ac_int hP hD hS (by decide) rfl (Nat.le_of_ble_eq_true rfl) (Nat.le_of_ble_eq_true rfl) (Nat.le_of_ble_eq_true rfl) dX3_init_31 (fun q5 H hP hD hS => ?_)
  obtain ⟨T4, eT4⟩ : ∃ T : va_W, T = T3 ++ [cArr q5 cA 3] := ⟨_, rfl⟩
  replace hP : va_P D classes ((h0, .inr (3, [.ref (ad2 0), .ref q3, .ref q4, .null, .int 0, .int 0])) :: T4) H := by rw [eT4]; exact hP
  replace hD : va_D (KA h0 s.heap.size) ((h0, .inr (3, [.ref (ad2 0), .ref q3, .ref q4, .null, .int 0, .int 0])) :: T4) := by rw [eT4]; exact hD
  refine k_put (ty := tyX3 3) (v := .ref q5) G hin inGX3 tyX3_ok nmX3 (k := 3) rfl (by decide) fl_X3_25 rfl rfl rfl (tyX3_ok 3 (by decide)) rfl rfl (Nat.le_of_ble_eq_true rfl) hP hD hS dX3_init_33 (fun H locs hP hD hS => ?_)
  replace hP : va_P D classes ((h0, .inr (3, [.ref (ad2 0), .ref q3, .ref q4, .ref q5, .int 0, .int 0])) :: T4) _ := hP
  replace hD : va_D (KA h0 s.heap.size) ((h0, .inr (3, [.ref (ad2 0), .ref q3, .ref q4, .ref q5, .int 0, .int 0])) :: T4) := hD
  have heq : ((h0, .inr (3, [.ref (ad2 0), .ref q3, .ref q4, .ref q5, .int 0, .int 0])) :: T4 : va_W) = wsO 7 shX3 (fun i => ([h0, ad2 0, ad2 1, ad2 2, q3, q4, q5] : List Nat).getD i 0) cA wX3 := by
    rw [eT4, eT3, eT2, eT1]
    simp only [List.nil_append, List.append_assoc, List.cons_append]
    exact to_wsO rfl (fun k hk => match k, hk with
    | 0, _ => rfl
    | 1, _ => rfl
    | 2, _ => rfl
    | 3, _ => rfl
    | 4, _ => rfl
    | 5, _ => rfl
    | 6, _ => rfl
    | q + 7, h => absurd h (by omega))
  rw [heq] at hP hD
  exact k_ret (ad := (fun i => ([h0, ad2 0, ad2 1, ad2 2, q3, q4, q5] : List Nat).getD i 0)) G hr hlocks rfl hP hD hS dX3_init_36
set_option maxHeartbeats 4000000 in
set_option maxRecDepth 20000 in
theorem k_X5 {l : Launch} {D : va_G} {cA : ClassId} {sa : Nat → Nat} {h0 sz : Nat} : KMet l D cA sa h0 sz 5 [.null, .null, .int 0, .int 0, .int 0] yX5_init cX5_init 1 2 50 3 171 [] 4 shX5 wX5 := by
  refine k_enter (by decide) (Nat.le_of_ble_eq_true rfl) ?_
  intro p e s m args below meth c ls hsz G hr hlocks hin hP hD hl
  replace hl : lv_has ls 1 [(0, .ref h0)] := hl
  replace G : Kx D cA sa (KA h0 s.heap.size) p s m args meth c RX5 cX5_init 1 := G
  obtain ⟨hx, hb, hml, hown, hg, hK, -⟩ := id G
  have hS : va_S (KA h0 s.heap.size) s.heap s.heap [] := va_S.rf
  refine lv_aload_n hx hb dX5_init_0 rfl (lv_at hl 0 rfl) ?_
  refine k_obj G ko_X5 oi_i oi_c hl.1 dX5_init_1 (Nat.le_of_ble_eq_true rfl) (Nat.le_of_ble_eq_true rfl) ?_
  refine lv_aload_n hx hb dX5_init_4 rfl (lv_at hl 0 rfl) ?_
  refine lv_bipush (v := (120 : Int32)) hx hb dX5_init_5 (by decide) ?_
  refine k_newa (N := 120) G ac_int hP hD hS (by decide) rfl (Nat.le_of_ble_eq_true rfl) (Nat.le_of_ble_eq_true rfl) (Nat.le_of_ble_eq_true rfl) dX5_init_7 (fun q1 H hP hD hS => ?_)
  obtain ⟨T1, eT1⟩ : ∃ T : va_W, T = ([] : va_W) ++ [cArr q1 cA 120] := ⟨_, rfl⟩
  replace hP : va_P D classes ((h0, .inr (5, [.null, .null, .int 0, .int 0, .int 0])) :: T1) H := by rw [eT1]; exact hP
  replace hD : va_D (KA h0 s.heap.size) ((h0, .inr (5, [.null, .null, .int 0, .int 0, .int 0])) :: T1) := by rw [eT1]; exact hD
  refine k_put (ty := tyX5 0) (v := .ref q1) G hin inGX5 tyX5_ok nmX5 (k := 0) rfl (by decide) fl_X5_9 rfl rfl rfl (tyX5_ok 0 (by decide)) rfl rfl (Nat.le_of_ble_eq_true rfl) hP hD hS dX5_init_9 (fun H locs hP hD hS => ?_)
  replace hP : va_P D classes ((h0, .inr (5, [.ref q1, .null, .int 0, .int 0, .int 0])) :: T1) _ := hP
  replace hD : va_D (KA h0 s.heap.size) ((h0, .inr (5, [.ref q1, .null, .int 0, .int 0, .int 0])) :: T1) := hD
  refine lv_aload_n hx hb dX5_init_12 rfl (lv_at hl 0 rfl) ?_
  refine k_new G inGX4 tyX4 tyX4_ok kk_X5_15 ki_X4 kn_X4 (ci := 4) rfl kd_X4 hP hD hS (Nat.le_of_ble_eq_true rfl) (Nat.le_of_ble_eq_true rfl) dX5_init_13 (fun q2 H hP hD hS => ?_)
  refine lv_dup hx hb dX5_init_16 rfl ?_
  refine lv_bipush (v := (12 : Int32)) hx hb dX5_init_17 (by decide) ?_
  refine k_ctor (ws := (h0, .inr (5, [.ref q1, .null, .int 0, .int 0, .int 0])) :: T1) (rest := [.ref q2, .ref h0]) G hP hD hS (k_X4 (N := 48) (by decide) (by decide) (by decide)) my_X4_init rfl kl_X5_17 ⟨Nat.le_of_ble_eq_true rfl, Nat.le_of_ble_eq_true rfl⟩ rfl hl.1 rfl (Nat.le_of_ble_eq_true rfl) dX5_init_19 ⟨Nat.le_of_ble_eq_true rfl, Nat.le_of_ble_eq_true rfl⟩ (fun ad3 H1 locs1 ead3 hP1 hD1 hS1 => ?_)
  clear hP hD hS
  subst ead3
  obtain ⟨T2, eT2⟩ : ∃ T : va_W, T = T1 ++ wsO 2 (shX4 48) ad3 cA (wX4 (imax 0 (12 : Int32))) := ⟨_, rfl⟩
  have hP : va_P D classes ((h0, .inr (5, [.ref q1, .null, .int 0, .int 0, .int 0])) :: T2) H1 := by rw [eT2]; exact hP1
  have hD : va_D (KA h0 s.heap.size) ((h0, .inr (5, [.ref q1, .null, .int 0, .int 0, .int 0])) :: T2) := by rw [eT2]; exact hD1
  have hS := hS1
  clear hP1 hD1 hS1
  refine k_put (ty := tyX5 1) (v := .ref (ad3 0)) G hin inGX5 tyX5_ok nmX5 (k := 1) rfl (by decide) fl_X5_20 rfl rfl rfl (tyX5_ok 1 (by decide)) rfl rfl (Nat.le_of_ble_eq_true rfl) hP hD hS dX5_init_22 (fun H locs hP hD hS => ?_)
  replace hP : va_P D classes ((h0, .inr (5, [.ref q1, .ref (ad3 0), .int 0, .int 0, .int 0])) :: T2) _ := hP
  replace hD : va_D (KA h0 s.heap.size) ((h0, .inr (5, [.ref q1, .ref (ad3 0), .int 0, .int 0, .int 0])) :: T2) := hD
  have heq : ((h0, .inr (5, [.ref q1, .ref (ad3 0), .int 0, .int 0, .int 0])) :: T2 : va_W) = wsO 4 shX5 (fun i => ([h0, q1, ad3 0, ad3 1] : List Nat).getD i 0) cA wX5 := by
    rw [eT2, eT1]
    simp only [List.nil_append, List.append_assoc, List.cons_append]
    exact to_wsO rfl (fun k hk => match k, hk with
    | 0, _ => rfl
    | 1, _ => rfl
    | 2, _ => rfl
    | 3, _ => rfl
    | q + 4, h => absurd h (by omega))
  rw [heq] at hP hD
  exact k_ret (ad := (fun i => ([h0, q1, ad3 0, ad3 1] : List Nat).getD i 0)) G hr hlocks rfl hP hD hS dX5_init_25
set_option maxHeartbeats 4000000 in
set_option maxRecDepth 20000 in
theorem k_X0 {l : Launch} {D : va_G} {cA : ClassId} {sa : Nat → Nat} {h0 sz : Nat} (b0 : F_X0_beginAnew 0 wX0a = some ((), wX0)) : KMet l D cA sa h0 sz 0 [.null, .null, .null, .null, .null, .null, .null, .int 0] yX0_init cX0_init 1 4 85 12 91 [] 13 shX0 wX0 := by
  refine k_enter (by decide) (Nat.le_of_ble_eq_true rfl) ?_
  intro p e s m args below meth c ls hsz G hr hlocks hin hP hD hl
  replace hl : lv_has ls 1 [(0, .ref h0)] := hl
  replace G : Kx D cA sa (KA h0 s.heap.size) p s m args meth c RX0 cX0_init 1 := G
  obtain ⟨hx, hb, hml, hown, hg, hK, -⟩ := id G
  have hS : va_S (KA h0 s.heap.size) s.heap s.heap [] := va_S.rf
  refine lv_aload_n hx hb dX0_init_0 rfl (lv_at hl 0 rfl) ?_
  refine k_obj G ko_X0 oi_i oi_c hl.1 dX0_init_1 (Nat.le_of_ble_eq_true rfl) (Nat.le_of_ble_eq_true rfl) ?_
  refine lv_aload_n hx hb dX0_init_4 rfl (lv_at hl 0 rfl) ?_
  refine lv_bipush (v := (7 : Int32)) hx hb dX0_init_5 (by decide) ?_
  refine k_newa (N := 7) G ac_int hP hD hS (by decide) rfl (Nat.le_of_ble_eq_true rfl) (Nat.le_of_ble_eq_true rfl) (Nat.le_of_ble_eq_true rfl) dX0_init_7 (fun q1 H hP hD hS => ?_)
  obtain ⟨T1, eT1⟩ : ∃ T : va_W, T = ([] : va_W) ++ [cArr q1 cA 7] := ⟨_, rfl⟩
  replace hP : va_P D classes ((h0, .inr (0, [.null, .null, .null, .null, .null, .null, .null, .int 0])) :: T1) H := by rw [eT1]; exact hP
  replace hD : va_D (KA h0 s.heap.size) ((h0, .inr (0, [.null, .null, .null, .null, .null, .null, .null, .int 0])) :: T1) := by rw [eT1]; exact hD
  refine k_put (ty := tyX0 0) (v := .ref q1) G hin inGX0 tyX0_ok nmX0 (k := 0) rfl (by decide) fl_X0_9 rfl rfl rfl (tyX0_ok 0 (by decide)) rfl rfl (Nat.le_of_ble_eq_true rfl) hP hD hS dX0_init_9 (fun H locs hP hD hS => ?_)
  replace hP : va_P D classes ((h0, .inr (0, [.ref q1, .null, .null, .null, .null, .null, .null, .int 0])) :: T1) _ := hP
  replace hD : va_D (KA h0 s.heap.size) ((h0, .inr (0, [.ref q1, .null, .null, .null, .null, .null, .null, .int 0])) :: T1) := hD
  refine lv_aload_n hx hb dX0_init_12 rfl (lv_at hl 0 rfl) ?_
  refine lv_iconst (v := (3 : Int32)) hx hb dX0_init_13 (by decide) ?_
  refine k_newa (N := 3) G ac_int hP hD hS (by decide) rfl (Nat.le_of_ble_eq_true rfl) (Nat.le_of_ble_eq_true rfl) (Nat.le_of_ble_eq_true rfl) dX0_init_14 (fun q2 H hP hD hS => ?_)
  obtain ⟨T2, eT2⟩ : ∃ T : va_W, T = T1 ++ [cArr q2 cA 3] := ⟨_, rfl⟩
  replace hP : va_P D classes ((h0, .inr (0, [.ref q1, .null, .null, .null, .null, .null, .null, .int 0])) :: T2) H := by rw [eT2]; exact hP
  replace hD : va_D (KA h0 s.heap.size) ((h0, .inr (0, [.ref q1, .null, .null, .null, .null, .null, .null, .int 0])) :: T2) := by rw [eT2]; exact hD
  refine k_put (ty := tyX0 1) (v := .ref q2) G hin inGX0 tyX0_ok nmX0 (k := 1) rfl (by decide) fl_X0_15 rfl rfl rfl (tyX0_ok 1 (by decide)) rfl rfl (Nat.le_of_ble_eq_true rfl) hP hD hS dX0_init_16 (fun H locs hP hD hS => ?_)
  replace hP : va_P D classes ((h0, .inr (0, [.ref q1, .ref q2, .null, .null, .null, .null, .null, .int 0])) :: T2) _ := hP
  replace hD : va_D (KA h0 s.heap.size) ((h0, .inr (0, [.ref q1, .ref q2, .null, .null, .null, .null, .null, .int 0])) :: T2) := hD
  refine lv_aload_n hx hb dX0_init_19 rfl (lv_at hl 0 rfl) ?_
  refine lv_iconst (v := (3 : Int32)) hx hb dX0_init_20 (by decide) ?_
  refine k_newa (N := 3) G ac_int hP hD hS (by decide) rfl (Nat.le_of_ble_eq_true rfl) (Nat.le_of_ble_eq_true rfl) (Nat.le_of_ble_eq_true rfl) dX0_init_21 (fun q3 H hP hD hS => ?_)
  obtain ⟨T3, eT3⟩ : ∃ T : va_W, T = T2 ++ [cArr q3 cA 3] := ⟨_, rfl⟩
  replace hP : va_P D classes ((h0, .inr (0, [.ref q1, .ref q2, .null, .null, .null, .null, .null, .int 0])) :: T3) H := by rw [eT3]; exact hP
  replace hD : va_D (KA h0 s.heap.size) ((h0, .inr (0, [.ref q1, .ref q2, .null, .null, .null, .null, .null, .int 0])) :: T3) := by rw [eT3]; exact hD
  refine k_put (ty := tyX0 2) (v := .ref q3) G hin inGX0 tyX0_ok nmX0 (k := 2) rfl (by decide) fl_X0_18 rfl rfl rfl (tyX0_ok 2 (by decide)) rfl rfl (Nat.le_of_ble_eq_true rfl) hP hD hS dX0_init_23 (fun H locs hP hD hS => ?_)
  replace hP : va_P D classes ((h0, .inr (0, [.ref q1, .ref q2, .ref q3, .null, .null, .null, .null, .int 0])) :: T3) _ := hP
  replace hD : va_D (KA h0 s.heap.size) ((h0, .inr (0, [.ref q1, .ref q2, .ref q3, .null, .null, .null, .null, .int 0])) :: T3) := hD
  refine lv_aload_n hx hb dX0_init_26 rfl (lv_at hl 0 rfl) ?_
  refine lv_iconst (v := (3 : Int32)) hx hb dX0_init_27 (by decide) ?_
  refine k_newa (N := 3) G ac_int hP hD hS (by decide) rfl (Nat.le_of_ble_eq_true rfl) (Nat.le_of_ble_eq_true rfl) (Nat.le_of_ble_eq_true rfl) dX0_init_28 (fun q4 H hP hD hS => ?_)
  obtain ⟨T4, eT4⟩ : ∃ T : va_W, T = T3 ++ [cArr q4 cA 3] := ⟨_, rfl⟩
  replace hP : va_P D classes ((h0, .inr (0, [.ref q1, .ref q2, .ref q3, .null, .null, .null, .null, .int 0])) :: T4) H := by rw [eT4]; exact hP
  replace hD : va_D (KA h0 s.heap.size) ((h0, .inr (0, [.ref q1, .ref q2, .ref q3, .null, .null, .null, .null, .int 0])) :: T4) := by rw [eT4]; exact hD
  refine k_put (ty := tyX0 3) (v := .ref q4) G hin inGX0 tyX0_ok nmX0 (k := 3) rfl (by decide) fl_X0_21 rfl rfl rfl (tyX0_ok 3 (by decide)) rfl rfl (Nat.le_of_ble_eq_true rfl) hP hD hS dX0_init_30 (fun H locs hP hD hS => ?_)
  replace hP : va_P D classes ((h0, .inr (0, [.ref q1, .ref q2, .ref q3, .ref q4, .null, .null, .null, .int 0])) :: T4) _ := hP
  replace hD : va_D (KA h0 s.heap.size) ((h0, .inr (0, [.ref q1, .ref q2, .ref q3, .ref q4, .null, .null, .null, .int 0])) :: T4) := hD
  refine lv_aload_n hx hb dX0_init_33 rfl (lv_at hl 0 rfl) ?_
  refine lv_iconst (v := (3 : Int32)) hx hb dX0_init_34 (by decide) ?_
  refine k_newa (N := 3) G ac_int hP hD hS (by decide) rfl (Nat.le_of_ble_eq_true rfl) (Nat.le_of_ble_eq_true rfl) (Nat.le_of_ble_eq_true rfl) dX0_init_35 (fun q5 H hP hD hS => ?_)
  obtain ⟨T5, eT5⟩ : ∃ T : va_W, T = T4 ++ [cArr q5 cA 3] := ⟨_, rfl⟩
  replace hP : va_P D classes ((h0, .inr (0, [.ref q1, .ref q2, .ref q3, .ref q4, .null, .null, .null, .int 0])) :: T5) H := by rw [eT5]; exact hP
  replace hD : va_D (KA h0 s.heap.size) ((h0, .inr (0, [.ref q1, .ref q2, .ref q3, .ref q4, .null, .null, .null, .int 0])) :: T5) := by rw [eT5]; exact hD
  refine k_put (ty := tyX0 4) (v := .ref q5) G hin inGX0 tyX0_ok nmX0 (k := 4) rfl (by decide) fl_X0_24 rfl rfl rfl (tyX0_ok 4 (by decide)) rfl rfl (Nat.le_of_ble_eq_true rfl) hP hD hS dX0_init_37 (fun H locs hP hD hS => ?_)
  replace hP : va_P D classes ((h0, .inr (0, [.ref q1, .ref q2, .ref q3, .ref q4, .ref q5, .null, .null, .int 0])) :: T5) _ := hP
  replace hD : va_D (KA h0 s.heap.size) ((h0, .inr (0, [.ref q1, .ref q2, .ref q3, .ref q4, .ref q5, .null, .null, .int 0])) :: T5) := hD
  refine lv_aload_n hx hb dX0_init_40 rfl (lv_at hl 0 rfl) ?_
  refine k_new G inGX4 tyX4 tyX4_ok kk_X0_27 ki_X4 kn_X4 (ci := 4) rfl kd_X4 hP hD hS (Nat.le_of_ble_eq_true rfl) (Nat.le_of_ble_eq_true rfl) dX0_init_41 (fun q6 H hP hD hS => ?_)
  refine lv_dup hx hb dX0_init_44 rfl ?_
  refine lv_bipush (v := (12 : Int32)) hx hb dX0_init_45 (by decide) ?_
  refine k_ctor (ws := (h0, .inr (0, [.ref q1, .ref q2, .ref q3, .ref q4, .ref q5, .null, .null, .int 0])) :: T5) (rest := [.ref q6, .ref h0]) G hP hD hS (k_X4 (N := 48) (by decide) (by decide) (by decide)) my_X4_init rfl kl_X0_29 ⟨Nat.le_of_ble_eq_true rfl, Nat.le_of_ble_eq_true rfl⟩ rfl hl.1 rfl (Nat.le_of_ble_eq_true rfl) dX0_init_47 ⟨Nat.le_of_ble_eq_true rfl, Nat.le_of_ble_eq_true rfl⟩ (fun ad7 H1 locs1 ead7 hP1 hD1 hS1 => ?_)
  clear hP hD hS
  subst ead7
  obtain ⟨T6, eT6⟩ : ∃ T : va_W, T = T5 ++ wsO 2 (shX4 48) ad7 cA (wX4 (imax 0 (12 : Int32))) := ⟨_, rfl⟩
  have hP : va_P D classes ((h0, .inr (0, [.ref q1, .ref q2, .ref q3, .ref q4, .ref q5, .null, .null, .int 0])) :: T6) H1 := by rw [eT6]; exact hP1
  have hD : va_D (KA h0 s.heap.size) ((h0, .inr (0, [.ref q1, .ref q2, .ref q3, .ref q4, .ref q5, .null, .null, .int 0])) :: T6) := by rw [eT6]; exact hD1
  have hS := hS1
  clear hP1 hD1 hS1
  refine k_put (ty := tyX0 5) (v := .ref (ad7 0)) G hin inGX0 tyX0_ok nmX0 (k := 5) rfl (by decide) fl_X0_32 rfl rfl rfl (tyX0_ok 5 (by decide)) rfl rfl (Nat.le_of_ble_eq_true rfl) hP hD hS dX0_init_50 (fun H locs hP hD hS => ?_)
  replace hP : va_P D classes ((h0, .inr (0, [.ref q1, .ref q2, .ref q3, .ref q4, .ref q5, .ref (ad7 0), .null, .int 0])) :: T6) _ := hP
  replace hD : va_D (KA h0 s.heap.size) ((h0, .inr (0, [.ref q1, .ref q2, .ref q3, .ref q4, .ref q5, .ref (ad7 0), .null, .int 0])) :: T6) := hD
  refine lv_aload_n hx hb dX0_init_53 rfl (lv_at hl 0 rfl) ?_
  refine k_new G inGX1 tyX1 tyX1_ok kk_X0_36 ki_X1 kn_X1 (ci := 1) rfl kd_X1 hP hD hS (Nat.le_of_ble_eq_true rfl) (Nat.le_of_ble_eq_true rfl) dX0_init_54 (fun q8 H hP hD hS => ?_)
  refine lv_dup hx hb dX0_init_57 rfl ?_
  refine k_ctorN (host := "DriveTicks") (ws := (h0, .inr (0, [.ref q1, .ref q2, .ref q3, .ref q4, .ref q5, .ref (ad7 0), .null, .int 0])) :: T6) (rest := [.ref q8, .ref h0]) G hP hD hS k_X1 my_X1_init rfl (by decide) ⟨Nat.le_of_ble_eq_true rfl, Nat.le_of_ble_eq_true rfl⟩ rfl hl.1 rfl (Nat.le_of_ble_eq_true rfl) dX0_init_58 ⟨Nat.le_of_ble_eq_true rfl, Nat.le_of_ble_eq_true rfl⟩ (fun ad9 H1 locs1 ead9 hP1 hD1 hS1 => ?_)
  clear hP hD hS
  subst ead9
  obtain ⟨T7, eT7⟩ : ∃ T : va_W, T = T6 ++ wsO 5 shX1 ad9 cA wX1 := ⟨_, rfl⟩
  have hP : va_P D classes ((h0, .inr (0, [.ref q1, .ref q2, .ref q3, .ref q4, .ref q5, .ref (ad7 0), .null, .int 0])) :: T7) H1 := by rw [eT7]; exact hP1
  have hD : va_D (KA h0 s.heap.size) ((h0, .inr (0, [.ref q1, .ref q2, .ref q3, .ref q4, .ref q5, .ref (ad7 0), .null, .int 0])) :: T7) := by rw [eT7]; exact hD1
  have hS := hS1
  clear hP1 hD1 hS1
  refine k_put (ty := tyX0 6) (v := .ref (ad9 0)) G hin inGX0 tyX0_ok nmX0 (k := 6) rfl (by decide) fl_X0_39 rfl rfl rfl (tyX0_ok 6 (by decide)) rfl rfl (Nat.le_of_ble_eq_true rfl) hP hD hS dX0_init_61 (fun H locs hP hD hS => ?_)
  replace hP : va_P D classes ((h0, .inr (0, [.ref q1, .ref q2, .ref q3, .ref q4, .ref q5, .ref (ad7 0), .ref (ad9 0), .int 0])) :: T7) _ := hP
  replace hD : va_D (KA h0 s.heap.size) ((h0, .inr (0, [.ref q1, .ref q2, .ref q3, .ref q4, .ref q5, .ref (ad7 0), .ref (ad9 0), .int 0])) :: T7) := hD
  refine lv_aload_n hx hb dX0_init_64 rfl (lv_at hl 0 rfl) ?_
  have heq : ((h0, .inr (0, [.ref q1, .ref q2, .ref q3, .ref q4, .ref q5, .ref (ad7 0), .ref (ad9 0), .int 0])) :: T7 : va_W) = wsO 13 shX0 (fun i => ([h0, q1, q2, q3, q4, q5, ad7 0, ad7 1, ad9 0, ad9 1, ad9 2, ad9 3, ad9 4] : List Nat).getD i 0) cA wX0a := by
    rw [eT7, eT6, eT5, eT4, eT3, eT2, eT1]
    simp only [List.nil_append, List.append_assoc, List.cons_append]
    exact to_wsO rfl (fun k hk => match k, hk with
    | 0, _ => rfl
    | 1, _ => rfl
    | 2, _ => rfl
    | 3, _ => rfl
    | 4, _ => rfl
    | 5, _ => rfl
    | 6, _ => rfl
    | 7, _ => rfl
    | 8, _ => rfl
    | 9, _ => rfl
    | 10, _ => rfl
    | 11, _ => rfl
    | 12, _ => rfl
    | q + 13, h => absurd h (by omega))
  rw [heq] at hP hD
  refine k_callV G hP hS hD.ad (c_X0_beginAnew hD.ad isX0_at0 b0) my_X0_beginAnew kl_X0_43 (by decide) rfl rfl ⟨Nat.le_of_ble_eq_true rfl, Nat.le_of_ble_eq_true rfl⟩ hl.1 dX0_init_65 ⟨Nat.le_of_ble_eq_true rfl, Nat.le_of_ble_eq_true rfl⟩ (fun H locs hP hS => ?_)
  replace hD : va_D (KA h0 s.heap.size) (wsO 13 shX0 (fun i => ([h0, q1, q2, q3, q4, q5, ad7 0, ad7 1, ad9 0, ad9 1, ad9 2, ad9 3, ad9 4] : List Nat).getD i 0) cA wX0) := hD.ad.D _ _ _
  exact k_ret (ad := (fun i => ([h0, q1, q2, q3, q4, q5, ad7 0, ad7 1, ad9 0, ad9 1, ad9 2, ad9 3, ad9 4] : List Nat).getD i 0)) G hr hlocks rfl hP hD hS dX0_init_68
set_option maxHeartbeats 4000000 in
set_option maxRecDepth 20000 in
theorem k_X6 {l : Launch} {D : va_G} {cA : ClassId} {sa : Nat → Nat} {h0 sz : Nat} (b0 : F_X0_beginAnew 0 wX0a = some ((), wX0)) : KMet l D cA sa h0 sz 6 [.null, .null, .null, .null, .null, .null, .null, .null] yX6_init cX6_init 1 5 105 45 552 [] 46 shC wC0 := by
  refine k_enter (by decide) (Nat.le_of_ble_eq_true rfl) ?_
  intro p e s m args below meth c ls hsz G hr hlocks hin hP hD hl
  replace hl : lv_has ls 1 [(0, .ref h0)] := hl
  replace G : Kx D cA sa (KA h0 s.heap.size) p s m args meth c RX6 cX6_init 1 := G
  obtain ⟨hx, hb, hml, hown, hg, hK, -⟩ := id G
  have hS : va_S (KA h0 s.heap.size) s.heap s.heap [] := va_S.rf
  refine lv_aload_n hx hb dX6_init_0 rfl (lv_at hl 0 rfl) ?_
  refine k_obj G ko_X6 oi_i oi_c hl.1 dX6_init_1 (Nat.le_of_ble_eq_true rfl) (Nat.le_of_ble_eq_true rfl) ?_
  refine lv_aload_n hx hb dX6_init_4 rfl (lv_at hl 0 rfl) ?_
  refine k_new G inGX0 tyX0 tyX0_ok kk_X6_7 ki_X0 kn_X0 (ci := 0) rfl kd_X0 hP hD hS (Nat.le_of_ble_eq_true rfl) (Nat.le_of_ble_eq_true rfl) dX6_init_5 (fun q1 H hP hD hS => ?_)
  refine lv_dup hx hb dX6_init_8 rfl ?_
  refine k_ctor (ws := (h0, .inr (6, [.null, .null, .null, .null, .null, .null, .null, .null])) :: []) (rest := [.ref q1, .ref h0]) G hP hD hS (k_X0 b0) my_X0_init rfl kl_X6_9 ⟨Nat.le_of_ble_eq_true rfl, Nat.le_of_ble_eq_true rfl⟩ rfl hl.1 rfl (Nat.le_of_ble_eq_true rfl) dX6_init_9 ⟨Nat.le_of_ble_eq_true rfl, Nat.le_of_ble_eq_true rfl⟩ (fun ad2 H1 locs1 ead2 hP1 hD1 hS1 => ?_)
  clear hP hD hS
  subst ead2
  obtain ⟨T1, eT1⟩ : ∃ T : va_W, T = ([] : va_W) ++ wsO 13 shX0 ad2 cA wX0 := ⟨_, rfl⟩
  have hP : va_P D classes ((h0, .inr (6, [.null, .null, .null, .null, .null, .null, .null, .null])) :: T1) H1 := by rw [eT1]; exact hP1
  have hD : va_D (KA h0 s.heap.size) ((h0, .inr (6, [.null, .null, .null, .null, .null, .null, .null, .null])) :: T1) := by rw [eT1]; exact hD1
  have hS := hS1
  clear hP1 hD1 hS1
  refine k_put (ty := tyX6 0) (v := .ref (ad2 0)) G hin inGX6 tyX6_ok nmX6 (k := 0) rfl (by decide) fl_X6_10 rfl rfl rfl (tyX6_ok 0 (by decide)) rfl rfl (Nat.le_of_ble_eq_true rfl) hP hD hS dX6_init_12 (fun H locs hP hD hS => ?_)
  replace hP : va_P D classes ((h0, .inr (6, [.ref (ad2 0), .null, .null, .null, .null, .null, .null, .null])) :: T1) _ := hP
  replace hD : va_D (KA h0 s.heap.size) ((h0, .inr (6, [.ref (ad2 0), .null, .null, .null, .null, .null, .null, .null])) :: T1) := hD
  refine lv_aload_n hx hb dX6_init_15 rfl (lv_at hl 0 rfl) ?_
  refine k_new G inGX0 tyX0 tyX0_ok kk_X6_7 ki_X0 kn_X0 (ci := 0) rfl kd_X0 hP hD hS (Nat.le_of_ble_eq_true rfl) (Nat.le_of_ble_eq_true rfl) dX6_init_16 (fun q3 H hP hD hS => ?_)
  refine lv_dup hx hb dX6_init_19 rfl ?_
  refine k_ctor (ws := (h0, .inr (6, [.ref (ad2 0), .null, .null, .null, .null, .null, .null, .null])) :: T1) (rest := [.ref q3, .ref h0]) G hP hD hS (k_X0 b0) my_X0_init rfl kl_X6_9 ⟨Nat.le_of_ble_eq_true rfl, Nat.le_of_ble_eq_true rfl⟩ rfl hl.1 rfl (Nat.le_of_ble_eq_true rfl) dX6_init_20 ⟨Nat.le_of_ble_eq_true rfl, Nat.le_of_ble_eq_true rfl⟩ (fun ad4 H1 locs1 ead4 hP1 hD1 hS1 => ?_)
  clear hP hD hS
  subst ead4
  obtain ⟨T2, eT2⟩ : ∃ T : va_W, T = T1 ++ wsO 13 shX0 ad4 cA wX0 := ⟨_, rfl⟩
  have hP : va_P D classes ((h0, .inr (6, [.ref (ad2 0), .null, .null, .null, .null, .null, .null, .null])) :: T2) H1 := by rw [eT2]; exact hP1
  have hD : va_D (KA h0 s.heap.size) ((h0, .inr (6, [.ref (ad2 0), .null, .null, .null, .null, .null, .null, .null])) :: T2) := by rw [eT2]; exact hD1
  have hS := hS1
  clear hP1 hD1 hS1
  refine k_put (ty := tyX6 1) (v := .ref (ad4 0)) G hin inGX6 tyX6_ok nmX6 (k := 1) rfl (by decide) fl_X6_16 rfl rfl rfl (tyX6_ok 1 (by decide)) rfl rfl (Nat.le_of_ble_eq_true rfl) hP hD hS dX6_init_23 (fun H locs hP hD hS => ?_)
  replace hP : va_P D classes ((h0, .inr (6, [.ref (ad2 0), .ref (ad4 0), .null, .null, .null, .null, .null, .null])) :: T2) _ := hP
  replace hD : va_D (KA h0 s.heap.size) ((h0, .inr (6, [.ref (ad2 0), .ref (ad4 0), .null, .null, .null, .null, .null, .null])) :: T2) := hD
  refine lv_aload_n hx hb dX6_init_26 rfl (lv_at hl 0 rfl) ?_
  refine k_new G inGX2 tyX2 tyX2_ok kk_X6_19 ki_X2 kn_X2 (ci := 2) rfl kd_X2 hP hD hS (Nat.le_of_ble_eq_true rfl) (Nat.le_of_ble_eq_true rfl) dX6_init_27 (fun q5 H hP hD hS => ?_)
  refine lv_dup hx hb dX6_init_30 rfl ?_
  refine k_ctorN (host := "DriveTicks") (ws := (h0, .inr (6, [.ref (ad2 0), .ref (ad4 0), .null, .null, .null, .null, .null, .null])) :: T2) (rest := [.ref q5, .ref h0]) G hP hD hS k_X2 my_X2_init rfl (by decide) ⟨Nat.le_of_ble_eq_true rfl, Nat.le_of_ble_eq_true rfl⟩ rfl hl.1 rfl (Nat.le_of_ble_eq_true rfl) dX6_init_31 ⟨Nat.le_of_ble_eq_true rfl, Nat.le_of_ble_eq_true rfl⟩ (fun ad6 H1 locs1 ead6 hP1 hD1 hS1 => ?_)
  clear hP hD hS
  subst ead6
  obtain ⟨T3, eT3⟩ : ∃ T : va_W, T = T2 ++ wsO 3 shX2 ad6 cA wX2 := ⟨_, rfl⟩
  have hP : va_P D classes ((h0, .inr (6, [.ref (ad2 0), .ref (ad4 0), .null, .null, .null, .null, .null, .null])) :: T3) H1 := by rw [eT3]; exact hP1
  have hD : va_D (KA h0 s.heap.size) ((h0, .inr (6, [.ref (ad2 0), .ref (ad4 0), .null, .null, .null, .null, .null, .null])) :: T3) := by rw [eT3]; exact hD1
  have hS := hS1
  clear hP1 hD1 hS1
  refine k_put (ty := tyX6 2) (v := .ref (ad6 0)) G hin inGX6 tyX6_ok nmX6 (k := 2) rfl (by decide) fl_X6_22 rfl rfl rfl (tyX6_ok 2 (by decide)) rfl rfl (Nat.le_of_ble_eq_true rfl) hP hD hS dX6_init_34 (fun H locs hP hD hS => ?_)
  replace hP : va_P D classes ((h0, .inr (6, [.ref (ad2 0), .ref (ad4 0), .ref (ad6 0), .null, .null, .null, .null, .null])) :: T3) _ := hP
  replace hD : va_D (KA h0 s.heap.size) ((h0, .inr (6, [.ref (ad2 0), .ref (ad4 0), .ref (ad6 0), .null, .null, .null, .null, .null])) :: T3) := hD
  refine lv_aload_n hx hb dX6_init_37 rfl (lv_at hl 0 rfl) ?_
  refine k_new G inGX4 tyX4 tyX4_ok kk_X6_26 ki_X4 kn_X4 (ci := 4) rfl kd_X4 hP hD hS (Nat.le_of_ble_eq_true rfl) (Nat.le_of_ble_eq_true rfl) dX6_init_38 (fun q7 H hP hD hS => ?_)
  refine lv_dup hx hb dX6_init_41 rfl ?_
  refine lv_bipush (v := (12 : Int32)) hx hb dX6_init_42 (by decide) ?_
  refine k_ctor (ws := (h0, .inr (6, [.ref (ad2 0), .ref (ad4 0), .ref (ad6 0), .null, .null, .null, .null, .null])) :: T3) (rest := [.ref q7, .ref h0]) G hP hD hS (k_X4 (N := 48) (by decide) (by decide) (by decide)) my_X4_init rfl kl_X6_28 ⟨Nat.le_of_ble_eq_true rfl, Nat.le_of_ble_eq_true rfl⟩ rfl hl.1 rfl (Nat.le_of_ble_eq_true rfl) dX6_init_44 ⟨Nat.le_of_ble_eq_true rfl, Nat.le_of_ble_eq_true rfl⟩ (fun ad8 H1 locs1 ead8 hP1 hD1 hS1 => ?_)
  clear hP hD hS
  subst ead8
  obtain ⟨T4, eT4⟩ : ∃ T : va_W, T = T3 ++ wsO 2 (shX4 48) ad8 cA (wX4 (imax 0 (12 : Int32))) := ⟨_, rfl⟩
  have hP : va_P D classes ((h0, .inr (6, [.ref (ad2 0), .ref (ad4 0), .ref (ad6 0), .null, .null, .null, .null, .null])) :: T4) H1 := by rw [eT4]; exact hP1
  have hD : va_D (KA h0 s.heap.size) ((h0, .inr (6, [.ref (ad2 0), .ref (ad4 0), .ref (ad6 0), .null, .null, .null, .null, .null])) :: T4) := by rw [eT4]; exact hD1
  have hS := hS1
  clear hP1 hD1 hS1
  refine k_put (ty := tyX6 3) (v := .ref (ad8 0)) G hin inGX6 tyX6_ok nmX6 (k := 3) rfl (by decide) fl_X6_31 rfl rfl rfl (tyX6_ok 3 (by decide)) rfl rfl (Nat.le_of_ble_eq_true rfl) hP hD hS dX6_init_47 (fun H locs hP hD hS => ?_)
  replace hP : va_P D classes ((h0, .inr (6, [.ref (ad2 0), .ref (ad4 0), .ref (ad6 0), .ref (ad8 0), .null, .null, .null, .null])) :: T4) _ := hP
  replace hD : va_D (KA h0 s.heap.size) ((h0, .inr (6, [.ref (ad2 0), .ref (ad4 0), .ref (ad6 0), .ref (ad8 0), .null, .null, .null, .null])) :: T4) := hD
  refine lv_aload_n hx hb dX6_init_50 rfl (lv_at hl 0 rfl) ?_
  refine k_new G inGX3 tyX3 tyX3_ok kk_X6_35 ki_X3 kn_X3 (ci := 3) rfl kd_X3 hP hD hS (Nat.le_of_ble_eq_true rfl) (Nat.le_of_ble_eq_true rfl) dX6_init_51 (fun q9 H hP hD hS => ?_)
  refine lv_dup hx hb dX6_init_54 rfl ?_
  refine k_ctorN (host := "DriveTicks") (ws := (h0, .inr (6, [.ref (ad2 0), .ref (ad4 0), .ref (ad6 0), .ref (ad8 0), .null, .null, .null, .null])) :: T4) (rest := [.ref q9, .ref h0]) G hP hD hS k_X3 my_X3_init rfl (by decide) ⟨Nat.le_of_ble_eq_true rfl, Nat.le_of_ble_eq_true rfl⟩ rfl hl.1 rfl (Nat.le_of_ble_eq_true rfl) dX6_init_55 ⟨Nat.le_of_ble_eq_true rfl, Nat.le_of_ble_eq_true rfl⟩ (fun ad10 H1 locs1 ead10 hP1 hD1 hS1 => ?_)
  clear hP hD hS
  subst ead10
  obtain ⟨T5, eT5⟩ : ∃ T : va_W, T = T4 ++ wsO 7 shX3 ad10 cA wX3 := ⟨_, rfl⟩
  have hP : va_P D classes ((h0, .inr (6, [.ref (ad2 0), .ref (ad4 0), .ref (ad6 0), .ref (ad8 0), .null, .null, .null, .null])) :: T5) H1 := by rw [eT5]; exact hP1
  have hD : va_D (KA h0 s.heap.size) ((h0, .inr (6, [.ref (ad2 0), .ref (ad4 0), .ref (ad6 0), .ref (ad8 0), .null, .null, .null, .null])) :: T5) := by rw [eT5]; exact hD1
  have hS := hS1
  clear hP1 hD1 hS1
  refine k_put (ty := tyX6 4) (v := .ref (ad10 0)) G hin inGX6 tyX6_ok nmX6 (k := 4) rfl (by decide) fl_X6_38 rfl rfl rfl (tyX6_ok 4 (by decide)) rfl rfl (Nat.le_of_ble_eq_true rfl) hP hD hS dX6_init_58 (fun H locs hP hD hS => ?_)
  replace hP : va_P D classes ((h0, .inr (6, [.ref (ad2 0), .ref (ad4 0), .ref (ad6 0), .ref (ad8 0), .ref (ad10 0), .null, .null, .null])) :: T5) _ := hP
  replace hD : va_D (KA h0 s.heap.size) ((h0, .inr (6, [.ref (ad2 0), .ref (ad4 0), .ref (ad6 0), .ref (ad8 0), .ref (ad10 0), .null, .null, .null])) :: T5) := hD
  refine lv_aload_n hx hb dX6_init_61 rfl (lv_at hl 0 rfl) ?_
  refine k_new G inGX4 tyX4 tyX4_ok kk_X6_26 ki_X4 kn_X4 (ci := 4) rfl kd_X4 hP hD hS (Nat.le_of_ble_eq_true rfl) (Nat.le_of_ble_eq_true rfl) dX6_init_62 (fun q11 H hP hD hS => ?_)
  refine lv_dup hx hb dX6_init_65 rfl ?_
  refine lv_bipush (v := (10 : Int32)) hx hb dX6_init_66 (by decide) ?_
  refine k_ctor (ws := (h0, .inr (6, [.ref (ad2 0), .ref (ad4 0), .ref (ad6 0), .ref (ad8 0), .ref (ad10 0), .null, .null, .null])) :: T5) (rest := [.ref q11, .ref h0]) G hP hD hS (k_X4 (N := 40) (by decide) (by decide) (by decide)) my_X4_init rfl kl_X6_28 ⟨Nat.le_of_ble_eq_true rfl, Nat.le_of_ble_eq_true rfl⟩ rfl hl.1 rfl (Nat.le_of_ble_eq_true rfl) dX6_init_68 ⟨Nat.le_of_ble_eq_true rfl, Nat.le_of_ble_eq_true rfl⟩ (fun ad12 H1 locs1 ead12 hP1 hD1 hS1 => ?_)
  clear hP hD hS
  subst ead12
  obtain ⟨T6, eT6⟩ : ∃ T : va_W, T = T5 ++ wsO 2 (shX4 40) ad12 cA (wX4 (imax 0 (10 : Int32))) := ⟨_, rfl⟩
  have hP : va_P D classes ((h0, .inr (6, [.ref (ad2 0), .ref (ad4 0), .ref (ad6 0), .ref (ad8 0), .ref (ad10 0), .null, .null, .null])) :: T6) H1 := by rw [eT6]; exact hP1
  have hD : va_D (KA h0 s.heap.size) ((h0, .inr (6, [.ref (ad2 0), .ref (ad4 0), .ref (ad6 0), .ref (ad8 0), .ref (ad10 0), .null, .null, .null])) :: T6) := by rw [eT6]; exact hD1
  have hS := hS1
  clear hP1 hD1 hS1
  refine k_put (ty := tyX6 5) (v := .ref (ad12 0)) G hin inGX6 tyX6_ok nmX6 (k := 5) rfl (by decide) fl_X6_42 rfl rfl rfl (tyX6_ok 5 (by decide)) rfl rfl (Nat.le_of_ble_eq_true rfl) hP hD hS dX6_init_71 (fun H locs hP hD hS => ?_)
  replace hP : va_P D classes ((h0, .inr (6, [.ref (ad2 0), .ref (ad4 0), .ref (ad6 0), .ref (ad8 0), .ref (ad10 0), .ref (ad12 0), .null, .null])) :: T6) _ := hP
  replace hD : va_D (KA h0 s.heap.size) ((h0, .inr (6, [.ref (ad2 0), .ref (ad4 0), .ref (ad6 0), .ref (ad8 0), .ref (ad10 0), .ref (ad12 0), .null, .null])) :: T6) := hD
  refine lv_aload_n hx hb dX6_init_74 rfl (lv_at hl 0 rfl) ?_
  refine k_new G inGX5 tyX5 tyX5_ok kk_X6_45 ki_X5 kn_X5 (ci := 5) rfl kd_X5 hP hD hS (Nat.le_of_ble_eq_true rfl) (Nat.le_of_ble_eq_true rfl) dX6_init_75 (fun q13 H hP hD hS => ?_)
  refine lv_dup hx hb dX6_init_78 rfl ?_
  refine k_ctorN (host := "DriveTicks") (ws := (h0, .inr (6, [.ref (ad2 0), .ref (ad4 0), .ref (ad6 0), .ref (ad8 0), .ref (ad10 0), .ref (ad12 0), .null, .null])) :: T6) (rest := [.ref q13, .ref h0]) G hP hD hS k_X5 my_X5_init rfl (by decide) ⟨Nat.le_of_ble_eq_true rfl, Nat.le_of_ble_eq_true rfl⟩ rfl hl.1 rfl (Nat.le_of_ble_eq_true rfl) dX6_init_79 ⟨Nat.le_of_ble_eq_true rfl, Nat.le_of_ble_eq_true rfl⟩ (fun ad14 H1 locs1 ead14 hP1 hD1 hS1 => ?_)
  clear hP hD hS
  subst ead14
  obtain ⟨T7, eT7⟩ : ∃ T : va_W, T = T6 ++ wsO 4 shX5 ad14 cA wX5 := ⟨_, rfl⟩
  have hP : va_P D classes ((h0, .inr (6, [.ref (ad2 0), .ref (ad4 0), .ref (ad6 0), .ref (ad8 0), .ref (ad10 0), .ref (ad12 0), .null, .null])) :: T7) H1 := by rw [eT7]; exact hP1
  have hD : va_D (KA h0 s.heap.size) ((h0, .inr (6, [.ref (ad2 0), .ref (ad4 0), .ref (ad6 0), .ref (ad8 0), .ref (ad10 0), .ref (ad12 0), .null, .null])) :: T7) := by rw [eT7]; exact hD1
  have hS := hS1
  clear hP1 hD1 hS1
  refine k_put (ty := tyX6 6) (v := .ref (ad14 0)) G hin inGX6 tyX6_ok nmX6 (k := 6) rfl (by decide) fl_X6_48 rfl rfl rfl (tyX6_ok 6 (by decide)) rfl rfl (Nat.le_of_ble_eq_true rfl) hP hD hS dX6_init_82 (fun H locs hP hD hS => ?_)
  replace hP : va_P D classes ((h0, .inr (6, [.ref (ad2 0), .ref (ad4 0), .ref (ad6 0), .ref (ad8 0), .ref (ad10 0), .ref (ad12 0), .ref (ad14 0), .null])) :: T7) _ := hP
  replace hD : va_D (KA h0 s.heap.size) ((h0, .inr (6, [.ref (ad2 0), .ref (ad4 0), .ref (ad6 0), .ref (ad8 0), .ref (ad10 0), .ref (ad12 0), .ref (ad14 0), .null])) :: T7) := hD
  refine lv_aload_n hx hb dX6_init_85 rfl (lv_at hl 0 rfl) ?_
  refine lv_iconst (v := (3 : Int32)) hx hb dX6_init_86 (by decide) ?_
  refine k_newa (N := 3) G ac_int hP hD hS (by decide) rfl (Nat.le_of_ble_eq_true rfl) (Nat.le_of_ble_eq_true rfl) (Nat.le_of_ble_eq_true rfl) dX6_init_87 (fun q15 H hP hD hS => ?_)
  obtain ⟨T8, eT8⟩ : ∃ T : va_W, T = T7 ++ [cArr q15 cA 3] := ⟨_, rfl⟩
  replace hP : va_P D classes ((h0, .inr (6, [.ref (ad2 0), .ref (ad4 0), .ref (ad6 0), .ref (ad8 0), .ref (ad10 0), .ref (ad12 0), .ref (ad14 0), .null])) :: T8) H := by rw [eT8]; exact hP
  replace hD : va_D (KA h0 s.heap.size) ((h0, .inr (6, [.ref (ad2 0), .ref (ad4 0), .ref (ad6 0), .ref (ad8 0), .ref (ad10 0), .ref (ad12 0), .ref (ad14 0), .null])) :: T8) := by rw [eT8]; exact hD
  refine k_put (ty := tyX6 7) (v := .ref q15) G hin inGX6 tyX6_ok nmX6 (k := 7) rfl (by decide) fl_X6_52 rfl rfl rfl (tyX6_ok 7 (by decide)) rfl rfl (Nat.le_of_ble_eq_true rfl) hP hD hS dX6_init_89 (fun H locs hP hD hS => ?_)
  replace hP : va_P D classes ((h0, .inr (6, [.ref (ad2 0), .ref (ad4 0), .ref (ad6 0), .ref (ad8 0), .ref (ad10 0), .ref (ad12 0), .ref (ad14 0), .ref q15])) :: T8) _ := hP
  replace hD : va_D (KA h0 s.heap.size) ((h0, .inr (6, [.ref (ad2 0), .ref (ad4 0), .ref (ad6 0), .ref (ad8 0), .ref (ad10 0), .ref (ad12 0), .ref (ad14 0), .ref q15])) :: T8) := hD
  have heq : ((h0, .inr (6, [.ref (ad2 0), .ref (ad4 0), .ref (ad6 0), .ref (ad8 0), .ref (ad10 0), .ref (ad12 0), .ref (ad14 0), .ref q15])) :: T8 : va_W) = wsO 46 shC (fun i => ([h0, ad2 0, ad2 1, ad2 2, ad2 3, ad2 4, ad2 5, ad2 6, ad2 7, ad2 8, ad2 9, ad2 10, ad2 11, ad2 12, ad4 0, ad4 1, ad4 2, ad4 3, ad4 4, ad4 5, ad4 6, ad4 7, ad4 8, ad4 9, ad4 10, ad4 11, ad4 12, ad6 0, ad6 1, ad6 2, ad8 0, ad8 1, ad10 0, ad10 1, ad10 2, ad10 3, ad10 4, ad10 5, ad10 6, ad12 0, ad12 1, ad14 0, ad14 1, ad14 2, ad14 3, q15] : List Nat).getD i 0) cA wC0 := by
    rw [eT8, eT7, eT6, eT5, eT4, eT3, eT2, eT1]
    simp only [List.nil_append, List.append_assoc, List.cons_append]
    exact to_wsO rfl (fun k hk => match k, hk with
    | 0, _ => rfl
    | 1, _ => rfl
    | 2, _ => rfl
    | 3, _ => rfl
    | 4, _ => rfl
    | 5, _ => rfl
    | 6, _ => rfl
    | 7, _ => rfl
    | 8, _ => rfl
    | 9, _ => rfl
    | 10, _ => rfl
    | 11, _ => rfl
    | 12, _ => rfl
    | 13, _ => rfl
    | 14, _ => rfl
    | 15, _ => rfl
    | 16, _ => rfl
    | 17, _ => rfl
    | 18, _ => rfl
    | 19, _ => rfl
    | 20, _ => rfl
    | 21, _ => rfl
    | 22, _ => rfl
    | 23, _ => rfl
    | 24, _ => rfl
    | 25, _ => rfl
    | 26, _ => rfl
    | 27, _ => rfl
    | 28, _ => rfl
    | 29, _ => rfl
    | 30, _ => rfl
    | 31, _ => rfl
    | 32, _ => rfl
    | 33, _ => rfl
    | 34, _ => rfl
    | 35, _ => rfl
    | 36, _ => rfl
    | 37, _ => rfl
    | 38, _ => rfl
    | 39, _ => rfl
    | 40, _ => rfl
    | 41, _ => rfl
    | 42, _ => rfl
    | 43, _ => rfl
    | 44, _ => rfl
    | 45, _ => rfl
    | q + 46, h => absurd h (by omega))
  rw [heq] at hP hD
  exact k_ret (ad := (fun i => ([h0, ad2 0, ad2 1, ad2 2, ad2 3, ad2 4, ad2 5, ad2 6, ad2 7, ad2 8, ad2 9, ad2 10, ad2 11, ad2 12, ad4 0, ad4 1, ad4 2, ad4 3, ad4 4, ad4 5, ad4 6, ad4 7, ad4 8, ad4 9, ad4 10, ad4 11, ad4 12, ad6 0, ad6 1, ad6 2, ad8 0, ad8 1, ad10 0, ad10 1, ad10 2, ad10 3, ad10 4, ad10 5, ad10 6, ad12 0, ad12 1, ad14 0, ad14 1, ad14 2, ad14 3, q15] : List Nat).getD i 0)) G hr hlocks rfl hP hD hS dX6_init_92
set_option maxHeartbeats 4000000 in
set_option maxRecDepth 20000 in
theorem k_X7 {l : Launch} {D : va_G} {cA : ClassId} {sa : Nat → Nat} {h0 sz : Nat} (b7 : F_X7_begins wX7a = some ((), wX7)) : KMet l D cA sa h0 sz 7 [.null, .null, .null, .null, .null, .null, .int 0, .int 0, .null, .null, .null, .int 0, .null, .int 0, .int 0, .null, .null, .null, .null, .int 0, .null, .null, .int 0, .int 0, .int 0, .int 0, .int 0, .null, .null, .null, .null, .null, .int 0, .int 0, .int 0, .int 0, .int 0] yX7_init cX7_init 1 1 21 21 483 [] 22 shM wX7 := by
  refine k_enter (by decide) (Nat.le_of_ble_eq_true rfl) ?_
  intro p e s m args below meth c ls hsz G hr hlocks hin hP hD hl
  replace hl : lv_has ls 1 [(0, .ref h0)] := hl
  replace G : Kx D cA sa (KA h0 s.heap.size) p s m args meth c RX7 cX7_init 1 := G
  obtain ⟨hx, hb, hml, hown, hg, hK, -⟩ := id G
  have hS : va_S (KA h0 s.heap.size) s.heap s.heap [] := va_S.rf
  refine lv_aload_n hx hb dX7_init_0 rfl (lv_at hl 0 rfl) ?_
  refine k_obj G ko_X7 oi_i oi_c hl.1 dX7_init_1 (Nat.le_of_ble_eq_true rfl) (Nat.le_of_ble_eq_true rfl) ?_
  refine lv_aload_n hx hb dX7_init_4 rfl (lv_at hl 0 rfl) ?_
  refine lv_iconst (v := (3 : Int32)) hx hb dX7_init_5 (by decide) ?_
  refine k_newa (N := 3) G ac_int hP hD hS (by decide) rfl (Nat.le_of_ble_eq_true rfl) (Nat.le_of_ble_eq_true rfl) (Nat.le_of_ble_eq_true rfl) dX7_init_6 (fun q1 H hP hD hS => ?_)
  obtain ⟨T1, eT1⟩ : ∃ T : va_W, T = ([] : va_W) ++ [cArr q1 cA 3] := ⟨_, rfl⟩
  replace hP : va_P D classes ((h0, .inr (7, [.null, .null, .null, .null, .null, .null, .int 0, .int 0, .null, .null, .null, .int 0, .null, .int 0, .int 0, .null, .null, .null, .null, .int 0, .null, .null, .int 0, .int 0, .int 0, .int 0, .int 0, .null, .null, .null, .null, .null, .int 0, .int 0, .int 0, .int 0, .int 0])) :: T1) H := by rw [eT1]; exact hP
  replace hD : va_D (KA h0 s.heap.size) ((h0, .inr (7, [.null, .null, .null, .null, .null, .null, .int 0, .int 0, .null, .null, .null, .int 0, .null, .int 0, .int 0, .null, .null, .null, .null, .int 0, .null, .null, .int 0, .int 0, .int 0, .int 0, .int 0, .null, .null, .null, .null, .null, .int 0, .int 0, .int 0, .int 0, .int 0])) :: T1) := by rw [eT1]; exact hD
  refine k_put (ty := tyX7 0) (v := .ref q1) G hin inGX7 tyX7_ok nmX7 (k := 0) rfl (by decide) fl_X7_1 rfl rfl rfl (tyX7_ok 0 (by decide)) rfl rfl (Nat.le_of_ble_eq_true rfl) hP hD hS dX7_init_8 (fun H locs hP hD hS => ?_)
  replace hP : va_P D classes ((h0, .inr (7, [.ref q1, .null, .null, .null, .null, .null, .int 0, .int 0, .null, .null, .null, .int 0, .null, .int 0, .int 0, .null, .null, .null, .null, .int 0, .null, .null, .int 0, .int 0, .int 0, .int 0, .int 0, .null, .null, .null, .null, .null, .int 0, .int 0, .int 0, .int 0, .int 0])) :: T1) _ := hP
  replace hD : va_D (KA h0 s.heap.size) ((h0, .inr (7, [.ref q1, .null, .null, .null, .null, .null, .int 0, .int 0, .null, .null, .null, .int 0, .null, .int 0, .int 0, .null, .null, .null, .null, .int 0, .null, .null, .int 0, .int 0, .int 0, .int 0, .int 0, .null, .null, .null, .null, .null, .int 0, .int 0, .int 0, .int 0, .int 0])) :: T1) := hD
  refine lv_aload_n hx hb dX7_init_11 rfl (lv_at hl 0 rfl) ?_
  refine lv_bipush (v := (7 : Int32)) hx hb dX7_init_12 (by decide) ?_
  refine k_newa (N := 7) G ac_int hP hD hS (by decide) rfl (Nat.le_of_ble_eq_true rfl) (Nat.le_of_ble_eq_true rfl) (Nat.le_of_ble_eq_true rfl) dX7_init_14 (fun q2 H hP hD hS => ?_)
  obtain ⟨T2, eT2⟩ : ∃ T : va_W, T = T1 ++ [cArr q2 cA 7] := ⟨_, rfl⟩
  replace hP : va_P D classes ((h0, .inr (7, [.ref q1, .null, .null, .null, .null, .null, .int 0, .int 0, .null, .null, .null, .int 0, .null, .int 0, .int 0, .null, .null, .null, .null, .int 0, .null, .null, .int 0, .int 0, .int 0, .int 0, .int 0, .null, .null, .null, .null, .null, .int 0, .int 0, .int 0, .int 0, .int 0])) :: T2) H := by rw [eT2]; exact hP
  replace hD : va_D (KA h0 s.heap.size) ((h0, .inr (7, [.ref q1, .null, .null, .null, .null, .null, .int 0, .int 0, .null, .null, .null, .int 0, .null, .int 0, .int 0, .null, .null, .null, .null, .int 0, .null, .null, .int 0, .int 0, .int 0, .int 0, .int 0, .null, .null, .null, .null, .null, .int 0, .int 0, .int 0, .int 0, .int 0])) :: T2) := by rw [eT2]; exact hD
  refine k_put (ty := tyX7 1) (v := .ref q2) G hin inGX7 tyX7_ok nmX7 (k := 1) rfl (by decide) fl_X7_13 rfl rfl rfl (tyX7_ok 1 (by decide)) rfl rfl (Nat.le_of_ble_eq_true rfl) hP hD hS dX7_init_16 (fun H locs hP hD hS => ?_)
  replace hP : va_P D classes ((h0, .inr (7, [.ref q1, .ref q2, .null, .null, .null, .null, .int 0, .int 0, .null, .null, .null, .int 0, .null, .int 0, .int 0, .null, .null, .null, .null, .int 0, .null, .null, .int 0, .int 0, .int 0, .int 0, .int 0, .null, .null, .null, .null, .null, .int 0, .int 0, .int 0, .int 0, .int 0])) :: T2) _ := hP
  replace hD : va_D (KA h0 s.heap.size) ((h0, .inr (7, [.ref q1, .ref q2, .null, .null, .null, .null, .int 0, .int 0, .null, .null, .null, .int 0, .null, .int 0, .int 0, .null, .null, .null, .null, .int 0, .null, .null, .int 0, .int 0, .int 0, .int 0, .int 0, .null, .null, .null, .null, .null, .int 0, .int 0, .int 0, .int 0, .int 0])) :: T2) := hD
  refine lv_aload_n hx hb dX7_init_19 rfl (lv_at hl 0 rfl) ?_
  refine lv_iconst (v := (3 : Int32)) hx hb dX7_init_20 (by decide) ?_
  refine k_newa (N := 3) G ac_int hP hD hS (by decide) rfl (Nat.le_of_ble_eq_true rfl) (Nat.le_of_ble_eq_true rfl) (Nat.le_of_ble_eq_true rfl) dX7_init_21 (fun q3 H hP hD hS => ?_)
  obtain ⟨T3, eT3⟩ : ∃ T : va_W, T = T2 ++ [cArr q3 cA 3] := ⟨_, rfl⟩
  replace hP : va_P D classes ((h0, .inr (7, [.ref q1, .ref q2, .null, .null, .null, .null, .int 0, .int 0, .null, .null, .null, .int 0, .null, .int 0, .int 0, .null, .null, .null, .null, .int 0, .null, .null, .int 0, .int 0, .int 0, .int 0, .int 0, .null, .null, .null, .null, .null, .int 0, .int 0, .int 0, .int 0, .int 0])) :: T3) H := by rw [eT3]; exact hP
  replace hD : va_D (KA h0 s.heap.size) ((h0, .inr (7, [.ref q1, .ref q2, .null, .null, .null, .null, .int 0, .int 0, .null, .null, .null, .int 0, .null, .int 0, .int 0, .null, .null, .null, .null, .int 0, .null, .null, .int 0, .int 0, .int 0, .int 0, .int 0, .null, .null, .null, .null, .null, .int 0, .int 0, .int 0, .int 0, .int 0])) :: T3) := by rw [eT3]; exact hD
  refine k_put (ty := tyX7 2) (v := .ref q3) G hin inGX7 tyX7_ok nmX7 (k := 2) rfl (by decide) fl_X7_16 rfl rfl rfl (tyX7_ok 2 (by decide)) rfl rfl (Nat.le_of_ble_eq_true rfl) hP hD hS dX7_init_23 (fun H locs hP hD hS => ?_)
  replace hP : va_P D classes ((h0, .inr (7, [.ref q1, .ref q2, .ref q3, .null, .null, .null, .int 0, .int 0, .null, .null, .null, .int 0, .null, .int 0, .int 0, .null, .null, .null, .null, .int 0, .null, .null, .int 0, .int 0, .int 0, .int 0, .int 0, .null, .null, .null, .null, .null, .int 0, .int 0, .int 0, .int 0, .int 0])) :: T3) _ := hP
  replace hD : va_D (KA h0 s.heap.size) ((h0, .inr (7, [.ref q1, .ref q2, .ref q3, .null, .null, .null, .int 0, .int 0, .null, .null, .null, .int 0, .null, .int 0, .int 0, .null, .null, .null, .null, .int 0, .null, .null, .int 0, .int 0, .int 0, .int 0, .int 0, .null, .null, .null, .null, .null, .int 0, .int 0, .int 0, .int 0, .int 0])) :: T3) := hD
  refine lv_aload_n hx hb dX7_init_26 rfl (lv_at hl 0 rfl) ?_
  refine lv_iconst (v := (3 : Int32)) hx hb dX7_init_27 (by decide) ?_
  refine k_newa (N := 3) G ac_int hP hD hS (by decide) rfl (Nat.le_of_ble_eq_true rfl) (Nat.le_of_ble_eq_true rfl) (Nat.le_of_ble_eq_true rfl) dX7_init_28 (fun q4 H hP hD hS => ?_)
  obtain ⟨T4, eT4⟩ : ∃ T : va_W, T = T3 ++ [cArr q4 cA 3] := ⟨_, rfl⟩
  replace hP : va_P D classes ((h0, .inr (7, [.ref q1, .ref q2, .ref q3, .null, .null, .null, .int 0, .int 0, .null, .null, .null, .int 0, .null, .int 0, .int 0, .null, .null, .null, .null, .int 0, .null, .null, .int 0, .int 0, .int 0, .int 0, .int 0, .null, .null, .null, .null, .null, .int 0, .int 0, .int 0, .int 0, .int 0])) :: T4) H := by rw [eT4]; exact hP
  replace hD : va_D (KA h0 s.heap.size) ((h0, .inr (7, [.ref q1, .ref q2, .ref q3, .null, .null, .null, .int 0, .int 0, .null, .null, .null, .int 0, .null, .int 0, .int 0, .null, .null, .null, .null, .int 0, .null, .null, .int 0, .int 0, .int 0, .int 0, .int 0, .null, .null, .null, .null, .null, .int 0, .int 0, .int 0, .int 0, .int 0])) :: T4) := by rw [eT4]; exact hD
  refine k_put (ty := tyX7 3) (v := .ref q4) G hin inGX7 tyX7_ok nmX7 (k := 3) rfl (by decide) fl_X7_19 rfl rfl rfl (tyX7_ok 3 (by decide)) rfl rfl (Nat.le_of_ble_eq_true rfl) hP hD hS dX7_init_30 (fun H locs hP hD hS => ?_)
  replace hP : va_P D classes ((h0, .inr (7, [.ref q1, .ref q2, .ref q3, .ref q4, .null, .null, .int 0, .int 0, .null, .null, .null, .int 0, .null, .int 0, .int 0, .null, .null, .null, .null, .int 0, .null, .null, .int 0, .int 0, .int 0, .int 0, .int 0, .null, .null, .null, .null, .null, .int 0, .int 0, .int 0, .int 0, .int 0])) :: T4) _ := hP
  replace hD : va_D (KA h0 s.heap.size) ((h0, .inr (7, [.ref q1, .ref q2, .ref q3, .ref q4, .null, .null, .int 0, .int 0, .null, .null, .null, .int 0, .null, .int 0, .int 0, .null, .null, .null, .null, .int 0, .null, .null, .int 0, .int 0, .int 0, .int 0, .int 0, .null, .null, .null, .null, .null, .int 0, .int 0, .int 0, .int 0, .int 0])) :: T4) := hD
  refine lv_aload_n hx hb dX7_init_33 rfl (lv_at hl 0 rfl) ?_
  refine lv_iconst (v := (3 : Int32)) hx hb dX7_init_34 (by decide) ?_
  refine k_newa (N := 3) G ac_int hP hD hS (by decide) rfl (Nat.le_of_ble_eq_true rfl) (Nat.le_of_ble_eq_true rfl) (Nat.le_of_ble_eq_true rfl) dX7_init_35 (fun q5 H hP hD hS => ?_)
  obtain ⟨T5, eT5⟩ : ∃ T : va_W, T = T4 ++ [cArr q5 cA 3] := ⟨_, rfl⟩
  replace hP : va_P D classes ((h0, .inr (7, [.ref q1, .ref q2, .ref q3, .ref q4, .null, .null, .int 0, .int 0, .null, .null, .null, .int 0, .null, .int 0, .int 0, .null, .null, .null, .null, .int 0, .null, .null, .int 0, .int 0, .int 0, .int 0, .int 0, .null, .null, .null, .null, .null, .int 0, .int 0, .int 0, .int 0, .int 0])) :: T5) H := by rw [eT5]; exact hP
  replace hD : va_D (KA h0 s.heap.size) ((h0, .inr (7, [.ref q1, .ref q2, .ref q3, .ref q4, .null, .null, .int 0, .int 0, .null, .null, .null, .int 0, .null, .int 0, .int 0, .null, .null, .null, .null, .int 0, .null, .null, .int 0, .int 0, .int 0, .int 0, .int 0, .null, .null, .null, .null, .null, .int 0, .int 0, .int 0, .int 0, .int 0])) :: T5) := by rw [eT5]; exact hD
  refine k_put (ty := tyX7 4) (v := .ref q5) G hin inGX7 tyX7_ok nmX7 (k := 4) rfl (by decide) fl_X7_22 rfl rfl rfl (tyX7_ok 4 (by decide)) rfl rfl (Nat.le_of_ble_eq_true rfl) hP hD hS dX7_init_37 (fun H locs hP hD hS => ?_)
  replace hP : va_P D classes ((h0, .inr (7, [.ref q1, .ref q2, .ref q3, .ref q4, .ref q5, .null, .int 0, .int 0, .null, .null, .null, .int 0, .null, .int 0, .int 0, .null, .null, .null, .null, .int 0, .null, .null, .int 0, .int 0, .int 0, .int 0, .int 0, .null, .null, .null, .null, .null, .int 0, .int 0, .int 0, .int 0, .int 0])) :: T5) _ := hP
  replace hD : va_D (KA h0 s.heap.size) ((h0, .inr (7, [.ref q1, .ref q2, .ref q3, .ref q4, .ref q5, .null, .int 0, .int 0, .null, .null, .null, .int 0, .null, .int 0, .int 0, .null, .null, .null, .null, .int 0, .null, .null, .int 0, .int 0, .int 0, .int 0, .int 0, .null, .null, .null, .null, .null, .int 0, .int 0, .int 0, .int 0, .int 0])) :: T5) := hD
  refine lv_aload_n hx hb dX7_init_40 rfl (lv_at hl 0 rfl) ?_
  refine lv_iconst (v := (3 : Int32)) hx hb dX7_init_41 (by decide) ?_
  refine k_newa (N := 3) G ac_int hP hD hS (by decide) rfl (Nat.le_of_ble_eq_true rfl) (Nat.le_of_ble_eq_true rfl) (Nat.le_of_ble_eq_true rfl) dX7_init_42 (fun q6 H hP hD hS => ?_)
  obtain ⟨T6, eT6⟩ : ∃ T : va_W, T = T5 ++ [cArr q6 cA 3] := ⟨_, rfl⟩
  replace hP : va_P D classes ((h0, .inr (7, [.ref q1, .ref q2, .ref q3, .ref q4, .ref q5, .null, .int 0, .int 0, .null, .null, .null, .int 0, .null, .int 0, .int 0, .null, .null, .null, .null, .int 0, .null, .null, .int 0, .int 0, .int 0, .int 0, .int 0, .null, .null, .null, .null, .null, .int 0, .int 0, .int 0, .int 0, .int 0])) :: T6) H := by rw [eT6]; exact hP
  replace hD : va_D (KA h0 s.heap.size) ((h0, .inr (7, [.ref q1, .ref q2, .ref q3, .ref q4, .ref q5, .null, .int 0, .int 0, .null, .null, .null, .int 0, .null, .int 0, .int 0, .null, .null, .null, .null, .int 0, .null, .null, .int 0, .int 0, .int 0, .int 0, .int 0, .null, .null, .null, .null, .null, .int 0, .int 0, .int 0, .int 0, .int 0])) :: T6) := by rw [eT6]; exact hD
  refine k_put (ty := tyX7 5) (v := .ref q6) G hin inGX7 tyX7_ok nmX7 (k := 5) rfl (by decide) fl_X7_25 rfl rfl rfl (tyX7_ok 5 (by decide)) rfl rfl (Nat.le_of_ble_eq_true rfl) hP hD hS dX7_init_44 (fun H locs hP hD hS => ?_)
  replace hP : va_P D classes ((h0, .inr (7, [.ref q1, .ref q2, .ref q3, .ref q4, .ref q5, .ref q6, .int 0, .int 0, .null, .null, .null, .int 0, .null, .int 0, .int 0, .null, .null, .null, .null, .int 0, .null, .null, .int 0, .int 0, .int 0, .int 0, .int 0, .null, .null, .null, .null, .null, .int 0, .int 0, .int 0, .int 0, .int 0])) :: T6) _ := hP
  replace hD : va_D (KA h0 s.heap.size) ((h0, .inr (7, [.ref q1, .ref q2, .ref q3, .ref q4, .ref q5, .ref q6, .int 0, .int 0, .null, .null, .null, .int 0, .null, .int 0, .int 0, .null, .null, .null, .null, .int 0, .null, .null, .int 0, .int 0, .int 0, .int 0, .int 0, .null, .null, .null, .null, .null, .int 0, .int 0, .int 0, .int 0, .int 0])) :: T6) := hD
  refine lv_aload_n hx hb dX7_init_47 rfl (lv_at hl 0 rfl) ?_
  refine lv_bipush (v := (12 : Int32)) hx hb dX7_init_48 (by decide) ?_
  refine k_newa (N := 12) G ac_int hP hD hS (by decide) rfl (Nat.le_of_ble_eq_true rfl) (Nat.le_of_ble_eq_true rfl) (Nat.le_of_ble_eq_true rfl) dX7_init_50 (fun q7 H hP hD hS => ?_)
  obtain ⟨T7, eT7⟩ : ∃ T : va_W, T = T6 ++ [cArr q7 cA 12] := ⟨_, rfl⟩
  replace hP : va_P D classes ((h0, .inr (7, [.ref q1, .ref q2, .ref q3, .ref q4, .ref q5, .ref q6, .int 0, .int 0, .null, .null, .null, .int 0, .null, .int 0, .int 0, .null, .null, .null, .null, .int 0, .null, .null, .int 0, .int 0, .int 0, .int 0, .int 0, .null, .null, .null, .null, .null, .int 0, .int 0, .int 0, .int 0, .int 0])) :: T7) H := by rw [eT7]; exact hP
  replace hD : va_D (KA h0 s.heap.size) ((h0, .inr (7, [.ref q1, .ref q2, .ref q3, .ref q4, .ref q5, .ref q6, .int 0, .int 0, .null, .null, .null, .int 0, .null, .int 0, .int 0, .null, .null, .null, .null, .int 0, .null, .null, .int 0, .int 0, .int 0, .int 0, .int 0, .null, .null, .null, .null, .null, .int 0, .int 0, .int 0, .int 0, .int 0])) :: T7) := by rw [eT7]; exact hD
  refine k_put (ty := tyX7 8) (v := .ref q7) G hin inGX7 tyX7_ok nmX7 (k := 8) rfl (by decide) fl_X7_28 rfl rfl rfl (tyX7_ok 8 (by decide)) rfl rfl (Nat.le_of_ble_eq_true rfl) hP hD hS dX7_init_52 (fun H locs hP hD hS => ?_)
  replace hP : va_P D classes ((h0, .inr (7, [.ref q1, .ref q2, .ref q3, .ref q4, .ref q5, .ref q6, .int 0, .int 0, .ref q7, .null, .null, .int 0, .null, .int 0, .int 0, .null, .null, .null, .null, .int 0, .null, .null, .int 0, .int 0, .int 0, .int 0, .int 0, .null, .null, .null, .null, .null, .int 0, .int 0, .int 0, .int 0, .int 0])) :: T7) _ := hP
  replace hD : va_D (KA h0 s.heap.size) ((h0, .inr (7, [.ref q1, .ref q2, .ref q3, .ref q4, .ref q5, .ref q6, .int 0, .int 0, .ref q7, .null, .null, .int 0, .null, .int 0, .int 0, .null, .null, .null, .null, .int 0, .null, .null, .int 0, .int 0, .int 0, .int 0, .int 0, .null, .null, .null, .null, .null, .int 0, .int 0, .int 0, .int 0, .int 0])) :: T7) := hD
  refine lv_aload_n hx hb dX7_init_55 rfl (lv_at hl 0 rfl) ?_
  refine lv_bipush (v := (12 : Int32)) hx hb dX7_init_56 (by decide) ?_
  refine k_newa (N := 12) G ac_int hP hD hS (by decide) rfl (Nat.le_of_ble_eq_true rfl) (Nat.le_of_ble_eq_true rfl) (Nat.le_of_ble_eq_true rfl) dX7_init_58 (fun q8 H hP hD hS => ?_)
  obtain ⟨T8, eT8⟩ : ∃ T : va_W, T = T7 ++ [cArr q8 cA 12] := ⟨_, rfl⟩
  replace hP : va_P D classes ((h0, .inr (7, [.ref q1, .ref q2, .ref q3, .ref q4, .ref q5, .ref q6, .int 0, .int 0, .ref q7, .null, .null, .int 0, .null, .int 0, .int 0, .null, .null, .null, .null, .int 0, .null, .null, .int 0, .int 0, .int 0, .int 0, .int 0, .null, .null, .null, .null, .null, .int 0, .int 0, .int 0, .int 0, .int 0])) :: T8) H := by rw [eT8]; exact hP
  replace hD : va_D (KA h0 s.heap.size) ((h0, .inr (7, [.ref q1, .ref q2, .ref q3, .ref q4, .ref q5, .ref q6, .int 0, .int 0, .ref q7, .null, .null, .int 0, .null, .int 0, .int 0, .null, .null, .null, .null, .int 0, .null, .null, .int 0, .int 0, .int 0, .int 0, .int 0, .null, .null, .null, .null, .null, .int 0, .int 0, .int 0, .int 0, .int 0])) :: T8) := by rw [eT8]; exact hD
  refine k_put (ty := tyX7 9) (v := .ref q8) G hin inGX7 tyX7_ok nmX7 (k := 9) rfl (by decide) fl_X7_31 rfl rfl rfl (tyX7_ok 9 (by decide)) rfl rfl (Nat.le_of_ble_eq_true rfl) hP hD hS dX7_init_60 (fun H locs hP hD hS => ?_)
  replace hP : va_P D classes ((h0, .inr (7, [.ref q1, .ref q2, .ref q3, .ref q4, .ref q5, .ref q6, .int 0, .int 0, .ref q7, .ref q8, .null, .int 0, .null, .int 0, .int 0, .null, .null, .null, .null, .int 0, .null, .null, .int 0, .int 0, .int 0, .int 0, .int 0, .null, .null, .null, .null, .null, .int 0, .int 0, .int 0, .int 0, .int 0])) :: T8) _ := hP
  replace hD : va_D (KA h0 s.heap.size) ((h0, .inr (7, [.ref q1, .ref q2, .ref q3, .ref q4, .ref q5, .ref q6, .int 0, .int 0, .ref q7, .ref q8, .null, .int 0, .null, .int 0, .int 0, .null, .null, .null, .null, .int 0, .null, .null, .int 0, .int 0, .int 0, .int 0, .int 0, .null, .null, .null, .null, .null, .int 0, .int 0, .int 0, .int 0, .int 0])) :: T8) := hD
  refine lv_aload_n hx hb dX7_init_63 rfl (lv_at hl 0 rfl) ?_
  refine lv_bipush (v := (12 : Int32)) hx hb dX7_init_64 (by decide) ?_
  refine k_newa (N := 12) G ac_int hP hD hS (by decide) rfl (Nat.le_of_ble_eq_true rfl) (Nat.le_of_ble_eq_true rfl) (Nat.le_of_ble_eq_true rfl) dX7_init_66 (fun q9 H hP hD hS => ?_)
  obtain ⟨T9, eT9⟩ : ∃ T : va_W, T = T8 ++ [cArr q9 cA 12] := ⟨_, rfl⟩
  replace hP : va_P D classes ((h0, .inr (7, [.ref q1, .ref q2, .ref q3, .ref q4, .ref q5, .ref q6, .int 0, .int 0, .ref q7, .ref q8, .null, .int 0, .null, .int 0, .int 0, .null, .null, .null, .null, .int 0, .null, .null, .int 0, .int 0, .int 0, .int 0, .int 0, .null, .null, .null, .null, .null, .int 0, .int 0, .int 0, .int 0, .int 0])) :: T9) H := by rw [eT9]; exact hP
  replace hD : va_D (KA h0 s.heap.size) ((h0, .inr (7, [.ref q1, .ref q2, .ref q3, .ref q4, .ref q5, .ref q6, .int 0, .int 0, .ref q7, .ref q8, .null, .int 0, .null, .int 0, .int 0, .null, .null, .null, .null, .int 0, .null, .null, .int 0, .int 0, .int 0, .int 0, .int 0, .null, .null, .null, .null, .null, .int 0, .int 0, .int 0, .int 0, .int 0])) :: T9) := by rw [eT9]; exact hD
  refine k_put (ty := tyX7 10) (v := .ref q9) G hin inGX7 tyX7_ok nmX7 (k := 10) rfl (by decide) fl_X7_34 rfl rfl rfl (tyX7_ok 10 (by decide)) rfl rfl (Nat.le_of_ble_eq_true rfl) hP hD hS dX7_init_68 (fun H locs hP hD hS => ?_)
  replace hP : va_P D classes ((h0, .inr (7, [.ref q1, .ref q2, .ref q3, .ref q4, .ref q5, .ref q6, .int 0, .int 0, .ref q7, .ref q8, .ref q9, .int 0, .null, .int 0, .int 0, .null, .null, .null, .null, .int 0, .null, .null, .int 0, .int 0, .int 0, .int 0, .int 0, .null, .null, .null, .null, .null, .int 0, .int 0, .int 0, .int 0, .int 0])) :: T9) _ := hP
  replace hD : va_D (KA h0 s.heap.size) ((h0, .inr (7, [.ref q1, .ref q2, .ref q3, .ref q4, .ref q5, .ref q6, .int 0, .int 0, .ref q7, .ref q8, .ref q9, .int 0, .null, .int 0, .int 0, .null, .null, .null, .null, .int 0, .null, .null, .int 0, .int 0, .int 0, .int 0, .int 0, .null, .null, .null, .null, .null, .int 0, .int 0, .int 0, .int 0, .int 0])) :: T9) := hD
  refine lv_aload_n hx hb dX7_init_71 rfl (lv_at hl 0 rfl) ?_
  refine lv_bipush (v := (40 : Int32)) hx hb dX7_init_72 (by decide) ?_
  refine k_newa (N := 40) G ac_int hP hD hS (by decide) rfl (Nat.le_of_ble_eq_true rfl) (Nat.le_of_ble_eq_true rfl) (Nat.le_of_ble_eq_true rfl) dX7_init_74 (fun q10 H hP hD hS => ?_)
  obtain ⟨T10, eT10⟩ : ∃ T : va_W, T = T9 ++ [cArr q10 cA 40] := ⟨_, rfl⟩
  replace hP : va_P D classes ((h0, .inr (7, [.ref q1, .ref q2, .ref q3, .ref q4, .ref q5, .ref q6, .int 0, .int 0, .ref q7, .ref q8, .ref q9, .int 0, .null, .int 0, .int 0, .null, .null, .null, .null, .int 0, .null, .null, .int 0, .int 0, .int 0, .int 0, .int 0, .null, .null, .null, .null, .null, .int 0, .int 0, .int 0, .int 0, .int 0])) :: T10) H := by rw [eT10]; exact hP
  replace hD : va_D (KA h0 s.heap.size) ((h0, .inr (7, [.ref q1, .ref q2, .ref q3, .ref q4, .ref q5, .ref q6, .int 0, .int 0, .ref q7, .ref q8, .ref q9, .int 0, .null, .int 0, .int 0, .null, .null, .null, .null, .int 0, .null, .null, .int 0, .int 0, .int 0, .int 0, .int 0, .null, .null, .null, .null, .null, .int 0, .int 0, .int 0, .int 0, .int 0])) :: T10) := by rw [eT10]; exact hD
  refine k_put (ty := tyX7 12) (v := .ref q10) G hin inGX7 tyX7_ok nmX7 (k := 12) rfl (by decide) fl_X7_37 rfl rfl rfl (tyX7_ok 12 (by decide)) rfl rfl (Nat.le_of_ble_eq_true rfl) hP hD hS dX7_init_76 (fun H locs hP hD hS => ?_)
  replace hP : va_P D classes ((h0, .inr (7, [.ref q1, .ref q2, .ref q3, .ref q4, .ref q5, .ref q6, .int 0, .int 0, .ref q7, .ref q8, .ref q9, .int 0, .ref q10, .int 0, .int 0, .null, .null, .null, .null, .int 0, .null, .null, .int 0, .int 0, .int 0, .int 0, .int 0, .null, .null, .null, .null, .null, .int 0, .int 0, .int 0, .int 0, .int 0])) :: T10) _ := hP
  replace hD : va_D (KA h0 s.heap.size) ((h0, .inr (7, [.ref q1, .ref q2, .ref q3, .ref q4, .ref q5, .ref q6, .int 0, .int 0, .ref q7, .ref q8, .ref q9, .int 0, .ref q10, .int 0, .int 0, .null, .null, .null, .null, .int 0, .null, .null, .int 0, .int 0, .int 0, .int 0, .int 0, .null, .null, .null, .null, .null, .int 0, .int 0, .int 0, .int 0, .int 0])) :: T10) := hD
  refine lv_aload_n hx hb dX7_init_79 rfl (lv_at hl 0 rfl) ?_
  refine lv_iconst (v := (3 : Int32)) hx hb dX7_init_80 (by decide) ?_
  refine k_newa (N := 3) G ac_int hP hD hS (by decide) rfl (Nat.le_of_ble_eq_true rfl) (Nat.le_of_ble_eq_true rfl) (Nat.le_of_ble_eq_true rfl) dX7_init_81 (fun q11 H hP hD hS => ?_)
  obtain ⟨T11, eT11⟩ : ∃ T : va_W, T = T10 ++ [cArr q11 cA 3] := ⟨_, rfl⟩
  replace hP : va_P D classes ((h0, .inr (7, [.ref q1, .ref q2, .ref q3, .ref q4, .ref q5, .ref q6, .int 0, .int 0, .ref q7, .ref q8, .ref q9, .int 0, .ref q10, .int 0, .int 0, .null, .null, .null, .null, .int 0, .null, .null, .int 0, .int 0, .int 0, .int 0, .int 0, .null, .null, .null, .null, .null, .int 0, .int 0, .int 0, .int 0, .int 0])) :: T11) H := by rw [eT11]; exact hP
  replace hD : va_D (KA h0 s.heap.size) ((h0, .inr (7, [.ref q1, .ref q2, .ref q3, .ref q4, .ref q5, .ref q6, .int 0, .int 0, .ref q7, .ref q8, .ref q9, .int 0, .ref q10, .int 0, .int 0, .null, .null, .null, .null, .int 0, .null, .null, .int 0, .int 0, .int 0, .int 0, .int 0, .null, .null, .null, .null, .null, .int 0, .int 0, .int 0, .int 0, .int 0])) :: T11) := by rw [eT11]; exact hD
  refine k_put (ty := tyX7 15) (v := .ref q11) G hin inGX7 tyX7_ok nmX7 (k := 15) rfl (by decide) fl_X7_40 rfl rfl rfl (tyX7_ok 15 (by decide)) rfl rfl (Nat.le_of_ble_eq_true rfl) hP hD hS dX7_init_83 (fun H locs hP hD hS => ?_)
  replace hP : va_P D classes ((h0, .inr (7, [.ref q1, .ref q2, .ref q3, .ref q4, .ref q5, .ref q6, .int 0, .int 0, .ref q7, .ref q8, .ref q9, .int 0, .ref q10, .int 0, .int 0, .ref q11, .null, .null, .null, .int 0, .null, .null, .int 0, .int 0, .int 0, .int 0, .int 0, .null, .null, .null, .null, .null, .int 0, .int 0, .int 0, .int 0, .int 0])) :: T11) _ := hP
  replace hD : va_D (KA h0 s.heap.size) ((h0, .inr (7, [.ref q1, .ref q2, .ref q3, .ref q4, .ref q5, .ref q6, .int 0, .int 0, .ref q7, .ref q8, .ref q9, .int 0, .ref q10, .int 0, .int 0, .ref q11, .null, .null, .null, .int 0, .null, .null, .int 0, .int 0, .int 0, .int 0, .int 0, .null, .null, .null, .null, .null, .int 0, .int 0, .int 0, .int 0, .int 0])) :: T11) := hD
  refine lv_aload_n hx hb dX7_init_86 rfl (lv_at hl 0 rfl) ?_
  refine lv_iconst (v := (3 : Int32)) hx hb dX7_init_87 (by decide) ?_
  refine k_newa (N := 3) G ac_int hP hD hS (by decide) rfl (Nat.le_of_ble_eq_true rfl) (Nat.le_of_ble_eq_true rfl) (Nat.le_of_ble_eq_true rfl) dX7_init_88 (fun q12 H hP hD hS => ?_)
  obtain ⟨T12, eT12⟩ : ∃ T : va_W, T = T11 ++ [cArr q12 cA 3] := ⟨_, rfl⟩
  replace hP : va_P D classes ((h0, .inr (7, [.ref q1, .ref q2, .ref q3, .ref q4, .ref q5, .ref q6, .int 0, .int 0, .ref q7, .ref q8, .ref q9, .int 0, .ref q10, .int 0, .int 0, .ref q11, .null, .null, .null, .int 0, .null, .null, .int 0, .int 0, .int 0, .int 0, .int 0, .null, .null, .null, .null, .null, .int 0, .int 0, .int 0, .int 0, .int 0])) :: T12) H := by rw [eT12]; exact hP
  replace hD : va_D (KA h0 s.heap.size) ((h0, .inr (7, [.ref q1, .ref q2, .ref q3, .ref q4, .ref q5, .ref q6, .int 0, .int 0, .ref q7, .ref q8, .ref q9, .int 0, .ref q10, .int 0, .int 0, .ref q11, .null, .null, .null, .int 0, .null, .null, .int 0, .int 0, .int 0, .int 0, .int 0, .null, .null, .null, .null, .null, .int 0, .int 0, .int 0, .int 0, .int 0])) :: T12) := by rw [eT12]; exact hD
  refine k_put (ty := tyX7 16) (v := .ref q12) G hin inGX7 tyX7_ok nmX7 (k := 16) rfl (by decide) fl_X7_43 rfl rfl rfl (tyX7_ok 16 (by decide)) rfl rfl (Nat.le_of_ble_eq_true rfl) hP hD hS dX7_init_90 (fun H locs hP hD hS => ?_)
  replace hP : va_P D classes ((h0, .inr (7, [.ref q1, .ref q2, .ref q3, .ref q4, .ref q5, .ref q6, .int 0, .int 0, .ref q7, .ref q8, .ref q9, .int 0, .ref q10, .int 0, .int 0, .ref q11, .ref q12, .null, .null, .int 0, .null, .null, .int 0, .int 0, .int 0, .int 0, .int 0, .null, .null, .null, .null, .null, .int 0, .int 0, .int 0, .int 0, .int 0])) :: T12) _ := hP
  replace hD : va_D (KA h0 s.heap.size) ((h0, .inr (7, [.ref q1, .ref q2, .ref q3, .ref q4, .ref q5, .ref q6, .int 0, .int 0, .ref q7, .ref q8, .ref q9, .int 0, .ref q10, .int 0, .int 0, .ref q11, .ref q12, .null, .null, .int 0, .null, .null, .int 0, .int 0, .int 0, .int 0, .int 0, .null, .null, .null, .null, .null, .int 0, .int 0, .int 0, .int 0, .int 0])) :: T12) := hD
  refine lv_aload_n hx hb dX7_init_93 rfl (lv_at hl 0 rfl) ?_
  refine lv_iconst (v := (3 : Int32)) hx hb dX7_init_94 (by decide) ?_
  refine k_newa (N := 3) G ac_int hP hD hS (by decide) rfl (Nat.le_of_ble_eq_true rfl) (Nat.le_of_ble_eq_true rfl) (Nat.le_of_ble_eq_true rfl) dX7_init_95 (fun q13 H hP hD hS => ?_)
  obtain ⟨T13, eT13⟩ : ∃ T : va_W, T = T12 ++ [cArr q13 cA 3] := ⟨_, rfl⟩
  replace hP : va_P D classes ((h0, .inr (7, [.ref q1, .ref q2, .ref q3, .ref q4, .ref q5, .ref q6, .int 0, .int 0, .ref q7, .ref q8, .ref q9, .int 0, .ref q10, .int 0, .int 0, .ref q11, .ref q12, .null, .null, .int 0, .null, .null, .int 0, .int 0, .int 0, .int 0, .int 0, .null, .null, .null, .null, .null, .int 0, .int 0, .int 0, .int 0, .int 0])) :: T13) H := by rw [eT13]; exact hP
  replace hD : va_D (KA h0 s.heap.size) ((h0, .inr (7, [.ref q1, .ref q2, .ref q3, .ref q4, .ref q5, .ref q6, .int 0, .int 0, .ref q7, .ref q8, .ref q9, .int 0, .ref q10, .int 0, .int 0, .ref q11, .ref q12, .null, .null, .int 0, .null, .null, .int 0, .int 0, .int 0, .int 0, .int 0, .null, .null, .null, .null, .null, .int 0, .int 0, .int 0, .int 0, .int 0])) :: T13) := by rw [eT13]; exact hD
  refine k_put (ty := tyX7 17) (v := .ref q13) G hin inGX7 tyX7_ok nmX7 (k := 17) rfl (by decide) fl_X7_46 rfl rfl rfl (tyX7_ok 17 (by decide)) rfl rfl (Nat.le_of_ble_eq_true rfl) hP hD hS dX7_init_97 (fun H locs hP hD hS => ?_)
  replace hP : va_P D classes ((h0, .inr (7, [.ref q1, .ref q2, .ref q3, .ref q4, .ref q5, .ref q6, .int 0, .int 0, .ref q7, .ref q8, .ref q9, .int 0, .ref q10, .int 0, .int 0, .ref q11, .ref q12, .ref q13, .null, .int 0, .null, .null, .int 0, .int 0, .int 0, .int 0, .int 0, .null, .null, .null, .null, .null, .int 0, .int 0, .int 0, .int 0, .int 0])) :: T13) _ := hP
  replace hD : va_D (KA h0 s.heap.size) ((h0, .inr (7, [.ref q1, .ref q2, .ref q3, .ref q4, .ref q5, .ref q6, .int 0, .int 0, .ref q7, .ref q8, .ref q9, .int 0, .ref q10, .int 0, .int 0, .ref q11, .ref q12, .ref q13, .null, .int 0, .null, .null, .int 0, .int 0, .int 0, .int 0, .int 0, .null, .null, .null, .null, .null, .int 0, .int 0, .int 0, .int 0, .int 0])) :: T13) := hD
  refine lv_aload_n hx hb dX7_init_100 rfl (lv_at hl 0 rfl) ?_
  refine lv_iconst (v := (3 : Int32)) hx hb dX7_init_101 (by decide) ?_
  refine k_newa (N := 3) G ac_int hP hD hS (by decide) rfl (Nat.le_of_ble_eq_true rfl) (Nat.le_of_ble_eq_true rfl) (Nat.le_of_ble_eq_true rfl) dX7_init_102 (fun q14 H hP hD hS => ?_)
  obtain ⟨T14, eT14⟩ : ∃ T : va_W, T = T13 ++ [cArr q14 cA 3] := ⟨_, rfl⟩
  replace hP : va_P D classes ((h0, .inr (7, [.ref q1, .ref q2, .ref q3, .ref q4, .ref q5, .ref q6, .int 0, .int 0, .ref q7, .ref q8, .ref q9, .int 0, .ref q10, .int 0, .int 0, .ref q11, .ref q12, .ref q13, .null, .int 0, .null, .null, .int 0, .int 0, .int 0, .int 0, .int 0, .null, .null, .null, .null, .null, .int 0, .int 0, .int 0, .int 0, .int 0])) :: T14) H := by rw [eT14]; exact hP
  replace hD : va_D (KA h0 s.heap.size) ((h0, .inr (7, [.ref q1, .ref q2, .ref q3, .ref q4, .ref q5, .ref q6, .int 0, .int 0, .ref q7, .ref q8, .ref q9, .int 0, .ref q10, .int 0, .int 0, .ref q11, .ref q12, .ref q13, .null, .int 0, .null, .null, .int 0, .int 0, .int 0, .int 0, .int 0, .null, .null, .null, .null, .null, .int 0, .int 0, .int 0, .int 0, .int 0])) :: T14) := by rw [eT14]; exact hD
  refine k_put (ty := tyX7 18) (v := .ref q14) G hin inGX7 tyX7_ok nmX7 (k := 18) rfl (by decide) fl_X7_49 rfl rfl rfl (tyX7_ok 18 (by decide)) rfl rfl (Nat.le_of_ble_eq_true rfl) hP hD hS dX7_init_104 (fun H locs hP hD hS => ?_)
  replace hP : va_P D classes ((h0, .inr (7, [.ref q1, .ref q2, .ref q3, .ref q4, .ref q5, .ref q6, .int 0, .int 0, .ref q7, .ref q8, .ref q9, .int 0, .ref q10, .int 0, .int 0, .ref q11, .ref q12, .ref q13, .ref q14, .int 0, .null, .null, .int 0, .int 0, .int 0, .int 0, .int 0, .null, .null, .null, .null, .null, .int 0, .int 0, .int 0, .int 0, .int 0])) :: T14) _ := hP
  replace hD : va_D (KA h0 s.heap.size) ((h0, .inr (7, [.ref q1, .ref q2, .ref q3, .ref q4, .ref q5, .ref q6, .int 0, .int 0, .ref q7, .ref q8, .ref q9, .int 0, .ref q10, .int 0, .int 0, .ref q11, .ref q12, .ref q13, .ref q14, .int 0, .null, .null, .int 0, .int 0, .int 0, .int 0, .int 0, .null, .null, .null, .null, .null, .int 0, .int 0, .int 0, .int 0, .int 0])) :: T14) := hD
  refine lv_aload_n hx hb dX7_init_107 rfl (lv_at hl 0 rfl) ?_
  refine lv_bipush (v := (96 : Int32)) hx hb dX7_init_108 (by decide) ?_
  refine k_newa (N := 96) G ac_int hP hD hS (by decide) rfl (Nat.le_of_ble_eq_true rfl) (Nat.le_of_ble_eq_true rfl) (Nat.le_of_ble_eq_true rfl) dX7_init_110 (fun q15 H hP hD hS => ?_)
  obtain ⟨T15, eT15⟩ : ∃ T : va_W, T = T14 ++ [cArr q15 cA 96] := ⟨_, rfl⟩
  replace hP : va_P D classes ((h0, .inr (7, [.ref q1, .ref q2, .ref q3, .ref q4, .ref q5, .ref q6, .int 0, .int 0, .ref q7, .ref q8, .ref q9, .int 0, .ref q10, .int 0, .int 0, .ref q11, .ref q12, .ref q13, .ref q14, .int 0, .null, .null, .int 0, .int 0, .int 0, .int 0, .int 0, .null, .null, .null, .null, .null, .int 0, .int 0, .int 0, .int 0, .int 0])) :: T15) H := by rw [eT15]; exact hP
  replace hD : va_D (KA h0 s.heap.size) ((h0, .inr (7, [.ref q1, .ref q2, .ref q3, .ref q4, .ref q5, .ref q6, .int 0, .int 0, .ref q7, .ref q8, .ref q9, .int 0, .ref q10, .int 0, .int 0, .ref q11, .ref q12, .ref q13, .ref q14, .int 0, .null, .null, .int 0, .int 0, .int 0, .int 0, .int 0, .null, .null, .null, .null, .null, .int 0, .int 0, .int 0, .int 0, .int 0])) :: T15) := by rw [eT15]; exact hD
  refine k_put (ty := tyX7 20) (v := .ref q15) G hin inGX7 tyX7_ok nmX7 (k := 20) rfl (by decide) fl_X7_52 rfl rfl rfl (tyX7_ok 20 (by decide)) rfl rfl (Nat.le_of_ble_eq_true rfl) hP hD hS dX7_init_112 (fun H locs hP hD hS => ?_)
  replace hP : va_P D classes ((h0, .inr (7, [.ref q1, .ref q2, .ref q3, .ref q4, .ref q5, .ref q6, .int 0, .int 0, .ref q7, .ref q8, .ref q9, .int 0, .ref q10, .int 0, .int 0, .ref q11, .ref q12, .ref q13, .ref q14, .int 0, .ref q15, .null, .int 0, .int 0, .int 0, .int 0, .int 0, .null, .null, .null, .null, .null, .int 0, .int 0, .int 0, .int 0, .int 0])) :: T15) _ := hP
  replace hD : va_D (KA h0 s.heap.size) ((h0, .inr (7, [.ref q1, .ref q2, .ref q3, .ref q4, .ref q5, .ref q6, .int 0, .int 0, .ref q7, .ref q8, .ref q9, .int 0, .ref q10, .int 0, .int 0, .ref q11, .ref q12, .ref q13, .ref q14, .int 0, .ref q15, .null, .int 0, .int 0, .int 0, .int 0, .int 0, .null, .null, .null, .null, .null, .int 0, .int 0, .int 0, .int 0, .int 0])) :: T15) := hD
  refine lv_aload_n hx hb dX7_init_115 rfl (lv_at hl 0 rfl) ?_
  refine lv_bipush (v := (96 : Int32)) hx hb dX7_init_116 (by decide) ?_
  refine k_newa (N := 96) G ac_int hP hD hS (by decide) rfl (Nat.le_of_ble_eq_true rfl) (Nat.le_of_ble_eq_true rfl) (Nat.le_of_ble_eq_true rfl) dX7_init_118 (fun q16 H hP hD hS => ?_)
  obtain ⟨T16, eT16⟩ : ∃ T : va_W, T = T15 ++ [cArr q16 cA 96] := ⟨_, rfl⟩
  replace hP : va_P D classes ((h0, .inr (7, [.ref q1, .ref q2, .ref q3, .ref q4, .ref q5, .ref q6, .int 0, .int 0, .ref q7, .ref q8, .ref q9, .int 0, .ref q10, .int 0, .int 0, .ref q11, .ref q12, .ref q13, .ref q14, .int 0, .ref q15, .null, .int 0, .int 0, .int 0, .int 0, .int 0, .null, .null, .null, .null, .null, .int 0, .int 0, .int 0, .int 0, .int 0])) :: T16) H := by rw [eT16]; exact hP
  replace hD : va_D (KA h0 s.heap.size) ((h0, .inr (7, [.ref q1, .ref q2, .ref q3, .ref q4, .ref q5, .ref q6, .int 0, .int 0, .ref q7, .ref q8, .ref q9, .int 0, .ref q10, .int 0, .int 0, .ref q11, .ref q12, .ref q13, .ref q14, .int 0, .ref q15, .null, .int 0, .int 0, .int 0, .int 0, .int 0, .null, .null, .null, .null, .null, .int 0, .int 0, .int 0, .int 0, .int 0])) :: T16) := by rw [eT16]; exact hD
  refine k_put (ty := tyX7 21) (v := .ref q16) G hin inGX7 tyX7_ok nmX7 (k := 21) rfl (by decide) fl_X7_55 rfl rfl rfl (tyX7_ok 21 (by decide)) rfl rfl (Nat.le_of_ble_eq_true rfl) hP hD hS dX7_init_120 (fun H locs hP hD hS => ?_)
  replace hP : va_P D classes ((h0, .inr (7, [.ref q1, .ref q2, .ref q3, .ref q4, .ref q5, .ref q6, .int 0, .int 0, .ref q7, .ref q8, .ref q9, .int 0, .ref q10, .int 0, .int 0, .ref q11, .ref q12, .ref q13, .ref q14, .int 0, .ref q15, .ref q16, .int 0, .int 0, .int 0, .int 0, .int 0, .null, .null, .null, .null, .null, .int 0, .int 0, .int 0, .int 0, .int 0])) :: T16) _ := hP
  replace hD : va_D (KA h0 s.heap.size) ((h0, .inr (7, [.ref q1, .ref q2, .ref q3, .ref q4, .ref q5, .ref q6, .int 0, .int 0, .ref q7, .ref q8, .ref q9, .int 0, .ref q10, .int 0, .int 0, .ref q11, .ref q12, .ref q13, .ref q14, .int 0, .ref q15, .ref q16, .int 0, .int 0, .int 0, .int 0, .int 0, .null, .null, .null, .null, .null, .int 0, .int 0, .int 0, .int 0, .int 0])) :: T16) := hD
  refine lv_aload_n hx hb dX7_init_123 rfl (lv_at hl 0 rfl) ?_
  refine lv_iconst (v := (5 : Int32)) hx hb dX7_init_124 (by decide) ?_
  refine k_newa (N := 5) G ac_int hP hD hS (by decide) rfl (Nat.le_of_ble_eq_true rfl) (Nat.le_of_ble_eq_true rfl) (Nat.le_of_ble_eq_true rfl) dX7_init_125 (fun q17 H hP hD hS => ?_)
  obtain ⟨T17, eT17⟩ : ∃ T : va_W, T = T16 ++ [cArr q17 cA 5] := ⟨_, rfl⟩
  replace hP : va_P D classes ((h0, .inr (7, [.ref q1, .ref q2, .ref q3, .ref q4, .ref q5, .ref q6, .int 0, .int 0, .ref q7, .ref q8, .ref q9, .int 0, .ref q10, .int 0, .int 0, .ref q11, .ref q12, .ref q13, .ref q14, .int 0, .ref q15, .ref q16, .int 0, .int 0, .int 0, .int 0, .int 0, .null, .null, .null, .null, .null, .int 0, .int 0, .int 0, .int 0, .int 0])) :: T17) H := by rw [eT17]; exact hP
  replace hD : va_D (KA h0 s.heap.size) ((h0, .inr (7, [.ref q1, .ref q2, .ref q3, .ref q4, .ref q5, .ref q6, .int 0, .int 0, .ref q7, .ref q8, .ref q9, .int 0, .ref q10, .int 0, .int 0, .ref q11, .ref q12, .ref q13, .ref q14, .int 0, .ref q15, .ref q16, .int 0, .int 0, .int 0, .int 0, .int 0, .null, .null, .null, .null, .null, .int 0, .int 0, .int 0, .int 0, .int 0])) :: T17) := by rw [eT17]; exact hD
  refine k_put (ty := tyX7 27) (v := .ref q17) G hin inGX7 tyX7_ok nmX7 (k := 27) rfl (by decide) fl_X7_58 rfl rfl rfl (tyX7_ok 27 (by decide)) rfl rfl (Nat.le_of_ble_eq_true rfl) hP hD hS dX7_init_127 (fun H locs hP hD hS => ?_)
  replace hP : va_P D classes ((h0, .inr (7, [.ref q1, .ref q2, .ref q3, .ref q4, .ref q5, .ref q6, .int 0, .int 0, .ref q7, .ref q8, .ref q9, .int 0, .ref q10, .int 0, .int 0, .ref q11, .ref q12, .ref q13, .ref q14, .int 0, .ref q15, .ref q16, .int 0, .int 0, .int 0, .int 0, .int 0, .ref q17, .null, .null, .null, .null, .int 0, .int 0, .int 0, .int 0, .int 0])) :: T17) _ := hP
  replace hD : va_D (KA h0 s.heap.size) ((h0, .inr (7, [.ref q1, .ref q2, .ref q3, .ref q4, .ref q5, .ref q6, .int 0, .int 0, .ref q7, .ref q8, .ref q9, .int 0, .ref q10, .int 0, .int 0, .ref q11, .ref q12, .ref q13, .ref q14, .int 0, .ref q15, .ref q16, .int 0, .int 0, .int 0, .int 0, .int 0, .ref q17, .null, .null, .null, .null, .int 0, .int 0, .int 0, .int 0, .int 0])) :: T17) := hD
  refine lv_aload_n hx hb dX7_init_130 rfl (lv_at hl 0 rfl) ?_
  refine lv_iconst (v := (3 : Int32)) hx hb dX7_init_131 (by decide) ?_
  refine k_newa (N := 3) G ac_int hP hD hS (by decide) rfl (Nat.le_of_ble_eq_true rfl) (Nat.le_of_ble_eq_true rfl) (Nat.le_of_ble_eq_true rfl) dX7_init_132 (fun q18 H hP hD hS => ?_)
  obtain ⟨T18, eT18⟩ : ∃ T : va_W, T = T17 ++ [cArr q18 cA 3] := ⟨_, rfl⟩
  replace hP : va_P D classes ((h0, .inr (7, [.ref q1, .ref q2, .ref q3, .ref q4, .ref q5, .ref q6, .int 0, .int 0, .ref q7, .ref q8, .ref q9, .int 0, .ref q10, .int 0, .int 0, .ref q11, .ref q12, .ref q13, .ref q14, .int 0, .ref q15, .ref q16, .int 0, .int 0, .int 0, .int 0, .int 0, .ref q17, .null, .null, .null, .null, .int 0, .int 0, .int 0, .int 0, .int 0])) :: T18) H := by rw [eT18]; exact hP
  replace hD : va_D (KA h0 s.heap.size) ((h0, .inr (7, [.ref q1, .ref q2, .ref q3, .ref q4, .ref q5, .ref q6, .int 0, .int 0, .ref q7, .ref q8, .ref q9, .int 0, .ref q10, .int 0, .int 0, .ref q11, .ref q12, .ref q13, .ref q14, .int 0, .ref q15, .ref q16, .int 0, .int 0, .int 0, .int 0, .int 0, .ref q17, .null, .null, .null, .null, .int 0, .int 0, .int 0, .int 0, .int 0])) :: T18) := by rw [eT18]; exact hD
  refine k_put (ty := tyX7 28) (v := .ref q18) G hin inGX7 tyX7_ok nmX7 (k := 28) rfl (by decide) fl_X7_61 rfl rfl rfl (tyX7_ok 28 (by decide)) rfl rfl (Nat.le_of_ble_eq_true rfl) hP hD hS dX7_init_134 (fun H locs hP hD hS => ?_)
  replace hP : va_P D classes ((h0, .inr (7, [.ref q1, .ref q2, .ref q3, .ref q4, .ref q5, .ref q6, .int 0, .int 0, .ref q7, .ref q8, .ref q9, .int 0, .ref q10, .int 0, .int 0, .ref q11, .ref q12, .ref q13, .ref q14, .int 0, .ref q15, .ref q16, .int 0, .int 0, .int 0, .int 0, .int 0, .ref q17, .ref q18, .null, .null, .null, .int 0, .int 0, .int 0, .int 0, .int 0])) :: T18) _ := hP
  replace hD : va_D (KA h0 s.heap.size) ((h0, .inr (7, [.ref q1, .ref q2, .ref q3, .ref q4, .ref q5, .ref q6, .int 0, .int 0, .ref q7, .ref q8, .ref q9, .int 0, .ref q10, .int 0, .int 0, .ref q11, .ref q12, .ref q13, .ref q14, .int 0, .ref q15, .ref q16, .int 0, .int 0, .int 0, .int 0, .int 0, .ref q17, .ref q18, .null, .null, .null, .int 0, .int 0, .int 0, .int 0, .int 0])) :: T18) := hD
  refine lv_aload_n hx hb dX7_init_137 rfl (lv_at hl 0 rfl) ?_
  refine lv_iconst (v := (3 : Int32)) hx hb dX7_init_138 (by decide) ?_
  refine k_newa (N := 3) G ac_int hP hD hS (by decide) rfl (Nat.le_of_ble_eq_true rfl) (Nat.le_of_ble_eq_true rfl) (Nat.le_of_ble_eq_true rfl) dX7_init_139 (fun q19 H hP hD hS => ?_)
  obtain ⟨T19, eT19⟩ : ∃ T : va_W, T = T18 ++ [cArr q19 cA 3] := ⟨_, rfl⟩
  replace hP : va_P D classes ((h0, .inr (7, [.ref q1, .ref q2, .ref q3, .ref q4, .ref q5, .ref q6, .int 0, .int 0, .ref q7, .ref q8, .ref q9, .int 0, .ref q10, .int 0, .int 0, .ref q11, .ref q12, .ref q13, .ref q14, .int 0, .ref q15, .ref q16, .int 0, .int 0, .int 0, .int 0, .int 0, .ref q17, .ref q18, .null, .null, .null, .int 0, .int 0, .int 0, .int 0, .int 0])) :: T19) H := by rw [eT19]; exact hP
  replace hD : va_D (KA h0 s.heap.size) ((h0, .inr (7, [.ref q1, .ref q2, .ref q3, .ref q4, .ref q5, .ref q6, .int 0, .int 0, .ref q7, .ref q8, .ref q9, .int 0, .ref q10, .int 0, .int 0, .ref q11, .ref q12, .ref q13, .ref q14, .int 0, .ref q15, .ref q16, .int 0, .int 0, .int 0, .int 0, .int 0, .ref q17, .ref q18, .null, .null, .null, .int 0, .int 0, .int 0, .int 0, .int 0])) :: T19) := by rw [eT19]; exact hD
  refine k_put (ty := tyX7 29) (v := .ref q19) G hin inGX7 tyX7_ok nmX7 (k := 29) rfl (by decide) fl_X7_64 rfl rfl rfl (tyX7_ok 29 (by decide)) rfl rfl (Nat.le_of_ble_eq_true rfl) hP hD hS dX7_init_141 (fun H locs hP hD hS => ?_)
  replace hP : va_P D classes ((h0, .inr (7, [.ref q1, .ref q2, .ref q3, .ref q4, .ref q5, .ref q6, .int 0, .int 0, .ref q7, .ref q8, .ref q9, .int 0, .ref q10, .int 0, .int 0, .ref q11, .ref q12, .ref q13, .ref q14, .int 0, .ref q15, .ref q16, .int 0, .int 0, .int 0, .int 0, .int 0, .ref q17, .ref q18, .ref q19, .null, .null, .int 0, .int 0, .int 0, .int 0, .int 0])) :: T19) _ := hP
  replace hD : va_D (KA h0 s.heap.size) ((h0, .inr (7, [.ref q1, .ref q2, .ref q3, .ref q4, .ref q5, .ref q6, .int 0, .int 0, .ref q7, .ref q8, .ref q9, .int 0, .ref q10, .int 0, .int 0, .ref q11, .ref q12, .ref q13, .ref q14, .int 0, .ref q15, .ref q16, .int 0, .int 0, .int 0, .int 0, .int 0, .ref q17, .ref q18, .ref q19, .null, .null, .int 0, .int 0, .int 0, .int 0, .int 0])) :: T19) := hD
  refine lv_aload_n hx hb dX7_init_144 rfl (lv_at hl 0 rfl) ?_
  refine lv_bipush (v := (50 : Int32)) hx hb dX7_init_145 (by decide) ?_
  refine k_newa (N := 50) G ac_int hP hD hS (by decide) rfl (Nat.le_of_ble_eq_true rfl) (Nat.le_of_ble_eq_true rfl) (Nat.le_of_ble_eq_true rfl) dX7_init_147 (fun q20 H hP hD hS => ?_)
  obtain ⟨T20, eT20⟩ : ∃ T : va_W, T = T19 ++ [cArr q20 cA 50] := ⟨_, rfl⟩
  replace hP : va_P D classes ((h0, .inr (7, [.ref q1, .ref q2, .ref q3, .ref q4, .ref q5, .ref q6, .int 0, .int 0, .ref q7, .ref q8, .ref q9, .int 0, .ref q10, .int 0, .int 0, .ref q11, .ref q12, .ref q13, .ref q14, .int 0, .ref q15, .ref q16, .int 0, .int 0, .int 0, .int 0, .int 0, .ref q17, .ref q18, .ref q19, .null, .null, .int 0, .int 0, .int 0, .int 0, .int 0])) :: T20) H := by rw [eT20]; exact hP
  replace hD : va_D (KA h0 s.heap.size) ((h0, .inr (7, [.ref q1, .ref q2, .ref q3, .ref q4, .ref q5, .ref q6, .int 0, .int 0, .ref q7, .ref q8, .ref q9, .int 0, .ref q10, .int 0, .int 0, .ref q11, .ref q12, .ref q13, .ref q14, .int 0, .ref q15, .ref q16, .int 0, .int 0, .int 0, .int 0, .int 0, .ref q17, .ref q18, .ref q19, .null, .null, .int 0, .int 0, .int 0, .int 0, .int 0])) :: T20) := by rw [eT20]; exact hD
  refine k_put (ty := tyX7 30) (v := .ref q20) G hin inGX7 tyX7_ok nmX7 (k := 30) rfl (by decide) fl_X7_67 rfl rfl rfl (tyX7_ok 30 (by decide)) rfl rfl (Nat.le_of_ble_eq_true rfl) hP hD hS dX7_init_149 (fun H locs hP hD hS => ?_)
  replace hP : va_P D classes ((h0, .inr (7, [.ref q1, .ref q2, .ref q3, .ref q4, .ref q5, .ref q6, .int 0, .int 0, .ref q7, .ref q8, .ref q9, .int 0, .ref q10, .int 0, .int 0, .ref q11, .ref q12, .ref q13, .ref q14, .int 0, .ref q15, .ref q16, .int 0, .int 0, .int 0, .int 0, .int 0, .ref q17, .ref q18, .ref q19, .ref q20, .null, .int 0, .int 0, .int 0, .int 0, .int 0])) :: T20) _ := hP
  replace hD : va_D (KA h0 s.heap.size) ((h0, .inr (7, [.ref q1, .ref q2, .ref q3, .ref q4, .ref q5, .ref q6, .int 0, .int 0, .ref q7, .ref q8, .ref q9, .int 0, .ref q10, .int 0, .int 0, .ref q11, .ref q12, .ref q13, .ref q14, .int 0, .ref q15, .ref q16, .int 0, .int 0, .int 0, .int 0, .int 0, .ref q17, .ref q18, .ref q19, .ref q20, .null, .int 0, .int 0, .int 0, .int 0, .int 0])) :: T20) := hD
  refine lv_aload_n hx hb dX7_init_152 rfl (lv_at hl 0 rfl) ?_
  refine lv_bipush (v := (120 : Int32)) hx hb dX7_init_153 (by decide) ?_
  refine k_newa (N := 120) G ac_int hP hD hS (by decide) rfl (Nat.le_of_ble_eq_true rfl) (Nat.le_of_ble_eq_true rfl) (Nat.le_of_ble_eq_true rfl) dX7_init_155 (fun q21 H hP hD hS => ?_)
  obtain ⟨T21, eT21⟩ : ∃ T : va_W, T = T20 ++ [cArr q21 cA 120] := ⟨_, rfl⟩
  replace hP : va_P D classes ((h0, .inr (7, [.ref q1, .ref q2, .ref q3, .ref q4, .ref q5, .ref q6, .int 0, .int 0, .ref q7, .ref q8, .ref q9, .int 0, .ref q10, .int 0, .int 0, .ref q11, .ref q12, .ref q13, .ref q14, .int 0, .ref q15, .ref q16, .int 0, .int 0, .int 0, .int 0, .int 0, .ref q17, .ref q18, .ref q19, .ref q20, .null, .int 0, .int 0, .int 0, .int 0, .int 0])) :: T21) H := by rw [eT21]; exact hP
  replace hD : va_D (KA h0 s.heap.size) ((h0, .inr (7, [.ref q1, .ref q2, .ref q3, .ref q4, .ref q5, .ref q6, .int 0, .int 0, .ref q7, .ref q8, .ref q9, .int 0, .ref q10, .int 0, .int 0, .ref q11, .ref q12, .ref q13, .ref q14, .int 0, .ref q15, .ref q16, .int 0, .int 0, .int 0, .int 0, .int 0, .ref q17, .ref q18, .ref q19, .ref q20, .null, .int 0, .int 0, .int 0, .int 0, .int 0])) :: T21) := by rw [eT21]; exact hD
  refine k_put (ty := tyX7 31) (v := .ref q21) G hin inGX7 tyX7_ok nmX7 (k := 31) rfl (by decide) fl_X7_70 rfl rfl rfl (tyX7_ok 31 (by decide)) rfl rfl (Nat.le_of_ble_eq_true rfl) hP hD hS dX7_init_157 (fun H locs hP hD hS => ?_)
  replace hP : va_P D classes ((h0, .inr (7, [.ref q1, .ref q2, .ref q3, .ref q4, .ref q5, .ref q6, .int 0, .int 0, .ref q7, .ref q8, .ref q9, .int 0, .ref q10, .int 0, .int 0, .ref q11, .ref q12, .ref q13, .ref q14, .int 0, .ref q15, .ref q16, .int 0, .int 0, .int 0, .int 0, .int 0, .ref q17, .ref q18, .ref q19, .ref q20, .ref q21, .int 0, .int 0, .int 0, .int 0, .int 0])) :: T21) _ := hP
  replace hD : va_D (KA h0 s.heap.size) ((h0, .inr (7, [.ref q1, .ref q2, .ref q3, .ref q4, .ref q5, .ref q6, .int 0, .int 0, .ref q7, .ref q8, .ref q9, .int 0, .ref q10, .int 0, .int 0, .ref q11, .ref q12, .ref q13, .ref q14, .int 0, .ref q15, .ref q16, .int 0, .int 0, .int 0, .int 0, .int 0, .ref q17, .ref q18, .ref q19, .ref q20, .ref q21, .int 0, .int 0, .int 0, .int 0, .int 0])) :: T21) := hD
  refine lv_aload_n hx hb dX7_init_160 rfl (lv_at hl 0 rfl) ?_
  have heq : ((h0, .inr (7, [.ref q1, .ref q2, .ref q3, .ref q4, .ref q5, .ref q6, .int 0, .int 0, .ref q7, .ref q8, .ref q9, .int 0, .ref q10, .int 0, .int 0, .ref q11, .ref q12, .ref q13, .ref q14, .int 0, .ref q15, .ref q16, .int 0, .int 0, .int 0, .int 0, .int 0, .ref q17, .ref q18, .ref q19, .ref q20, .ref q21, .int 0, .int 0, .int 0, .int 0, .int 0])) :: T21 : va_W) = wsO 22 shM (fun i => ([h0, q1, q2, q3, q4, q5, q6, q7, q8, q9, q10, q11, q12, q13, q14, q15, q16, q17, q18, q19, q20, q21] : List Nat).getD i 0) cA wX7a := by
    rw [eT21, eT20, eT19, eT18, eT17, eT16, eT15, eT14, eT13, eT12, eT11, eT10, eT9, eT8, eT7, eT6, eT5, eT4, eT3, eT2, eT1]
    simp only [List.nil_append, List.append_assoc, List.cons_append]
    exact to_wsO rfl (fun k hk => match k, hk with
    | 0, _ => rfl
    | 1, _ => rfl
    | 2, _ => rfl
    | 3, _ => rfl
    | 4, _ => rfl
    | 5, _ => rfl
    | 6, _ => rfl
    | 7, _ => rfl
    | 8, _ => rfl
    | 9, _ => rfl
    | 10, _ => rfl
    | 11, _ => rfl
    | 12, _ => rfl
    | 13, _ => rfl
    | 14, _ => rfl
    | 15, _ => rfl
    | 16, _ => rfl
    | 17, _ => rfl
    | 18, _ => rfl
    | 19, _ => rfl
    | 20, _ => rfl
    | 21, _ => rfl
    | q + 22, h => absurd h (by omega))
  rw [heq] at hP hD
  refine k_callV G hP hS hD.ad (c_X7_begins hD.ad isM b7) my_X7_begins kl_X7_73 (by decide) rfl rfl ⟨Nat.le_of_ble_eq_true rfl, Nat.le_of_ble_eq_true rfl⟩ hl.1 dX7_init_161 ⟨Nat.le_of_ble_eq_true rfl, Nat.le_of_ble_eq_true rfl⟩ (fun H locs hP hS => ?_)
  replace hD : va_D (KA h0 s.heap.size) (wsO 22 shM (fun i => ([h0, q1, q2, q3, q4, q5, q6, q7, q8, q9, q10, q11, q12, q13, q14, q15, q16, q17, q18, q19, q20, q21] : List Nat).getD i 0) cA wX7) := hD.ad.D _ _ _
  exact k_ret (ad := (fun i => ([h0, q1, q2, q3, q4, q5, q6, q7, q8, q9, q10, q11, q12, q13, q14, q15, q16, q17, q18, q19, q20, q21] : List Nat).getD i 0)) G hr hlocks rfl hP hD hS dX7_init_164
