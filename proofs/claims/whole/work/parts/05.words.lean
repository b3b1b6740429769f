/-! shapes, fields, links, methods: by program (wip/gen/g05.py) -/
def lnC (a : Nat) : Nat := match a with
  | 7 => 48
  | 8 => 48
  | 21 => 48
  | 29 => 28
  | 31 => 48
  | 35 => 28
  | 40 => 40
  | 44 => 48
  | _ => 0
def isAr (n : Nat) (sh : Nat → Shp) (a L : Nat) : Prop := a < n ∧ sh a = .inl L
def isX4 (n : Nat) (sh : Nat → Shp) (i : Nat) : Prop := i < n ∧ sh i = .inr (4, [none, some (i + 1), none]) ∧ isAr n sh (i + 1) (lnC (i + 1))
theorem isX4.lt {n : Nat} {sh : Nat → Shp} {i : Nat} (h : isX4 n sh i) : i < n := h.1
theorem isX4.sh {n : Nat} {sh : Nat → Shp} {i : Nat} (h : isX4 n sh i) : sh i = .inr (4, [none, some (i + 1), none]) := h.2.1
theorem isX4.cells {n : Nat} {sh : Nat → Shp} {i : Nat} (h : isX4 n sh i) : isAr n sh (i + 1) (lnC (i + 1)) := h.2.2
def isX1 (n : Nat) (sh : Nat → Shp) (i : Nat) : Prop := i < n ∧ sh i = .inr (1, [none, none, none, none, none, some (i + 1), some (i + 2), some (i + 3), some (i + 4)]) ∧ isAr n sh (i + 1) 3 ∧ isAr n sh (i + 2) 3 ∧ isAr n sh (i + 3) 3 ∧ isAr n sh (i + 4) 3
theorem isX1.lt {n : Nat} {sh : Nat → Shp} {i : Nat} (h : isX1 n sh i) : i < n := h.1
theorem isX1.sh {n : Nat} {sh : Nat → Shp} {i : Nat} (h : isX1 n sh i) : sh i = .inr (1, [none, none, none, none, none, some (i + 1), some (i + 2), some (i + 3), some (i + 4)]) := h.2.1
theorem isX1.uncorrected {n : Nat} {sh : Nat → Shp} {i : Nat} (h : isX1 n sh i) : isAr n sh (i + 1) 3 := h.2.2.1
theorem isX1.high {n : Nat} {sh : Nat → Shp} {i : Nat} (h : isX1 n sh i) : isAr n sh (i + 2) 3 := h.2.2.2.1
theorem isX1.start {n : Nat} {sh : Nat → Shp} {i : Nat} (h : isX1 n sh i) : isAr n sh (i + 3) 3 := h.2.2.2.2.1
theorem isX1.current {n : Nat} {sh : Nat → Shp} {i : Nat} (h : isX1 n sh i) : isAr n sh (i + 4) 3 := h.2.2.2.2.2
def isX2 (n : Nat) (sh : Nat → Shp) (i : Nat) : Prop := i < n ∧ sh i = .inr (2, [some (i + 1), none]) ∧ isX4 n sh (i + 1)
theorem isX2.lt {n : Nat} {sh : Nat → Shp} {i : Nat} (h : isX2 n sh i) : i < n := h.1
theorem isX2.sh {n : Nat} {sh : Nat → Shp} {i : Nat} (h : isX2 n sh i) : sh i = .inr (2, [some (i + 1), none]) := h.2.1
theorem isX2.rows {n : Nat} {sh : Nat → Shp} {i : Nat} (h : isX2 n sh i) : isX4 n sh (i + 1) := h.2.2
def isX0 (n : Nat) (sh : Nat → Shp) (i : Nat) : Prop := i < n ∧ sh i = .inr (0, [some (i + 1), some (i + 2), some (i + 3), some (i + 4), some (i + 5), some (i + 6), some (i + 8), none]) ∧ isAr n sh (i + 1) 7 ∧ isAr n sh (i + 2) 3 ∧ isAr n sh (i + 3) 3 ∧ isAr n sh (i + 4) 3 ∧ isAr n sh (i + 5) 3 ∧ isX4 n sh (i + 6) ∧ isX1 n sh (i + 8)
theorem isX0.lt {n : Nat} {sh : Nat → Shp} {i : Nat} (h : isX0 n sh i) : i < n := h.1
theorem isX0.sh {n : Nat} {sh : Nat → Shp} {i : Nat} (h : isX0 n sh i) : sh i = .inr (0, [some (i + 1), some (i + 2), some (i + 3), some (i + 4), some (i + 5), some (i + 6), some (i + 8), none]) := h.2.1
theorem isX0.setting {n : Nat} {sh : Nat → Shp} {i : Nat} (h : isX0 n sh i) : isAr n sh (i + 1) 7 := h.2.2.1
theorem isX0.demand {n : Nat} {sh : Nat → Shp} {i : Nat} (h : isX0 n sh i) : isAr n sh (i + 2) 3 := h.2.2.2.1
theorem isX0.current {n : Nat} {sh : Nat → Shp} {i : Nat} (h : isX0 n sh i) : isAr n sh (i + 3) 3 := h.2.2.2.2.1
theorem isX0.want {n : Nat} {sh : Nat → Shp} {i : Nat} (h : isX0 n sh i) : isAr n sh (i + 4) 3 := h.2.2.2.2.2.1
theorem isX0.sum {n : Nat} {sh : Nat → Shp} {i : Nat} (h : isX0 n sh i) : isAr n sh (i + 5) 3 := h.2.2.2.2.2.2.1
theorem isX0.wishes {n : Nat} {sh : Nat → Shp} {i : Nat} (h : isX0 n sh i) : isX4 n sh (i + 6) := h.2.2.2.2.2.2.2.1
theorem isX0.plan {n : Nat} {sh : Nat → Shp} {i : Nat} (h : isX0 n sh i) : isX1 n sh (i + 8) := h.2.2.2.2.2.2.2.2
def isX3 (n : Nat) (sh : Nat → Shp) (i : Nat) : Prop := i < n ∧ sh i = .inr (3, [some 33, some 36, some 37, some 38, none, none]) ∧ isX2 n sh 33 ∧ isAr n sh 36 3 ∧ isAr n sh 37 3 ∧ isAr n sh 38 3
theorem isX3.lt {n : Nat} {sh : Nat → Shp} {i : Nat} (h : isX3 n sh i) : i < n := h.1
theorem isX3.sh {n : Nat} {sh : Nat → Shp} {i : Nat} (h : isX3 n sh i) : sh i = .inr (3, [some 33, some 36, some 37, some 38, none, none]) := h.2.1
theorem isX3.runs {n : Nat} {sh : Nat → Shp} {i : Nat} (h : isX3 n sh i) : isX2 n sh 33 := h.2.2.1
theorem isX3.tried {n : Nat} {sh : Nat → Shp} {i : Nat} (h : isX3 n sh i) : isAr n sh 36 3 := h.2.2.2.1
theorem isX3.shifted {n : Nat} {sh : Nat → Shp} {i : Nat} (h : isX3 n sh i) : isAr n sh 37 3 := h.2.2.2.2.1
theorem isX3.best {n : Nat} {sh : Nat → Shp} {i : Nat} (h : isX3 n sh i) : isAr n sh 38 3 := h.2.2.2.2.2
def isX5 (n : Nat) (sh : Nat → Shp) (i : Nat) : Prop := i < n ∧ sh i = .inr (5, [some 42, some 43, none, none, none]) ∧ isAr n sh 42 120 ∧ isX4 n sh 43
theorem isX5.lt {n : Nat} {sh : Nat → Shp} {i : Nat} (h : isX5 n sh i) : i < n := h.1
theorem isX5.sh {n : Nat} {sh : Nat → Shp} {i : Nat} (h : isX5 n sh i) : sh i = .inr (5, [some 42, some 43, none, none, none]) := h.2.1
theorem isX5.bytes {n : Nat} {sh : Nat → Shp} {i : Nat} (h : isX5 n sh i) : isAr n sh 42 120 := h.2.2.1
theorem isX5.wishes {n : Nat} {sh : Nat → Shp} {i : Nat} (h : isX5 n sh i) : isX4 n sh 43 := h.2.2.2
def isX6 (n : Nat) (sh : Nat → Shp) (i : Nat) : Prop := i < n ∧ sh i = .inr (6, [some 1, some 14, some 27, some 30, some 32, some 39, some 41, some 45]) ∧ isX0 n sh 1 ∧ isX0 n sh 14 ∧ isX2 n sh 27 ∧ isX4 n sh 30 ∧ isX3 n sh 32 ∧ isX4 n sh 39 ∧ isX5 n sh 41 ∧ isAr n sh 45 3
theorem isX6.lt {n : Nat} {sh : Nat → Shp} {i : Nat} (h : isX6 n sh i) : i < n := h.1
theorem isX6.sh {n : Nat} {sh : Nat → Shp} {i : Nat} (h : isX6 n sh i) : sh i = .inr (6, [some 1, some 14, some 27, some 30, some 32, some 39, some 41, some 45]) := h.2.1
theorem isX6.drive {n : Nat} {sh : Nat → Shp} {i : Nat} (h : isX6 n sh i) : isX0 n sh 1 := h.2.2.1
theorem isX6.trial {n : Nat} {sh : Nat → Shp} {i : Nat} (h : isX6 n sh i) : isX0 n sh 14 := h.2.2.2.1
theorem isX6.runs {n : Nat} {sh : Nat → Shp} {i : Nat} (h : isX6 n sh i) : isX2 n sh 27 := h.2.2.2.2.1
theorem isX6.gateEvents {n : Nat} {sh : Nat → Shp} {i : Nat} (h : isX6 n sh i) : isX4 n sh 30 := h.2.2.2.2.2.1
theorem isX6.shifts {n : Nat} {sh : Nat → Shp} {i : Nat} (h : isX6 n sh i) : isX3 n sh 32 := h.2.2.2.2.2.2.1
theorem isX6.remembered {n : Nat} {sh : Nat → Shp} {i : Nat} (h : isX6 n sh i) : isX4 n sh 39 := h.2.2.2.2.2.2.2.1
theorem isX6.text {n : Nat} {sh : Nat → Shp} {i : Nat} (h : isX6 n sh i) : isX5 n sh 41 := h.2.2.2.2.2.2.2.2.1
theorem isX6.refused {n : Nat} {sh : Nat → Shp} {i : Nat} (h : isX6 n sh i) : isAr n sh 45 3 := h.2.2.2.2.2.2.2.2.2
def isX7 (n : Nat) (sh : Nat → Shp) (i : Nat) : Prop := i < n ∧ sh i = .inr (7, [some 1, some 2, some 3, some 4, some 5, some 6, none, none, some 7, some 8, some 9, none, some 10, none, none, some 11, some 12, some 13, some 14, none, some 15, some 16, none, none, none, none, none, some 17, some 18, some 19, some 20, some 21, none, none, none, none, none]) ∧ isAr n sh 1 3 ∧ isAr n sh 2 7 ∧ isAr n sh 3 3 ∧ isAr n sh 4 3 ∧ isAr n sh 5 3 ∧ isAr n sh 6 3 ∧ isAr n sh 7 12 ∧ isAr n sh 8 12 ∧ isAr n sh 9 12 ∧ isAr n sh 10 40 ∧ isAr n sh 11 3 ∧ isAr n sh 12 3 ∧ isAr n sh 13 3 ∧ isAr n sh 14 3 ∧ isAr n sh 15 96 ∧ isAr n sh 16 96 ∧ isAr n sh 17 5 ∧ isAr n sh 18 3 ∧ isAr n sh 19 3 ∧ isAr n sh 20 50 ∧ isAr n sh 21 120
theorem isX7.lt {n : Nat} {sh : Nat → Shp} {i : Nat} (h : isX7 n sh i) : i < n := h.1
theorem isX7.sh {n : Nat} {sh : Nat → Shp} {i : Nat} (h : isX7 n sh i) : sh i = .inr (7, [some 1, some 2, some 3, some 4, some 5, some 6, none, none, some 7, some 8, some 9, none, some 10, none, none, some 11, some 12, some 13, some 14, none, some 15, some 16, none, none, none, none, none, some 17, some 18, some 19, some 20, some 21, none, none, none, none, none]) := h.2.1
theorem isX7.refused {n : Nat} {sh : Nat → Shp} {i : Nat} (h : isX7 n sh i) : isAr n sh 1 3 := h.2.2.1
theorem isX7.told {n : Nat} {sh : Nat → Shp} {i : Nat} (h : isX7 n sh i) : isAr n sh 2 7 := h.2.2.2.1
theorem isX7.current {n : Nat} {sh : Nat → Shp} {i : Nat} (h : isX7 n sh i) : isAr n sh 3 3 := h.2.2.2.2.1
theorem isX7.demand {n : Nat} {sh : Nat → Shp} {i : Nat} (h : isX7 n sh i) : isAr n sh 4 3 := h.2.2.2.2.2.1
theorem isX7.want {n : Nat} {sh : Nat → Shp} {i : Nat} (h : isX7 n sh i) : isAr n sh 5 3 := h.2.2.2.2.2.2.1
theorem isX7.sum {n : Nat} {sh : Nat → Shp} {i : Nat} (h : isX7 n sh i) : isAr n sh 6 3 := h.2.2.2.2.2.2.2.1
theorem isX7.wishLeg {n : Nat} {sh : Nat → Shp} {i : Nat} (h : isX7 n sh i) : isAr n sh 7 12 := h.2.2.2.2.2.2.2.2.1
theorem isX7.wishPeriod {n : Nat} {sh : Nat → Shp} {i : Nat} (h : isX7 n sh i) : isAr n sh 8 12 := h.2.2.2.2.2.2.2.2.2.1
theorem isX7.wishValue {n : Nat} {sh : Nat → Shp} {i : Nat} (h : isX7 n sh i) : isAr n sh 9 12 := h.2.2.2.2.2.2.2.2.2.2.1
theorem isX7.memory {n : Nat} {sh : Nat → Shp} {i : Nat} (h : isX7 n sh i) : isAr n sh 10 40 := h.2.2.2.2.2.2.2.2.2.2.2.1
theorem isX7.plain {n : Nat} {sh : Nat → Shp} {i : Nat} (h : isX7 n sh i) : isAr n sh 11 3 := h.2.2.2.2.2.2.2.2.2.2.2.2.1
theorem isX7.high {n : Nat} {sh : Nat → Shp} {i : Nat} (h : isX7 n sh i) : isAr n sh 12 3 := h.2.2.2.2.2.2.2.2.2.2.2.2.2.1
theorem isX7.start {n : Nat} {sh : Nat → Shp} {i : Nat} (h : isX7 n sh i) : isAr n sh 13 3 := h.2.2.2.2.2.2.2.2.2.2.2.2.2.2.1
theorem isX7.counts {n : Nat} {sh : Nat → Shp} {i : Nat} (h : isX7 n sh i) : isAr n sh 14 3 := h.2.2.2.2.2.2.2.2.2.2.2.2.2.2.2.1
theorem isX7.runAt {n : Nat} {sh : Nat → Shp} {i : Nat} (h : isX7 n sh i) : isAr n sh 15 96 := h.2.2.2.2.2.2.2.2.2.2.2.2.2.2.2.2.1
theorem isX7.runLong {n : Nat} {sh : Nat → Shp} {i : Nat} (h : isX7 n sh i) : isAr n sh 16 96 := h.2.2.2.2.2.2.2.2.2.2.2.2.2.2.2.2.2.1
theorem isX7.best {n : Nat} {sh : Nat → Shp} {i : Nat} (h : isX7 n sh i) : isAr n sh 17 5 := h.2.2.2.2.2.2.2.2.2.2.2.2.2.2.2.2.2.2.1
theorem isX7.first {n : Nat} {sh : Nat → Shp} {i : Nat} (h : isX7 n sh i) : isAr n sh 18 3 := h.2.2.2.2.2.2.2.2.2.2.2.2.2.2.2.2.2.2.2.1
theorem isX7.means {n : Nat} {sh : Nat → Shp} {i : Nat} (h : isX7 n sh i) : isAr n sh 19 3 := h.2.2.2.2.2.2.2.2.2.2.2.2.2.2.2.2.2.2.2.2.1
theorem isX7.aside {n : Nat} {sh : Nat → Shp} {i : Nat} (h : isX7 n sh i) : isAr n sh 20 50 := h.2.2.2.2.2.2.2.2.2.2.2.2.2.2.2.2.2.2.2.2.2.1
theorem isX7.text {n : Nat} {sh : Nat → Shp} {i : Nat} (h : isX7 n sh i) : isAr n sh 21 120 := h.2.2.2.2.2.2.2.2.2.2.2.2.2.2.2.2.2.2.2.2.2.2
theorem u_all {C : String} {T : u_T} {N : Nat} (h : ∀ k, k < N → u_lay C T k ∈ gT) : ∀ w ∈ u_ws C T N, w ∈ gT := by
  intro w hw
  obtain ⟨k, hk, rfl⟩ := List.mem_map.mp hw
  exact h k (List.mem_range.mp hk)
theorem laX0_0 : u_lay RX0 TX0 0 ∈ gT := tin 130 (by decide +kernel) rfl
theorem laX0_1 : u_lay RX0 TX0 1 ∈ gT := tin 132 (by decide +kernel) rfl
theorem laX0_2 : u_lay RX0 TX0 2 ∈ gT := tin 134 (by decide +kernel) rfl
theorem laX0_3 : u_lay RX0 TX0 3 ∈ gT := tin 136 (by decide +kernel) rfl
theorem laX0_4 : u_lay RX0 TX0 4 ∈ gT := tin 138 (by decide +kernel) rfl
theorem laX0_5 : u_lay RX0 TX0 5 ∈ gT := tin 140 (by decide +kernel) rfl
theorem laX0_6 : u_lay RX0 TX0 6 ∈ gT := tin 142 (by decide +kernel) rfl
theorem laX0_7 : u_lay RX0 TX0 7 ∈ gT := tin 144 (by decide +kernel) rfl
theorem inGX0 : ∀ w ∈ u_ws RX0 TX0 8, w ∈ gT := u_all (fun k hk => match k, hk with
  | 0, _ => laX0_0
  | 1, _ => laX0_1
  | 2, _ => laX0_2
  | 3, _ => laX0_3
  | 4, _ => laX0_4
  | 5, _ => laX0_5
  | 6, _ => laX0_6
  | 7, _ => laX0_7
  | q + 8, h => absurd h (by omega))
theorem laX1_0 : u_lay RX1 TX1 0 ∈ gT := tin 75 (by decide +kernel) rfl
theorem laX1_1 : u_lay RX1 TX1 1 ∈ gT := tin 77 (by decide +kernel) rfl
theorem laX1_2 : u_lay RX1 TX1 2 ∈ gT := tin 79 (by decide +kernel) rfl
theorem laX1_3 : u_lay RX1 TX1 3 ∈ gT := tin 81 (by decide +kernel) rfl
theorem laX1_4 : u_lay RX1 TX1 4 ∈ gT := tin 83 (by decide +kernel) rfl
theorem laX1_5 : u_lay RX1 TX1 5 ∈ gT := tin 85 (by decide +kernel) rfl
theorem laX1_6 : u_lay RX1 TX1 6 ∈ gT := tin 87 (by decide +kernel) rfl
theorem laX1_7 : u_lay RX1 TX1 7 ∈ gT := tin 89 (by decide +kernel) rfl
theorem laX1_8 : u_lay RX1 TX1 8 ∈ gT := tin 91 (by decide +kernel) rfl
theorem inGX1 : ∀ w ∈ u_ws RX1 TX1 9, w ∈ gT := u_all (fun k hk => match k, hk with
  | 0, _ => laX1_0
  | 1, _ => laX1_1
  | 2, _ => laX1_2
  | 3, _ => laX1_3
  | 4, _ => laX1_4
  | 5, _ => laX1_5
  | 6, _ => laX1_6
  | 7, _ => laX1_7
  | 8, _ => laX1_8
  | q + 9, h => absurd h (by omega))
theorem laX2_0 : u_lay RX2 TX2 0 ∈ gT := tin 159 (by decide +kernel) rfl
theorem laX2_1 : u_lay RX2 TX2 1 ∈ gT := tin 161 (by decide +kernel) rfl
theorem inGX2 : ∀ w ∈ u_ws RX2 TX2 2, w ∈ gT := u_all (fun k hk => match k, hk with
  | 0, _ => laX2_0
  | 1, _ => laX2_1
  | q + 2, h => absurd h (by omega))
theorem laX3_0 : u_lay RX3 TX3 0 ∈ gT := tin 183 (by decide +kernel) rfl
theorem laX3_1 : u_lay RX3 TX3 1 ∈ gT := tin 185 (by decide +kernel) rfl
theorem laX3_2 : u_lay RX3 TX3 2 ∈ gT := tin 187 (by decide +kernel) rfl
theorem laX3_3 : u_lay RX3 TX3 3 ∈ gT := tin 189 (by decide +kernel) rfl
theorem laX3_4 : u_lay RX3 TX3 4 ∈ gT := tin 191 (by decide +kernel) rfl
theorem laX3_5 : u_lay RX3 TX3 5 ∈ gT := tin 193 (by decide +kernel) rfl
theorem inGX3 : ∀ w ∈ u_ws RX3 TX3 6, w ∈ gT := u_all (fun k hk => match k, hk with
  | 0, _ => laX3_0
  | 1, _ => laX3_1
  | 2, _ => laX3_2
  | 3, _ => laX3_3
  | 4, _ => laX3_4
  | 5, _ => laX3_5
  | q + 6, h => absurd h (by omega))
theorem laX4_0 : u_lay RX4 TX4 0 ∈ gT := tin 42 (by decide +kernel) rfl
theorem laX4_1 : u_lay RX4 TX4 1 ∈ gT := tin 44 (by decide +kernel) rfl
theorem laX4_2 : u_lay RX4 TX4 2 ∈ gT := tin 46 (by decide +kernel) rfl
theorem inGX4 : ∀ w ∈ u_ws RX4 TX4 3, w ∈ gT := u_all (fun k hk => match k, hk with
  | 0, _ => laX4_0
  | 1, _ => laX4_1
  | 2, _ => laX4_2
  | q + 3, h => absurd h (by omega))
theorem laX5_0 : u_lay RX5 TX5 0 ∈ gT := tin 211 (by decide +kernel) rfl
theorem laX5_1 : u_lay RX5 TX5 1 ∈ gT := tin 213 (by decide +kernel) rfl
theorem laX5_2 : u_lay RX5 TX5 2 ∈ gT := tin 215 (by decide +kernel) rfl
theorem laX5_3 : u_lay RX5 TX5 3 ∈ gT := tin 217 (by decide +kernel) rfl
theorem laX5_4 : u_lay RX5 TX5 4 ∈ gT := tin 219 (by decide +kernel) rfl
theorem inGX5 : ∀ w ∈ u_ws RX5 TX5 5, w ∈ gT := u_all (fun k hk => match k, hk with
  | 0, _ => laX5_0
  | 1, _ => laX5_1
  | 2, _ => laX5_2
  | 3, _ => laX5_3
  | 4, _ => laX5_4
  | q + 5, h => absurd h (by omega))
theorem laX6_0 : u_lay RX6 TX6 0 ∈ gT := tin 230 (by decide +kernel) rfl
theorem laX6_1 : u_lay RX6 TX6 1 ∈ gT := tin 232 (by decide +kernel) rfl
theorem laX6_2 : u_lay RX6 TX6 2 ∈ gT := tin 234 (by decide +kernel) rfl
theorem laX6_3 : u_lay RX6 TX6 3 ∈ gT := tin 236 (by decide +kernel) rfl
theorem laX6_4 : u_lay RX6 TX6 4 ∈ gT := tin 238 (by decide +kernel) rfl
theorem laX6_5 : u_lay RX6 TX6 5 ∈ gT := tin 240 (by decide +kernel) rfl
theorem laX6_6 : u_lay RX6 TX6 6 ∈ gT := tin 242 (by decide +kernel) rfl
theorem laX6_7 : u_lay RX6 TX6 7 ∈ gT := tin 244 (by decide +kernel) rfl
theorem inGX6 : ∀ w ∈ u_ws RX6 TX6 8, w ∈ gT := u_all (fun k hk => match k, hk with
  | 0, _ => laX6_0
  | 1, _ => laX6_1
  | 2, _ => laX6_2
  | 3, _ => laX6_3
  | 4, _ => laX6_4
  | 5, _ => laX6_5
  | 6, _ => laX6_6
  | 7, _ => laX6_7
  | q + 8, h => absurd h (by omega))
theorem laX7_0 : u_lay RX7 TX7 0 ∈ gT := tin 743 (by decide +kernel) rfl
theorem laX7_1 : u_lay RX7 TX7 1 ∈ gT := tin 745 (by decide +kernel) rfl
theorem laX7_2 : u_lay RX7 TX7 2 ∈ gT := tin 747 (by decide +kernel) rfl
theorem laX7_3 : u_lay RX7 TX7 3 ∈ gT := tin 749 (by decide +kernel) rfl
theorem laX7_4 : u_lay RX7 TX7 4 ∈ gT := tin 751 (by decide +kernel) rfl
theorem laX7_5 : u_lay RX7 TX7 5 ∈ gT := tin 753 (by decide +kernel) rfl
theorem laX7_6 : u_lay RX7 TX7 6 ∈ gT := tin 755 (by decide +kernel) rfl
theorem laX7_7 : u_lay RX7 TX7 7 ∈ gT := tin 757 (by decide +kernel) rfl
theorem laX7_8 : u_lay RX7 TX7 8 ∈ gT := tin 759 (by decide +kernel) rfl
theorem laX7_9 : u_lay RX7 TX7 9 ∈ gT := tin 761 (by decide +kernel) rfl
theorem laX7_10 : u_lay RX7 TX7 10 ∈ gT := tin 763 (by decide +kernel) rfl
theorem laX7_11 : u_lay RX7 TX7 11 ∈ gT := tin 765 (by decide +kernel) rfl
theorem laX7_12 : u_lay RX7 TX7 12 ∈ gT := tin 767 (by decide +kernel) rfl
theorem laX7_13 : u_lay RX7 TX7 13 ∈ gT := tin 769 (by decide +kernel) rfl
theorem laX7_14 : u_lay RX7 TX7 14 ∈ gT := tin 771 (by decide +kernel) rfl
theorem laX7_15 : u_lay RX7 TX7 15 ∈ gT := tin 773 (by decide +kernel) rfl
theorem laX7_16 : u_lay RX7 TX7 16 ∈ gT := tin 775 (by decide +kernel) rfl
theorem laX7_17 : u_lay RX7 TX7 17 ∈ gT := tin 777 (by decide +kernel) rfl
theorem laX7_18 : u_lay RX7 TX7 18 ∈ gT := tin 779 (by decide +kernel) rfl
theorem laX7_19 : u_lay RX7 TX7 19 ∈ gT := tin 781 (by decide +kernel) rfl
theorem laX7_20 : u_lay RX7 TX7 20 ∈ gT := tin 783 (by decide +kernel) rfl
theorem laX7_21 : u_lay RX7 TX7 21 ∈ gT := tin 785 (by decide +kernel) rfl
theorem laX7_22 : u_lay RX7 TX7 22 ∈ gT := tin 787 (by decide +kernel) rfl
theorem laX7_23 : u_lay RX7 TX7 23 ∈ gT := tin 789 (by decide +kernel) rfl
theorem laX7_24 : u_lay RX7 TX7 24 ∈ gT := tin 791 (by decide +kernel) rfl
theorem laX7_25 : u_lay RX7 TX7 25 ∈ gT := tin 793 (by decide +kernel) rfl
theorem laX7_26 : u_lay RX7 TX7 26 ∈ gT := tin 795 (by decide +kernel) rfl
theorem laX7_27 : u_lay RX7 TX7 27 ∈ gT := tin 797 (by decide +kernel) rfl
theorem laX7_28 : u_lay RX7 TX7 28 ∈ gT := tin 799 (by decide +kernel) rfl
theorem laX7_29 : u_lay RX7 TX7 29 ∈ gT := tin 801 (by decide +kernel) rfl
theorem laX7_30 : u_lay RX7 TX7 30 ∈ gT := tin 803 (by decide +kernel) rfl
theorem laX7_31 : u_lay RX7 TX7 31 ∈ gT := tin 805 (by decide +kernel) rfl
theorem laX7_32 : u_lay RX7 TX7 32 ∈ gT := tin 807 (by decide +kernel) rfl
theorem laX7_33 : u_lay RX7 TX7 33 ∈ gT := tin 809 (by decide +kernel) rfl
theorem laX7_34 : u_lay RX7 TX7 34 ∈ gT := tin 811 (by decide +kernel) rfl
theorem laX7_35 : u_lay RX7 TX7 35 ∈ gT := tin 813 (by decide +kernel) rfl
theorem laX7_36 : u_lay RX7 TX7 36 ∈ gT := tin 815 (by decide +kernel) rfl
theorem inGX7 : ∀ w ∈ u_ws RX7 TX7 37, w ∈ gT := u_all (fun k hk => match k, hk with
  | 0, _ => laX7_0
  | 1, _ => laX7_1
  | 2, _ => laX7_2
  | 3, _ => laX7_3
  | 4, _ => laX7_4
  | 5, _ => laX7_5
  | 6, _ => laX7_6
  | 7, _ => laX7_7
  | 8, _ => laX7_8
  | 9, _ => laX7_9
  | 10, _ => laX7_10
  | 11, _ => laX7_11
  | 12, _ => laX7_12
  | 13, _ => laX7_13
  | 14, _ => laX7_14
  | 15, _ => laX7_15
  | 16, _ => laX7_16
  | 17, _ => laX7_17
  | 18, _ => laX7_18
  | 19, _ => laX7_19
  | 20, _ => laX7_20
  | 21, _ => laX7_21
  | 22, _ => laX7_22
  | 23, _ => laX7_23
  | 24, _ => laX7_24
  | 25, _ => laX7_25
  | 26, _ => laX7_26
  | 27, _ => laX7_27
  | 28, _ => laX7_28
  | 29, _ => laX7_29
  | 30, _ => laX7_30
  | 31, _ => laX7_31
  | 32, _ => laX7_32
  | 33, _ => laX7_33
  | 34, _ => laX7_34
  | 35, _ => laX7_35
  | 36, _ => laX7_36
  | q + 37, h => absurd h (by omega))
theorem bz_fits {v : Int32} (h : bz v = true) : fits .boolean (.int v) = true := by
  simp only [bz, Bool.or_eq_true, decide_eq_true_eq] at h
  rcases h with rfl | rfl <;> rfl
section FR
variable {n : Nat} {sh : Nat → Shp} {D : va_G} {cA : ClassId} {ad : Nat → Nat} {A : Nat → Prop} {sa : Nat → Nat} {mL : Nat} {rt : Option FieldType} {w : Mem} {p : Program} {l : Launch} {e : Env} {Rm : Room} {s : State} {m : MethodId} {args : Array Value} {below : List Frame} {meth : Method} {c : Code} {H : Heap} {locs : List Loc} {cells slots : Nat} {Q : State → Prop} {cc : ByteArray} {pc : Nat} {ls : Array Slot} {rest : List Value}
theorem fl_X6_10 : Cond.fieldLink RX6 10 RX6 (TX6 0).2.1 (TX6 0).2.2.1 ∈ gT := tin 222 (by decide +kernel) rfl
theorem gf_X6_10 (G : Mx n D cA ad A sa p s m args meth c RX6 cc mL rt) (hI : Iv n sh D cA ad A s.heap w H locs) {i : Nat} (hi : isX6 n sh i) (hd : decode cc pc = .ok (.getfield 10, 3)) (kk : W p l e Rm s m args below meth c H locs cells slots Q (F0 m (pc + 3) ls (.ref (ad 1) :: rest))) : W p l e Rm s m args below meth c H locs cells slots Q (F0 m pc ls (.ref (ad i) :: rest)) :=
  m_getR G hI inGX6 (ci := 6) (k := 0) rfl (by decide) fl_X6_10 rfl hi.lt hi.sh rfl hd kk
theorem fl_X6_16 : Cond.fieldLink RX6 16 RX6 (TX6 1).2.1 (TX6 1).2.2.1 ∈ gT := tin 223 (by decide +kernel) rfl
theorem gf_X6_16 (G : Mx n D cA ad A sa p s m args meth c RX6 cc mL rt) (hI : Iv n sh D cA ad A s.heap w H locs) {i : Nat} (hi : isX6 n sh i) (hd : decode cc pc = .ok (.getfield 16, 3)) (kk : W p l e Rm s m args below meth c H locs cells slots Q (F0 m (pc + 3) ls (.ref (ad 14) :: rest))) : W p l e Rm s m args below meth c H locs cells slots Q (F0 m pc ls (.ref (ad i) :: rest)) :=
  m_getR G hI inGX6 (ci := 6) (k := 1) rfl (by decide) fl_X6_16 rfl hi.lt hi.sh rfl hd kk
theorem fl_X6_22 : Cond.fieldLink RX6 22 RX6 (TX6 2).2.1 (TX6 2).2.2.1 ∈ gT := tin 224 (by decide +kernel) rfl
theorem gf_X6_22 (G : Mx n D cA ad A sa p s m args meth c RX6 cc mL rt) (hI : Iv n sh D cA ad A s.heap w H locs) {i : Nat} (hi : isX6 n sh i) (hd : decode cc pc = .ok (.getfield 22, 3)) (kk : W p l e Rm s m args below meth c H locs cells slots Q (F0 m (pc + 3) ls (.ref (ad 27) :: rest))) : W p l e Rm s m args below meth c H locs cells slots Q (F0 m pc ls (.ref (ad i) :: rest)) :=
  m_getR G hI inGX6 (ci := 6) (k := 2) rfl (by decide) fl_X6_22 rfl hi.lt hi.sh rfl hd kk
theorem fl_X6_31 : Cond.fieldLink RX6 31 RX6 (TX6 3).2.1 (TX6 3).2.2.1 ∈ gT := tin 225 (by decide +kernel) rfl
theorem gf_X6_31 (G : Mx n D cA ad A sa p s m args meth c RX6 cc mL rt) (hI : Iv n sh D cA ad A s.heap w H locs) {i : Nat} (hi : isX6 n sh i) (hd : decode cc pc = .ok (.getfield 31, 3)) (kk : W p l e Rm s m args below meth c H locs cells slots Q (F0 m (pc + 3) ls (.ref (ad 30) :: rest))) : W p l e Rm s m args below meth c H locs cells slots Q (F0 m pc ls (.ref (ad i) :: rest)) :=
  m_getR G hI inGX6 (ci := 6) (k := 3) rfl (by decide) fl_X6_31 rfl hi.lt hi.sh rfl hd kk
theorem fl_X6_38 : Cond.fieldLink RX6 38 RX6 (TX6 4).2.1 (TX6 4).2.2.1 ∈ gT := tin 226 (by decide +kernel) rfl
theorem gf_X6_38 (G : Mx n D cA ad A sa p s m args meth c RX6 cc mL rt) (hI : Iv n sh D cA ad A s.heap w H locs) {i : Nat} (hi : isX6 n sh i) (hd : decode cc pc = .ok (.getfield 38, 3)) (kk : W p l e Rm s m args below meth c H locs cells slots Q (F0 m (pc + 3) ls (.ref (ad 32) :: rest))) : W p l e Rm s m args below meth c H locs cells slots Q (F0 m pc ls (.ref (ad i) :: rest)) :=
  m_getR G hI inGX6 (ci := 6) (k := 4) rfl (by decide) fl_X6_38 rfl hi.lt hi.sh rfl hd kk
theorem fl_X6_42 : Cond.fieldLink RX6 42 RX6 (TX6 5).2.1 (TX6 5).2.2.1 ∈ gT := tin 227 (by decide +kernel) rfl
theorem gf_X6_42 (G : Mx n D cA ad A sa p s m args meth c RX6 cc mL rt) (hI : Iv n sh D cA ad A s.heap w H locs) {i : Nat} (hi : isX6 n sh i) (hd : decode cc pc = .ok (.getfield 42, 3)) (kk : W p l e Rm s m args below meth c H locs cells slots Q (F0 m (pc + 3) ls (.ref (ad 39) :: rest))) : W p l e Rm s m args below meth c H locs cells slots Q (F0 m pc ls (.ref (ad i) :: rest)) :=
  m_getR G hI inGX6 (ci := 6) (k := 5) rfl (by decide) fl_X6_42 rfl hi.lt hi.sh rfl hd kk
theorem fl_X6_48 : Cond.fieldLink RX6 48 RX6 (TX6 6).2.1 (TX6 6).2.2.1 ∈ gT := tin 228 (by decide +kernel) rfl
theorem gf_X6_48 (G : Mx n D cA ad A sa p s m args meth c RX6 cc mL rt) (hI : Iv n sh D cA ad A s.heap w H locs) {i : Nat} (hi : isX6 n sh i) (hd : decode cc pc = .ok (.getfield 48, 3)) (kk : W p l e Rm s m args below meth c H locs cells slots Q (F0 m (pc + 3) ls (.ref (ad 41) :: rest))) : W p l e Rm s m args below meth c H locs cells slots Q (F0 m pc ls (.ref (ad i) :: rest)) :=
  m_getR G hI inGX6 (ci := 6) (k := 6) rfl (by decide) fl_X6_48 rfl hi.lt hi.sh rfl hd kk
theorem fl_X6_52 : Cond.fieldLink RX6 52 RX6 (TX6 7).2.1 (TX6 7).2.2.1 ∈ gT := tin 229 (by decide +kernel) rfl
theorem gf_X6_52 (G : Mx n D cA ad A sa p s m args meth c RX6 cc mL rt) (hI : Iv n sh D cA ad A s.heap w H locs) {i : Nat} (hi : isX6 n sh i) (hd : decode cc pc = .ok (.getfield 52, 3)) (kk : W p l e Rm s m args below meth c H locs cells slots Q (F0 m (pc + 3) ls (.ref (ad 45) :: rest))) : W p l e Rm s m args below meth c H locs cells slots Q (F0 m pc ls (.ref (ad i) :: rest)) :=
  m_getR G hI inGX6 (ci := 6) (k := 7) rfl (by decide) fl_X6_52 rfl hi.lt hi.sh rfl hd kk
theorem fl_X6_70 : Cond.fieldLink RX6 70 RX0 (TX0 0).2.1 (TX0 0).2.2.1 ∈ gT := tin 115 (by decide +kernel) rfl
theorem gf_X6_70 (G : Mx n D cA ad A sa p s m args meth c RX6 cc mL rt) (hI : Iv n sh D cA ad A s.heap w H locs) {i : Nat} (hi : isX0 n sh i) (hd : decode cc pc = .ok (.getfield 70, 3)) (kk : W p l e Rm s m args below meth c H locs cells slots Q (F0 m (pc + 3) ls (.ref (ad (i + 1)) :: rest))) : W p l e Rm s m args below meth c H locs cells slots Q (F0 m pc ls (.ref (ad i) :: rest)) :=
  m_getR G hI inGX0 (ci := 0) (k := 0) rfl (by decide) fl_X6_70 rfl hi.lt hi.sh rfl hd kk
theorem fl_X6_77 : Cond.fieldLink RX6 77 RX0 (TX0 1).2.1 (TX0 1).2.2.1 ∈ gT := tin 117 (by decide +kernel) rfl
theorem gf_X6_77 (G : Mx n D cA ad A sa p s m args meth c RX6 cc mL rt) (hI : Iv n sh D cA ad A s.heap w H locs) {i : Nat} (hi : isX0 n sh i) (hd : decode cc pc = .ok (.getfield 77, 3)) (kk : W p l e Rm s m args below meth c H locs cells slots Q (F0 m (pc + 3) ls (.ref (ad (i + 2)) :: rest))) : W p l e Rm s m args below meth c H locs cells slots Q (F0 m pc ls (.ref (ad i) :: rest)) :=
  m_getR G hI inGX0 (ci := 0) (k := 1) rfl (by decide) fl_X6_77 rfl hi.lt hi.sh rfl hd kk
theorem fl_X6_80 : Cond.fieldLink RX6 80 RX0 (TX0 2).2.1 (TX0 2).2.2.1 ∈ gT := tin 119 (by decide +kernel) rfl
theorem gf_X6_80 (G : Mx n D cA ad A sa p s m args meth c RX6 cc mL rt) (hI : Iv n sh D cA ad A s.heap w H locs) {i : Nat} (hi : isX0 n sh i) (hd : decode cc pc = .ok (.getfield 80, 3)) (kk : W p l e Rm s m args below meth c H locs cells slots Q (F0 m (pc + 3) ls (.ref (ad (i + 3)) :: rest))) : W p l e Rm s m args below meth c H locs cells slots Q (F0 m pc ls (.ref (ad i) :: rest)) :=
  m_getR G hI inGX0 (ci := 0) (k := 2) rfl (by decide) fl_X6_80 rfl hi.lt hi.sh rfl hd kk
theorem fl_X6_83 : Cond.fieldLink RX6 83 RX0 (TX0 7).2.1 (TX0 7).2.2.1 ∈ gT := tin 129 (by decide +kernel) rfl
theorem gf_X6_83 (G : Mx n D cA ad A sa p s m args meth c RX6 cc mL rt) (hI : Iv n sh D cA ad A s.heap w H locs) {i : Nat} (hi : isX0 n sh i) (hd : decode cc pc = .ok (.getfield 83, 3)) (kk : W p l e Rm s m args below meth c H locs cells slots Q (F0 m (pc + 3) ls (.int (w i 7) :: rest))) : W p l e Rm s m args below meth c H locs cells slots Q (F0 m pc ls (.ref (ad i) :: rest)) :=
  m_getI G hI inGX0 (ci := 0) (k := 7) rfl (by decide) fl_X6_83 rfl hi.lt hi.sh rfl hd kk
theorem pf_X6_83 (G : Mx n D cA ad A sa p s m args meth c RX6 cc mL rt) (hI : Iv n sh D cA ad A s.heap w H locs) {i : Nat} (hi : isX0 n sh i) {v : Int32} (hd : decode cc pc = .ok (.putfield 83, 3)) (kk : ∀ (H1 : Heap) (locs1 : List Loc), Iv n sh D cA ad A s.heap (mst w i 7 v) H1 locs1 → W p l e Rm s m args below meth c H1 locs1 cells slots Q (F0 m (pc + 3) ls rest)) : W p l e Rm s m args below meth c H locs cells slots Q (F0 m pc ls (.int v :: .ref (ad i) :: rest)) :=
  m_put G hI inGX0 tyX0_ok nmX0 (ci := 0) (k := 7) rfl (by decide) fl_X6_83 rfl rfl (ty := .int) rfl hi.lt hi.sh rfl rfl rfl hd kk
theorem fl_X6_112 : Cond.fieldLink RX6 112 RX1 (TX1 3).2.1 (TX1 3).2.2.1 ∈ gT := tin 62 (by decide +kernel) rfl
theorem gf_X6_112 (G : Mx n D cA ad A sa p s m args meth c RX6 cc mL rt) (hI : Iv n sh D cA ad A s.heap w H locs) {i : Nat} (hi : isX1 n sh i) (hd : decode cc pc = .ok (.getfield 112, 3)) (kk : W p l e Rm s m args below meth c H locs cells slots Q (F0 m (pc + 3) ls (.int (w i 3) :: rest))) : W p l e Rm s m args below meth c H locs cells slots Q (F0 m pc ls (.ref (ad i) :: rest)) :=
  m_getI G hI inGX1 (ci := 1) (k := 3) rfl (by decide) fl_X6_112 rfl hi.lt hi.sh rfl hd kk
theorem pf_X6_112 (G : Mx n D cA ad A sa p s m args meth c RX6 cc mL rt) (hI : Iv n sh D cA ad A s.heap w H locs) {i : Nat} (hi : isX1 n sh i) {v : Int32} (hd : decode cc pc = .ok (.putfield 112, 3)) (kk : ∀ (H1 : Heap) (locs1 : List Loc), Iv n sh D cA ad A s.heap (mst w i 3 v) H1 locs1 → W p l e Rm s m args below meth c H1 locs1 cells slots Q (F0 m (pc + 3) ls rest)) : W p l e Rm s m args below meth c H locs cells slots Q (F0 m pc ls (.int v :: .ref (ad i) :: rest)) :=
  m_put G hI inGX1 tyX1_ok nmX1 (ci := 1) (k := 3) rfl (by decide) fl_X6_112 rfl rfl (ty := .int) rfl hi.lt hi.sh rfl rfl rfl hd kk
theorem fl_X6_117 : Cond.fieldLink RX6 117 RX1 (TX1 4).2.1 (TX1 4).2.2.1 ∈ gT := tin 65 (by decide +kernel) rfl
theorem gf_X6_117 (G : Mx n D cA ad A sa p s m args meth c RX6 cc mL rt) (hI : Iv n sh D cA ad A s.heap w H locs) {i : Nat} (hi : isX1 n sh i) (hd : decode cc pc = .ok (.getfield 117, 3)) (kk : W p l e Rm s m args below meth c H locs cells slots Q (F0 m (pc + 3) ls (.int (w i 4) :: rest))) : W p l e Rm s m args below meth c H locs cells slots Q (F0 m pc ls (.ref (ad i) :: rest)) :=
  m_getI G hI inGX1 (ci := 1) (k := 4) rfl (by decide) fl_X6_117 rfl hi.lt hi.sh rfl hd kk
theorem pf_X6_117 (G : Mx n D cA ad A sa p s m args meth c RX6 cc mL rt) (hI : Iv n sh D cA ad A s.heap w H locs) {i : Nat} (hi : isX1 n sh i) {v : Int32} (hn : bz v = true) (hd : decode cc pc = .ok (.putfield 117, 3)) (kk : ∀ (H1 : Heap) (locs1 : List Loc), Iv n sh D cA ad A s.heap (mst w i 4 v) H1 locs1 → W p l e Rm s m args below meth c H1 locs1 cells slots Q (F0 m (pc + 3) ls rest)) : W p l e Rm s m args below meth c H locs cells slots Q (F0 m pc ls (.int v :: .ref (ad i) :: rest)) :=
  m_put G hI inGX1 tyX1_ok nmX1 (ci := 1) (k := 4) rfl (by decide) fl_X6_117 rfl rfl (ty := .boolean) rfl hi.lt hi.sh rfl (bz_narrow hn) (bz_fits hn) hd kk
theorem fl_X6_129 : Cond.fieldLink RX6 129 RX2 (TX2 0).2.1 (TX2 0).2.2.1 ∈ gT := tin 156 (by decide +kernel) rfl
theorem gf_X6_129 (G : Mx n D cA ad A sa p s m args meth c RX6 cc mL rt) (hI : Iv n sh D cA ad A s.heap w H locs) {i : Nat} (hi : isX2 n sh i) (hd : decode cc pc = .ok (.getfield 129, 3)) (kk : W p l e Rm s m args below meth c H locs cells slots Q (F0 m (pc + 3) ls (.ref (ad (i + 1)) :: rest))) : W p l e Rm s m args below meth c H locs cells slots Q (F0 m pc ls (.ref (ad i) :: rest)) :=
  m_getR G hI inGX2 (ci := 2) (k := 0) rfl (by decide) fl_X6_129 rfl hi.lt hi.sh rfl hd kk
theorem fl_X6_132 : Cond.fieldLink RX6 132 RX4 (TX4 2).2.1 (TX4 2).2.2.1 ∈ gT := tin 40 (by decide +kernel) rfl
theorem gf_X6_132 (G : Mx n D cA ad A sa p s m args meth c RX6 cc mL rt) (hI : Iv n sh D cA ad A s.heap w H locs) {i : Nat} (hi : isX4 n sh i) (hd : decode cc pc = .ok (.getfield 132, 3)) (kk : W p l e Rm s m args below meth c H locs cells slots Q (F0 m (pc + 3) ls (.int (w i 2) :: rest))) : W p l e Rm s m args below meth c H locs cells slots Q (F0 m pc ls (.ref (ad i) :: rest)) :=
  m_getI G hI inGX4 (ci := 4) (k := 2) rfl (by decide) fl_X6_132 rfl hi.lt hi.sh rfl hd kk
theorem pf_X6_132 (G : Mx n D cA ad A sa p s m args meth c RX6 cc mL rt) (hI : Iv n sh D cA ad A s.heap w H locs) {i : Nat} (hi : isX4 n sh i) {v : Int32} (hd : decode cc pc = .ok (.putfield 132, 3)) (kk : ∀ (H1 : Heap) (locs1 : List Loc), Iv n sh D cA ad A s.heap (mst w i 2 v) H1 locs1 → W p l e Rm s m args below meth c H1 locs1 cells slots Q (F0 m (pc + 3) ls rest)) : W p l e Rm s m args below meth c H locs cells slots Q (F0 m pc ls (.int v :: .ref (ad i) :: rest)) :=
  m_put G hI inGX4 tyX4_ok nmX4 (ci := 4) (k := 2) rfl (by decide) fl_X6_132 rfl rfl (ty := .int) rfl hi.lt hi.sh rfl rfl rfl hd kk
theorem fl_X6_135 : Cond.fieldLink RX6 135 RX1 (TX1 6).2.1 (TX1 6).2.2.1 ∈ gT := tin 70 (by decide +kernel) rfl
theorem gf_X6_135 (G : Mx n D cA ad A sa p s m args meth c RX6 cc mL rt) (hI : Iv n sh D cA ad A s.heap w H locs) {i : Nat} (hi : isX1 n sh i) (hd : decode cc pc = .ok (.getfield 135, 3)) (kk : W p l e Rm s m args below meth c H locs cells slots Q (F0 m (pc + 3) ls (.ref (ad (i + 2)) :: rest))) : W p l e Rm s m args below meth c H locs cells slots Q (F0 m pc ls (.ref (ad i) :: rest)) :=
  m_getR G hI inGX1 (ci := 1) (k := 6) rfl (by decide) fl_X6_135 rfl hi.lt hi.sh rfl hd kk
theorem fl_X6_138 : Cond.fieldLink RX6 138 RX1 (TX1 7).2.1 (TX1 7).2.2.1 ∈ gT := tin 73 (by decide +kernel) rfl
theorem gf_X6_138 (G : Mx n D cA ad A sa p s m args meth c RX6 cc mL rt) (hI : Iv n sh D cA ad A s.heap w H locs) {i : Nat} (hi : isX1 n sh i) (hd : decode cc pc = .ok (.getfield 138, 3)) (kk : W p l e Rm s m args below meth c H locs cells slots Q (F0 m (pc + 3) ls (.ref (ad (i + 3)) :: rest))) : W p l e Rm s m args below meth c H locs cells slots Q (F0 m pc ls (.ref (ad i) :: rest)) :=
  m_getR G hI inGX1 (ci := 1) (k := 7) rfl (by decide) fl_X6_138 rfl hi.lt hi.sh rfl hd kk
theorem fl_X6_170 : Cond.fieldLink RX6 170 RX2 (TX2 1).2.1 (TX2 1).2.2.1 ∈ gT := tin 158 (by decide +kernel) rfl
theorem gf_X6_170 (G : Mx n D cA ad A sa p s m args meth c RX6 cc mL rt) (hI : Iv n sh D cA ad A s.heap w H locs) {i : Nat} (hi : isX2 n sh i) (hd : decode cc pc = .ok (.getfield 170, 3)) (kk : W p l e Rm s m args below meth c H locs cells slots Q (F0 m (pc + 3) ls (.int (w i 1) :: rest))) : W p l e Rm s m args below meth c H locs cells slots Q (F0 m pc ls (.ref (ad i) :: rest)) :=
  m_getI G hI inGX2 (ci := 2) (k := 1) rfl (by decide) fl_X6_170 rfl hi.lt hi.sh rfl hd kk
theorem pf_X6_170 (G : Mx n D cA ad A sa p s m args meth c RX6 cc mL rt) (hI : Iv n sh D cA ad A s.heap w H locs) {i : Nat} (hi : isX2 n sh i) {v : Int32} (hd : decode cc pc = .ok (.putfield 170, 3)) (kk : ∀ (H1 : Heap) (locs1 : List Loc), Iv n sh D cA ad A s.heap (mst w i 1 v) H1 locs1 → W p l e Rm s m args below meth c H1 locs1 cells slots Q (F0 m (pc + 3) ls rest)) : W p l e Rm s m args below meth c H locs cells slots Q (F0 m pc ls (.int v :: .ref (ad i) :: rest)) :=
  m_put G hI inGX2 tyX2_ok nmX2 (ci := 2) (k := 1) rfl (by decide) fl_X6_170 rfl rfl (ty := .int) rfl hi.lt hi.sh rfl rfl rfl hd kk
theorem fl_X6_182 : Cond.fieldLink RX6 182 RX1 (TX1 0).2.1 (TX1 0).2.2.1 ∈ gT := tin 58 (by decide +kernel) rfl
theorem gf_X6_182 (G : Mx n D cA ad A sa p s m args meth c RX6 cc mL rt) (hI : Iv n sh D cA ad A s.heap w H locs) {i : Nat} (hi : isX1 n sh i) (hd : decode cc pc = .ok (.getfield 182, 3)) (kk : W p l e Rm s m args below meth c H locs cells slots Q (F0 m (pc + 3) ls (.int (w i 0) :: rest))) : W p l e Rm s m args below meth c H locs cells slots Q (F0 m pc ls (.ref (ad i) :: rest)) :=
  m_getI G hI inGX1 (ci := 1) (k := 0) rfl (by decide) fl_X6_182 rfl hi.lt hi.sh rfl hd kk
theorem pf_X6_182 (G : Mx n D cA ad A sa p s m args meth c RX6 cc mL rt) (hI : Iv n sh D cA ad A s.heap w H locs) {i : Nat} (hi : isX1 n sh i) {v : Int32} (hd : decode cc pc = .ok (.putfield 182, 3)) (kk : ∀ (H1 : Heap) (locs1 : List Loc), Iv n sh D cA ad A s.heap (mst w i 0 v) H1 locs1 → W p l e Rm s m args below meth c H1 locs1 cells slots Q (F0 m (pc + 3) ls rest)) : W p l e Rm s m args below meth c H locs cells slots Q (F0 m pc ls (.int v :: .ref (ad i) :: rest)) :=
  m_put G hI inGX1 tyX1_ok nmX1 (ci := 1) (k := 0) rfl (by decide) fl_X6_182 rfl rfl (ty := .int) rfl hi.lt hi.sh rfl rfl rfl hd kk
theorem fl_X6_185 : Cond.fieldLink RX6 185 RX1 (TX1 5).2.1 (TX1 5).2.2.1 ∈ gT := tin 67 (by decide +kernel) rfl
theorem gf_X6_185 (G : Mx n D cA ad A sa p s m args meth c RX6 cc mL rt) (hI : Iv n sh D cA ad A s.heap w H locs) {i : Nat} (hi : isX1 n sh i) (hd : decode cc pc = .ok (.getfield 185, 3)) (kk : W p l e Rm s m args below meth c H locs cells slots Q (F0 m (pc + 3) ls (.ref (ad (i + 1)) :: rest))) : W p l e Rm s m args below meth c H locs cells slots Q (F0 m pc ls (.ref (ad i) :: rest)) :=
  m_getR G hI inGX1 (ci := 1) (k := 5) rfl (by decide) fl_X6_185 rfl hi.lt hi.sh rfl hd kk
theorem fl_X6_199 : Cond.fieldLink RX6 199 RX3 (TX3 5).2.1 (TX3 5).2.2.1 ∈ gT := tin 182 (by decide +kernel) rfl
theorem gf_X6_199 (G : Mx n D cA ad A sa p s m args meth c RX6 cc mL rt) (hI : Iv n sh D cA ad A s.heap w H locs) {i : Nat} (hi : isX3 n sh i) (hd : decode cc pc = .ok (.getfield 199, 3)) (kk : W p l e Rm s m args below meth c H locs cells slots Q (F0 m (pc + 3) ls (.int (w i 5) :: rest))) : W p l e Rm s m args below meth c H locs cells slots Q (F0 m pc ls (.ref (ad i) :: rest)) :=
  m_getI G hI inGX3 (ci := 3) (k := 5) rfl (by decide) fl_X6_199 rfl hi.lt hi.sh rfl hd kk
theorem pf_X6_199 (G : Mx n D cA ad A sa p s m args meth c RX6 cc mL rt) (hI : Iv n sh D cA ad A s.heap w H locs) {i : Nat} (hi : isX3 n sh i) {v : Int32} (hd : decode cc pc = .ok (.putfield 199, 3)) (kk : ∀ (H1 : Heap) (locs1 : List Loc), Iv n sh D cA ad A s.heap (mst w i 5 v) H1 locs1 → W p l e Rm s m args below meth c H1 locs1 cells slots Q (F0 m (pc + 3) ls rest)) : W p l e Rm s m args below meth c H locs cells slots Q (F0 m pc ls (.int v :: .ref (ad i) :: rest)) :=
  m_put G hI inGX3 tyX3_ok nmX3 (ci := 3) (k := 5) rfl (by decide) fl_X6_199 rfl rfl (ty := .int) rfl hi.lt hi.sh rfl rfl rfl hd kk
theorem fl_X6_202 : Cond.fieldLink RX6 202 RX3 (TX3 4).2.1 (TX3 4).2.2.1 ∈ gT := tin 180 (by decide +kernel) rfl
theorem gf_X6_202 (G : Mx n D cA ad A sa p s m args meth c RX6 cc mL rt) (hI : Iv n sh D cA ad A s.heap w H locs) {i : Nat} (hi : isX3 n sh i) (hd : decode cc pc = .ok (.getfield 202, 3)) (kk : W p l e Rm s m args below meth c H locs cells slots Q (F0 m (pc + 3) ls (.int (w i 4) :: rest))) : W p l e Rm s m args below meth c H locs cells slots Q (F0 m pc ls (.ref (ad i) :: rest)) :=
  m_getI G hI inGX3 (ci := 3) (k := 4) rfl (by decide) fl_X6_202 rfl hi.lt hi.sh rfl hd kk
theorem pf_X6_202 (G : Mx n D cA ad A sa p s m args meth c RX6 cc mL rt) (hI : Iv n sh D cA ad A s.heap w H locs) {i : Nat} (hi : isX3 n sh i) {v : Int32} (hd : decode cc pc = .ok (.putfield 202, 3)) (kk : ∀ (H1 : Heap) (locs1 : List Loc), Iv n sh D cA ad A s.heap (mst w i 4 v) H1 locs1 → W p l e Rm s m args below meth c H1 locs1 cells slots Q (F0 m (pc + 3) ls rest)) : W p l e Rm s m args below meth c H locs cells slots Q (F0 m pc ls (.int v :: .ref (ad i) :: rest)) :=
  m_put G hI inGX3 tyX3_ok nmX3 (ci := 3) (k := 4) rfl (by decide) fl_X6_202 rfl rfl (ty := .int) rfl hi.lt hi.sh rfl rfl rfl hd kk
theorem fl_X6_205 : Cond.fieldLink RX6 205 RX3 (TX3 3).2.1 (TX3 3).2.2.1 ∈ gT := tin 178 (by decide +kernel) rfl
theorem gf_X6_205 (G : Mx n D cA ad A sa p s m args meth c RX6 cc mL rt) (hI : Iv n sh D cA ad A s.heap w H locs) {i : Nat} (hi : isX3 n sh i) (hd : decode cc pc = .ok (.getfield 205, 3)) (kk : W p l e Rm s m args below meth c H locs cells slots Q (F0 m (pc + 3) ls (.ref (ad 38) :: rest))) : W p l e Rm s m args below meth c H locs cells slots Q (F0 m pc ls (.ref (ad i) :: rest)) :=
  m_getR G hI inGX3 (ci := 3) (k := 3) rfl (by decide) fl_X6_205 rfl hi.lt hi.sh rfl hd kk
theorem fl_X6_208 : Cond.fieldLink RX6 208 RX0 (TX0 5).2.1 (TX0 5).2.2.1 ∈ gT := tin 125 (by decide +kernel) rfl
theorem gf_X6_208 (G : Mx n D cA ad A sa p s m args meth c RX6 cc mL rt) (hI : Iv n sh D cA ad A s.heap w H locs) {i : Nat} (hi : isX0 n sh i) (hd : decode cc pc = .ok (.getfield 208, 3)) (kk : W p l e Rm s m args below meth c H locs cells slots Q (F0 m (pc + 3) ls (.ref (ad (i + 6)) :: rest))) : W p l e Rm s m args below meth c H locs cells slots Q (F0 m pc ls (.ref (ad i) :: rest)) :=
  m_getR G hI inGX0 (ci := 0) (k := 5) rfl (by decide) fl_X6_208 rfl hi.lt hi.sh rfl hd kk
theorem fl_X6_234 : Cond.fieldLink RX6 234 RX0 (TX0 3).2.1 (TX0 3).2.2.1 ∈ gT := tin 121 (by decide +kernel) rfl
theorem gf_X6_234 (G : Mx n D cA ad A sa p s m args meth c RX6 cc mL rt) (hI : Iv n sh D cA ad A s.heap w H locs) {i : Nat} (hi : isX0 n sh i) (hd : decode cc pc = .ok (.getfield 234, 3)) (kk : W p l e Rm s m args below meth c H locs cells slots Q (F0 m (pc + 3) ls (.ref (ad (i + 4)) :: rest))) : W p l e Rm s m args below meth c H locs cells slots Q (F0 m pc ls (.ref (ad i) :: rest)) :=
  m_getR G hI inGX0 (ci := 0) (k := 3) rfl (by decide) fl_X6_234 rfl hi.lt hi.sh rfl hd kk
theorem fl_X6_237 : Cond.fieldLink RX6 237 RX0 (TX0 4).2.1 (TX0 4).2.2.1 ∈ gT := tin 123 (by decide +kernel) rfl
theorem gf_X6_237 (G : Mx n D cA ad A sa p s m args meth c RX6 cc mL rt) (hI : Iv n sh D cA ad A s.heap w H locs) {i : Nat} (hi : isX0 n sh i) (hd : decode cc pc = .ok (.getfield 237, 3)) (kk : W p l e Rm s m args below meth c H locs cells slots Q (F0 m (pc + 3) ls (.ref (ad (i + 5)) :: rest))) : W p l e Rm s m args below meth c H locs cells slots Q (F0 m pc ls (.ref (ad i) :: rest)) :=
  m_getR G hI inGX0 (ci := 0) (k := 4) rfl (by decide) fl_X6_237 rfl hi.lt hi.sh rfl hd kk
theorem fl_X6_250 : Cond.fieldLink RX6 250 RX5 (TX5 2).2.1 (TX5 2).2.2.1 ∈ gT := tin 208 (by decide +kernel) rfl
theorem gf_X6_250 (G : Mx n D cA ad A sa p s m args meth c RX6 cc mL rt) (hI : Iv n sh D cA ad A s.heap w H locs) {i : Nat} (hi : isX5 n sh i) (hd : decode cc pc = .ok (.getfield 250, 3)) (kk : W p l e Rm s m args below meth c H locs cells slots Q (F0 m (pc + 3) ls (.int (w i 2) :: rest))) : W p l e Rm s m args below meth c H locs cells slots Q (F0 m pc ls (.ref (ad i) :: rest)) :=
  m_getI G hI inGX5 (ci := 5) (k := 2) rfl (by decide) fl_X6_250 rfl hi.lt hi.sh rfl hd kk
theorem pf_X6_250 (G : Mx n D cA ad A sa p s m args meth c RX6 cc mL rt) (hI : Iv n sh D cA ad A s.heap w H locs) {i : Nat} (hi : isX5 n sh i) {v : Int32} (hd : decode cc pc = .ok (.putfield 250, 3)) (kk : ∀ (H1 : Heap) (locs1 : List Loc), Iv n sh D cA ad A s.heap (mst w i 2 v) H1 locs1 → W p l e Rm s m args below meth c H1 locs1 cells slots Q (F0 m (pc + 3) ls rest)) : W p l e Rm s m args below meth c H locs cells slots Q (F0 m pc ls (.int v :: .ref (ad i) :: rest)) :=
  m_put G hI inGX5 tyX5_ok nmX5 (ci := 5) (k := 2) rfl (by decide) fl_X6_250 rfl rfl (ty := .int) rfl hi.lt hi.sh rfl rfl rfl hd kk
theorem fl_X6_264 : Cond.fieldLink RX6 264 RX5 (TX5 1).2.1 (TX5 1).2.2.1 ∈ gT := tin 206 (by decide +kernel) rfl
theorem gf_X6_264 (G : Mx n D cA ad A sa p s m args meth c RX6 cc mL rt) (hI : Iv n sh D cA ad A s.heap w H locs) {i : Nat} (hi : isX5 n sh i) (hd : decode cc pc = .ok (.getfield 264, 3)) (kk : W p l e Rm s m args below meth c H locs cells slots Q (F0 m (pc + 3) ls (.ref (ad 43) :: rest))) : W p l e Rm s m args below meth c H locs cells slots Q (F0 m pc ls (.ref (ad i) :: rest)) :=
  m_getR G hI inGX5 (ci := 5) (k := 1) rfl (by decide) fl_X6_264 rfl hi.lt hi.sh rfl hd kk
theorem fl_X6_282 : Cond.fieldLink RX6 282 RX0 (TX0 6).2.1 (TX0 6).2.2.1 ∈ gT := tin 127 (by decide +kernel) rfl
theorem gf_X6_282 (G : Mx n D cA ad A sa p s m args meth c RX6 cc mL rt) (hI : Iv n sh D cA ad A s.heap w H locs) {i : Nat} (hi : isX0 n sh i) (hd : decode cc pc = .ok (.getfield 282, 3)) (kk : W p l e Rm s m args below meth c H locs cells slots Q (F0 m (pc + 3) ls (.ref (ad (i + 8)) :: rest))) : W p l e Rm s m args below meth c H locs cells slots Q (F0 m pc ls (.ref (ad i) :: rest)) :=
  m_getR G hI inGX0 (ci := 0) (k := 6) rfl (by decide) fl_X6_282 rfl hi.lt hi.sh rfl hd kk
theorem fl_X0_9 : Cond.fieldLink RX0 9 RX0 (TX0 0).2.1 (TX0 0).2.2.1 ∈ gT := tin 114 (by decide +kernel) rfl
theorem gf_X0_9 (G : Mx n D cA ad A sa p s m args meth c RX0 cc mL rt) (hI : Iv n sh D cA ad A s.heap w H locs) {i : Nat} (hi : isX0 n sh i) (hd : decode cc pc = .ok (.getfield 9, 3)) (kk : W p l e Rm s m args below meth c H locs cells slots Q (F0 m (pc + 3) ls (.ref (ad (i + 1)) :: rest))) : W p l e Rm s m args below meth c H locs cells slots Q (F0 m pc ls (.ref (ad i) :: rest)) :=
  m_getR G hI inGX0 (ci := 0) (k := 0) rfl (by decide) fl_X0_9 rfl hi.lt hi.sh rfl hd kk
theorem fl_X0_15 : Cond.fieldLink RX0 15 RX0 (TX0 1).2.1 (TX0 1).2.2.1 ∈ gT := tin 116 (by decide +kernel) rfl
theorem gf_X0_15 (G : Mx n D cA ad A sa p s m args meth c RX0 cc mL rt) (hI : Iv n sh D cA ad A s.heap w H locs) {i : Nat} (hi : isX0 n sh i) (hd : decode cc pc = .ok (.getfield 15, 3)) (kk : W p l e Rm s m args below meth c H locs cells slots Q (F0 m (pc + 3) ls (.ref (ad (i + 2)) :: rest))) : W p l e Rm s m args below meth c H locs cells slots Q (F0 m pc ls (.ref (ad i) :: rest)) :=
  m_getR G hI inGX0 (ci := 0) (k := 1) rfl (by decide) fl_X0_15 rfl hi.lt hi.sh rfl hd kk
theorem fl_X0_18 : Cond.fieldLink RX0 18 RX0 (TX0 2).2.1 (TX0 2).2.2.1 ∈ gT := tin 118 (by decide +kernel) rfl
theorem gf_X0_18 (G : Mx n D cA ad A sa p s m args meth c RX0 cc mL rt) (hI : Iv n sh D cA ad A s.heap w H locs) {i : Nat} (hi : isX0 n sh i) (hd : decode cc pc = .ok (.getfield 18, 3)) (kk : W p l e Rm s m args below meth c H locs cells slots Q (F0 m (pc + 3) ls (.ref (ad (i + 3)) :: rest))) : W p l e Rm s m args below meth c H locs cells slots Q (F0 m pc ls (.ref (ad i) :: rest)) :=
  m_getR G hI inGX0 (ci := 0) (k := 2) rfl (by decide) fl_X0_18 rfl hi.lt hi.sh rfl hd kk
theorem fl_X0_21 : Cond.fieldLink RX0 21 RX0 (TX0 3).2.1 (TX0 3).2.2.1 ∈ gT := tin 120 (by decide +kernel) rfl
theorem gf_X0_21 (G : Mx n D cA ad A sa p s m args meth c RX0 cc mL rt) (hI : Iv n sh D cA ad A s.heap w H locs) {i : Nat} (hi : isX0 n sh i) (hd : decode cc pc = .ok (.getfield 21, 3)) (kk : W p l e Rm s m args below meth c H locs cells slots Q (F0 m (pc + 3) ls (.ref (ad (i + 4)) :: rest))) : W p l e Rm s m args below meth c H locs cells slots Q (F0 m pc ls (.ref (ad i) :: rest)) :=
  m_getR G hI inGX0 (ci := 0) (k := 3) rfl (by decide) fl_X0_21 rfl hi.lt hi.sh rfl hd kk
theorem fl_X0_24 : Cond.fieldLink RX0 24 RX0 (TX0 4).2.1 (TX0 4).2.2.1 ∈ gT := tin 122 (by decide +kernel) rfl
theorem gf_X0_24 (G : Mx n D cA ad A sa p s m args meth c RX0 cc mL rt) (hI : Iv n sh D cA ad A s.heap w H locs) {i : Nat} (hi : isX0 n sh i) (hd : decode cc pc = .ok (.getfield 24, 3)) (kk : W p l e Rm s m args below meth c H locs cells slots Q (F0 m (pc + 3) ls (.ref (ad (i + 5)) :: rest))) : W p l e Rm s m args below meth c H locs cells slots Q (F0 m pc ls (.ref (ad i) :: rest)) :=
  m_getR G hI inGX0 (ci := 0) (k := 4) rfl (by decide) fl_X0_24 rfl hi.lt hi.sh rfl hd kk
theorem fl_X0_32 : Cond.fieldLink RX0 32 RX0 (TX0 5).2.1 (TX0 5).2.2.1 ∈ gT := tin 124 (by decide +kernel) rfl
theorem gf_X0_32 (G : Mx n D cA ad A sa p s m args meth c RX0 cc mL rt) (hI : Iv n sh D cA ad A s.heap w H locs) {i : Nat} (hi : isX0 n sh i) (hd : decode cc pc = .ok (.getfield 32, 3)) (kk : W p l e Rm s m args below meth c H locs cells slots Q (F0 m (pc + 3) ls (.ref (ad (i + 6)) :: rest))) : W p l e Rm s m args below meth c H locs cells slots Q (F0 m pc ls (.ref (ad i) :: rest)) :=
  m_getR G hI inGX0 (ci := 0) (k := 5) rfl (by decide) fl_X0_32 rfl hi.lt hi.sh rfl hd kk
theorem fl_X0_39 : Cond.fieldLink RX0 39 RX0 (TX0 6).2.1 (TX0 6).2.2.1 ∈ gT := tin 126 (by decide +kernel) rfl
theorem gf_X0_39 (G : Mx n D cA ad A sa p s m args meth c RX0 cc mL rt) (hI : Iv n sh D cA ad A s.heap w H locs) {i : Nat} (hi : isX0 n sh i) (hd : decode cc pc = .ok (.getfield 39, 3)) (kk : W p l e Rm s m args below meth c H locs cells slots Q (F0 m (pc + 3) ls (.ref (ad (i + 8)) :: rest))) : W p l e Rm s m args below meth c H locs cells slots Q (F0 m pc ls (.ref (ad i) :: rest)) :=
  m_getR G hI inGX0 (ci := 0) (k := 6) rfl (by decide) fl_X0_39 rfl hi.lt hi.sh rfl hd kk
theorem fl_X0_58 : Cond.fieldLink RX0 58 RX0 (TX0 7).2.1 (TX0 7).2.2.1 ∈ gT := tin 128 (by decide +kernel) rfl
theorem gf_X0_58 (G : Mx n D cA ad A sa p s m args meth c RX0 cc mL rt) (hI : Iv n sh D cA ad A s.heap w H locs) {i : Nat} (hi : isX0 n sh i) (hd : decode cc pc = .ok (.getfield 58, 3)) (kk : W p l e Rm s m args below meth c H locs cells slots Q (F0 m (pc + 3) ls (.int (w i 7) :: rest))) : W p l e Rm s m args below meth c H locs cells slots Q (F0 m pc ls (.ref (ad i) :: rest)) :=
  m_getI G hI inGX0 (ci := 0) (k := 7) rfl (by decide) fl_X0_58 rfl hi.lt hi.sh rfl hd kk
theorem pf_X0_58 (G : Mx n D cA ad A sa p s m args meth c RX0 cc mL rt) (hI : Iv n sh D cA ad A s.heap w H locs) {i : Nat} (hi : isX0 n sh i) {v : Int32} (hd : decode cc pc = .ok (.putfield 58, 3)) (kk : ∀ (H1 : Heap) (locs1 : List Loc), Iv n sh D cA ad A s.heap (mst w i 7 v) H1 locs1 → W p l e Rm s m args below meth c H1 locs1 cells slots Q (F0 m (pc + 3) ls rest)) : W p l e Rm s m args below meth c H locs cells slots Q (F0 m pc ls (.int v :: .ref (ad i) :: rest)) :=
  m_put G hI inGX0 tyX0_ok nmX0 (ci := 0) (k := 7) rfl (by decide) fl_X0_58 rfl rfl (ty := .int) rfl hi.lt hi.sh rfl rfl rfl hd kk
theorem fl_X0_82 : Cond.fieldLink RX0 82 RX1 (TX1 4).2.1 (TX1 4).2.2.1 ∈ gT := tin 64 (by decide +kernel) rfl
theorem gf_X0_82 (G : Mx n D cA ad A sa p s m args meth c RX0 cc mL rt) (hI : Iv n sh D cA ad A s.heap w H locs) {i : Nat} (hi : isX1 n sh i) (hd : decode cc pc = .ok (.getfield 82, 3)) (kk : W p l e Rm s m args below meth c H locs cells slots Q (F0 m (pc + 3) ls (.int (w i 4) :: rest))) : W p l e Rm s m args below meth c H locs cells slots Q (F0 m pc ls (.ref (ad i) :: rest)) :=
  m_getI G hI inGX1 (ci := 1) (k := 4) rfl (by decide) fl_X0_82 rfl hi.lt hi.sh rfl hd kk
theorem pf_X0_82 (G : Mx n D cA ad A sa p s m args meth c RX0 cc mL rt) (hI : Iv n sh D cA ad A s.heap w H locs) {i : Nat} (hi : isX1 n sh i) {v : Int32} (hn : bz v = true) (hd : decode cc pc = .ok (.putfield 82, 3)) (kk : ∀ (H1 : Heap) (locs1 : List Loc), Iv n sh D cA ad A s.heap (mst w i 4 v) H1 locs1 → W p l e Rm s m args below meth c H1 locs1 cells slots Q (F0 m (pc + 3) ls rest)) : W p l e Rm s m args below meth c H locs cells slots Q (F0 m pc ls (.int v :: .ref (ad i) :: rest)) :=
  m_put G hI inGX1 tyX1_ok nmX1 (ci := 1) (k := 4) rfl (by decide) fl_X0_82 rfl rfl (ty := .boolean) rfl hi.lt hi.sh rfl (bz_narrow hn) (bz_fits hn) hd kk
theorem fl_X0_86 : Cond.fieldLink RX0 86 RX4 (TX4 2).2.1 (TX4 2).2.2.1 ∈ gT := tin 39 (by decide +kernel) rfl
theorem gf_X0_86 (G : Mx n D cA ad A sa p s m args meth c RX0 cc mL rt) (hI : Iv n sh D cA ad A s.heap w H locs) {i : Nat} (hi : isX4 n sh i) (hd : decode cc pc = .ok (.getfield 86, 3)) (kk : W p l e Rm s m args below meth c H locs cells slots Q (F0 m (pc + 3) ls (.int (w i 2) :: rest))) : W p l e Rm s m args below meth c H locs cells slots Q (F0 m pc ls (.ref (ad i) :: rest)) :=
  m_getI G hI inGX4 (ci := 4) (k := 2) rfl (by decide) fl_X0_86 rfl hi.lt hi.sh rfl hd kk
theorem pf_X0_86 (G : Mx n D cA ad A sa p s m args meth c RX0 cc mL rt) (hI : Iv n sh D cA ad A s.heap w H locs) {i : Nat} (hi : isX4 n sh i) {v : Int32} (hd : decode cc pc = .ok (.putfield 86, 3)) (kk : ∀ (H1 : Heap) (locs1 : List Loc), Iv n sh D cA ad A s.heap (mst w i 2 v) H1 locs1 → W p l e Rm s m args below meth c H1 locs1 cells slots Q (F0 m (pc + 3) ls rest)) : W p l e Rm s m args below meth c H locs cells slots Q (F0 m pc ls (.int v :: .ref (ad i) :: rest)) :=
  m_put G hI inGX4 tyX4_ok nmX4 (ci := 4) (k := 2) rfl (by decide) fl_X0_86 rfl rfl (ty := .int) rfl hi.lt hi.sh rfl rfl rfl hd kk
theorem fl_X1_9 : Cond.fieldLink RX1 9 RX1 (TX1 5).2.1 (TX1 5).2.2.1 ∈ gT := tin 66 (by decide +kernel) rfl
theorem gf_X1_9 (G : Mx n D cA ad A sa p s m args meth c RX1 cc mL rt) (hI : Iv n sh D cA ad A s.heap w H locs) {i : Nat} (hi : isX1 n sh i) (hd : decode cc pc = .ok (.getfield 9, 3)) (kk : W p l e Rm s m args below meth c H locs cells slots Q (F0 m (pc + 3) ls (.ref (ad (i + 1)) :: rest))) : W p l e Rm s m args below meth c H locs cells slots Q (F0 m pc ls (.ref (ad i) :: rest)) :=
  m_getR G hI inGX1 (ci := 1) (k := 5) rfl (by decide) fl_X1_9 rfl hi.lt hi.sh rfl hd kk
theorem fl_X1_15 : Cond.fieldLink RX1 15 RX1 (TX1 6).2.1 (TX1 6).2.2.1 ∈ gT := tin 68 (by decide +kernel) rfl
theorem gf_X1_15 (G : Mx n D cA ad A sa p s m args meth c RX1 cc mL rt) (hI : Iv n sh D cA ad A s.heap w H locs) {i : Nat} (hi : isX1 n sh i) (hd : decode cc pc = .ok (.getfield 15, 3)) (kk : W p l e Rm s m args below meth c H locs cells slots Q (F0 m (pc + 3) ls (.ref (ad (i + 2)) :: rest))) : W p l e Rm s m args below meth c H locs cells slots Q (F0 m pc ls (.ref (ad i) :: rest)) :=
  m_getR G hI inGX1 (ci := 1) (k := 6) rfl (by decide) fl_X1_15 rfl hi.lt hi.sh rfl hd kk
theorem fl_X1_18 : Cond.fieldLink RX1 18 RX1 (TX1 7).2.1 (TX1 7).2.2.1 ∈ gT := tin 71 (by decide +kernel) rfl
theorem gf_X1_18 (G : Mx n D cA ad A sa p s m args meth c RX1 cc mL rt) (hI : Iv n sh D cA ad A s.heap w H locs) {i : Nat} (hi : isX1 n sh i) (hd : decode cc pc = .ok (.getfield 18, 3)) (kk : W p l e Rm s m args below meth c H locs cells slots Q (F0 m (pc + 3) ls (.ref (ad (i + 3)) :: rest))) : W p l e Rm s m args below meth c H locs cells slots Q (F0 m pc ls (.ref (ad i) :: rest)) :=
  m_getR G hI inGX1 (ci := 1) (k := 7) rfl (by decide) fl_X1_18 rfl hi.lt hi.sh rfl hd kk
theorem fl_X1_21 : Cond.fieldLink RX1 21 RX1 (TX1 8).2.1 (TX1 8).2.2.1 ∈ gT := tin 74 (by decide +kernel) rfl
theorem gf_X1_21 (G : Mx n D cA ad A sa p s m args meth c RX1 cc mL rt) (hI : Iv n sh D cA ad A s.heap w H locs) {i : Nat} (hi : isX1 n sh i) (hd : decode cc pc = .ok (.getfield 21, 3)) (kk : W p l e Rm s m args below meth c H locs cells slots Q (F0 m (pc + 3) ls (.ref (ad (i + 4)) :: rest))) : W p l e Rm s m args below meth c H locs cells slots Q (F0 m pc ls (.ref (ad i) :: rest)) :=
  m_getR G hI inGX1 (ci := 1) (k := 8) rfl (by decide) fl_X1_21 rfl hi.lt hi.sh rfl hd kk
theorem fl_X1_24 : Cond.fieldLink RX1 24 RX1 (TX1 0).2.1 (TX1 0).2.2.1 ∈ gT := tin 56 (by decide +kernel) rfl
theorem gf_X1_24 (G : Mx n D cA ad A sa p s m args meth c RX1 cc mL rt) (hI : Iv n sh D cA ad A s.heap w H locs) {i : Nat} (hi : isX1 n sh i) (hd : decode cc pc = .ok (.getfield 24, 3)) (kk : W p l e Rm s m args below meth c H locs cells slots Q (F0 m (pc + 3) ls (.int (w i 0) :: rest))) : W p l e Rm s m args below meth c H locs cells slots Q (F0 m pc ls (.ref (ad i) :: rest)) :=
  m_getI G hI inGX1 (ci := 1) (k := 0) rfl (by decide) fl_X1_24 rfl hi.lt hi.sh rfl hd kk
theorem pf_X1_24 (G : Mx n D cA ad A sa p s m args meth c RX1 cc mL rt) (hI : Iv n sh D cA ad A s.heap w H locs) {i : Nat} (hi : isX1 n sh i) {v : Int32} (hd : decode cc pc = .ok (.putfield 24, 3)) (kk : ∀ (H1 : Heap) (locs1 : List Loc), Iv n sh D cA ad A s.heap (mst w i 0 v) H1 locs1 → W p l e Rm s m args below meth c H1 locs1 cells slots Q (F0 m (pc + 3) ls rest)) : W p l e Rm s m args below meth c H locs cells slots Q (F0 m pc ls (.int v :: .ref (ad i) :: rest)) :=
  m_put G hI inGX1 tyX1_ok nmX1 (ci := 1) (k := 0) rfl (by decide) fl_X1_24 rfl rfl (ty := .int) rfl hi.lt hi.sh rfl rfl rfl hd kk
theorem fl_X1_28 : Cond.fieldLink RX1 28 RX1 (TX1 1).2.1 (TX1 1).2.2.1 ∈ gT := tin 59 (by decide +kernel) rfl
theorem gf_X1_28 (G : Mx n D cA ad A sa p s m args meth c RX1 cc mL rt) (hI : Iv n sh D cA ad A s.heap w H locs) {i : Nat} (hi : isX1 n sh i) (hd : decode cc pc = .ok (.getfield 28, 3)) (kk : W p l e Rm s m args below meth c H locs cells slots Q (F0 m (pc + 3) ls (.int (w i 1) :: rest))) : W p l e Rm s m args below meth c H locs cells slots Q (F0 m pc ls (.ref (ad i) :: rest)) :=
  m_getI G hI inGX1 (ci := 1) (k := 1) rfl (by decide) fl_X1_28 rfl hi.lt hi.sh rfl hd kk
theorem pf_X1_28 (G : Mx n D cA ad A sa p s m args meth c RX1 cc mL rt) (hI : Iv n sh D cA ad A s.heap w H locs) {i : Nat} (hi : isX1 n sh i) {v : Int32} (hd : decode cc pc = .ok (.putfield 28, 3)) (kk : ∀ (H1 : Heap) (locs1 : List Loc), Iv n sh D cA ad A s.heap (mst w i 1 v) H1 locs1 → W p l e Rm s m args below meth c H1 locs1 cells slots Q (F0 m (pc + 3) ls rest)) : W p l e Rm s m args below meth c H locs cells slots Q (F0 m pc ls (.int v :: .ref (ad i) :: rest)) :=
  m_put G hI inGX1 tyX1_ok nmX1 (ci := 1) (k := 1) rfl (by decide) fl_X1_28 rfl rfl (ty := .int) rfl hi.lt hi.sh rfl rfl rfl hd kk
theorem fl_X1_31 : Cond.fieldLink RX1 31 RX1 (TX1 2).2.1 (TX1 2).2.2.1 ∈ gT := tin 60 (by decide +kernel) rfl
theorem gf_X1_31 (G : Mx n D cA ad A sa p s m args meth c RX1 cc mL rt) (hI : Iv n sh D cA ad A s.heap w H locs) {i : Nat} (hi : isX1 n sh i) (hd : decode cc pc = .ok (.getfield 31, 3)) (kk : W p l e Rm s m args below meth c H locs cells slots Q (F0 m (pc + 3) ls (.int (w i 2) :: rest))) : W p l e Rm s m args below meth c H locs cells slots Q (F0 m pc ls (.ref (ad i) :: rest)) :=
  m_getI G hI inGX1 (ci := 1) (k := 2) rfl (by decide) fl_X1_31 rfl hi.lt hi.sh rfl hd kk
theorem pf_X1_31 (G : Mx n D cA ad A sa p s m args meth c RX1 cc mL rt) (hI : Iv n sh D cA ad A s.heap w H locs) {i : Nat} (hi : isX1 n sh i) {v : Int32} (hn : bz v = true) (hd : decode cc pc = .ok (.putfield 31, 3)) (kk : ∀ (H1 : Heap) (locs1 : List Loc), Iv n sh D cA ad A s.heap (mst w i 2 v) H1 locs1 → W p l e Rm s m args below meth c H1 locs1 cells slots Q (F0 m (pc + 3) ls rest)) : W p l e Rm s m args below meth c H locs cells slots Q (F0 m pc ls (.int v :: .ref (ad i) :: rest)) :=
  m_put G hI inGX1 tyX1_ok nmX1 (ci := 1) (k := 2) rfl (by decide) fl_X1_31 rfl rfl (ty := .boolean) rfl hi.lt hi.sh rfl (bz_narrow hn) (bz_fits hn) hd kk
theorem fl_X1_42 : Cond.fieldLink RX1 42 RX1 (TX1 3).2.1 (TX1 3).2.2.1 ∈ gT := tin 61 (by decide +kernel) rfl
theorem gf_X1_42 (G : Mx n D cA ad A sa p s m args meth c RX1 cc mL rt) (hI : Iv n sh D cA ad A s.heap w H locs) {i : Nat} (hi : isX1 n sh i) (hd : decode cc pc = .ok (.getfield 42, 3)) (kk : W p l e Rm s m args below meth c H locs cells slots Q (F0 m (pc + 3) ls (.int (w i 3) :: rest))) : W p l e Rm s m args below meth c H locs cells slots Q (F0 m pc ls (.ref (ad i) :: rest)) :=
  m_getI G hI inGX1 (ci := 1) (k := 3) rfl (by decide) fl_X1_42 rfl hi.lt hi.sh rfl hd kk
theorem pf_X1_42 (G : Mx n D cA ad A sa p s m args meth c RX1 cc mL rt) (hI : Iv n sh D cA ad A s.heap w H locs) {i : Nat} (hi : isX1 n sh i) {v : Int32} (hd : decode cc pc = .ok (.putfield 42, 3)) (kk : ∀ (H1 : Heap) (locs1 : List Loc), Iv n sh D cA ad A s.heap (mst w i 3 v) H1 locs1 → W p l e Rm s m args below meth c H1 locs1 cells slots Q (F0 m (pc + 3) ls rest)) : W p l e Rm s m args below meth c H locs cells slots Q (F0 m pc ls (.int v :: .ref (ad i) :: rest)) :=
  m_put G hI inGX1 tyX1_ok nmX1 (ci := 1) (k := 3) rfl (by decide) fl_X1_42 rfl rfl (ty := .int) rfl hi.lt hi.sh rfl rfl rfl hd kk
theorem fl_X1_45 : Cond.fieldLink RX1 45 RX1 (TX1 4).2.1 (TX1 4).2.2.1 ∈ gT := tin 63 (by decide +kernel) rfl
theorem gf_X1_45 (G : Mx n D cA ad A sa p s m args meth c RX1 cc mL rt) (hI : Iv n sh D cA ad A s.heap w H locs) {i : Nat} (hi : isX1 n sh i) (hd : decode cc pc = .ok (.getfield 45, 3)) (kk : W p l e Rm s m args below meth c H locs cells slots Q (F0 m (pc + 3) ls (.int (w i 4) :: rest))) : W p l e Rm s m args below meth c H locs cells slots Q (F0 m pc ls (.ref (ad i) :: rest)) :=
  m_getI G hI inGX1 (ci := 1) (k := 4) rfl (by decide) fl_X1_45 rfl hi.lt hi.sh rfl hd kk
theorem pf_X1_45 (G : Mx n D cA ad A sa p s m args meth c RX1 cc mL rt) (hI : Iv n sh D cA ad A s.heap w H locs) {i : Nat} (hi : isX1 n sh i) {v : Int32} (hn : bz v = true) (hd : decode cc pc = .ok (.putfield 45, 3)) (kk : ∀ (H1 : Heap) (locs1 : List Loc), Iv n sh D cA ad A s.heap (mst w i 4 v) H1 locs1 → W p l e Rm s m args below meth c H1 locs1 cells slots Q (F0 m (pc + 3) ls rest)) : W p l e Rm s m args below meth c H locs cells slots Q (F0 m pc ls (.int v :: .ref (ad i) :: rest)) :=
  m_put G hI inGX1 tyX1_ok nmX1 (ci := 1) (k := 4) rfl (by decide) fl_X1_45 rfl rfl (ty := .boolean) rfl hi.lt hi.sh rfl (bz_narrow hn) (bz_fits hn) hd kk
theorem fl_X2_14 : Cond.fieldLink RX2 14 RX2 (TX2 0).2.1 (TX2 0).2.2.1 ∈ gT := tin 155 (by decide +kernel) rfl
theorem gf_X2_14 (G : Mx n D cA ad A sa p s m args meth c RX2 cc mL rt) (hI : Iv n sh D cA ad A s.heap w H locs) {i : Nat} (hi : isX2 n sh i) (hd : decode cc pc = .ok (.getfield 14, 3)) (kk : W p l e Rm s m args below meth c H locs cells slots Q (F0 m (pc + 3) ls (.ref (ad (i + 1)) :: rest))) : W p l e Rm s m args below meth c H locs cells slots Q (F0 m pc ls (.ref (ad i) :: rest)) :=
  m_getR G hI inGX2 (ci := 2) (k := 0) rfl (by decide) fl_X2_14 rfl hi.lt hi.sh rfl hd kk
theorem fl_X2_23 : Cond.fieldLink RX2 23 RX2 (TX2 1).2.1 (TX2 1).2.2.1 ∈ gT := tin 157 (by decide +kernel) rfl
theorem gf_X2_23 (G : Mx n D cA ad A sa p s m args meth c RX2 cc mL rt) (hI : Iv n sh D cA ad A s.heap w H locs) {i : Nat} (hi : isX2 n sh i) (hd : decode cc pc = .ok (.getfield 23, 3)) (kk : W p l e Rm s m args below meth c H locs cells slots Q (F0 m (pc + 3) ls (.int (w i 1) :: rest))) : W p l e Rm s m args below meth c H locs cells slots Q (F0 m pc ls (.ref (ad i) :: rest)) :=
  m_getI G hI inGX2 (ci := 2) (k := 1) rfl (by decide) fl_X2_23 rfl hi.lt hi.sh rfl hd kk
theorem pf_X2_23 (G : Mx n D cA ad A sa p s m args meth c RX2 cc mL rt) (hI : Iv n sh D cA ad A s.heap w H locs) {i : Nat} (hi : isX2 n sh i) {v : Int32} (hd : decode cc pc = .ok (.putfield 23, 3)) (kk : ∀ (H1 : Heap) (locs1 : List Loc), Iv n sh D cA ad A s.heap (mst w i 1 v) H1 locs1 → W p l e Rm s m args below meth c H1 locs1 cells slots Q (F0 m (pc + 3) ls rest)) : W p l e Rm s m args below meth c H locs cells slots Q (F0 m pc ls (.int v :: .ref (ad i) :: rest)) :=
  m_put G hI inGX2 tyX2_ok nmX2 (ci := 2) (k := 1) rfl (by decide) fl_X2_23 rfl rfl (ty := .int) rfl hi.lt hi.sh rfl rfl rfl hd kk
theorem fl_X2_55 : Cond.fieldLink RX2 55 RX4 (TX4 2).2.1 (TX4 2).2.2.1 ∈ gT := tin 41 (by decide +kernel) rfl
theorem gf_X2_55 (G : Mx n D cA ad A sa p s m args meth c RX2 cc mL rt) (hI : Iv n sh D cA ad A s.heap w H locs) {i : Nat} (hi : isX4 n sh i) (hd : decode cc pc = .ok (.getfield 55, 3)) (kk : W p l e Rm s m args below meth c H locs cells slots Q (F0 m (pc + 3) ls (.int (w i 2) :: rest))) : W p l e Rm s m args below meth c H locs cells slots Q (F0 m pc ls (.ref (ad i) :: rest)) :=
  m_getI G hI inGX4 (ci := 4) (k := 2) rfl (by decide) fl_X2_55 rfl hi.lt hi.sh rfl hd kk
theorem pf_X2_55 (G : Mx n D cA ad A sa p s m args meth c RX2 cc mL rt) (hI : Iv n sh D cA ad A s.heap w H locs) {i : Nat} (hi : isX4 n sh i) {v : Int32} (hd : decode cc pc = .ok (.putfield 55, 3)) (kk : ∀ (H1 : Heap) (locs1 : List Loc), Iv n sh D cA ad A s.heap (mst w i 2 v) H1 locs1 → W p l e Rm s m args below meth c H1 locs1 cells slots Q (F0 m (pc + 3) ls rest)) : W p l e Rm s m args below meth c H locs cells slots Q (F0 m pc ls (.int v :: .ref (ad i) :: rest)) :=
  m_put G hI inGX4 tyX4_ok nmX4 (ci := 4) (k := 2) rfl (by decide) fl_X2_55 rfl rfl (ty := .int) rfl hi.lt hi.sh rfl rfl rfl hd kk
theorem fl_X3_12 : Cond.fieldLink RX3 12 RX3 (TX3 0).2.1 (TX3 0).2.2.1 ∈ gT := tin 174 (by decide +kernel) rfl
theorem gf_X3_12 (G : Mx n D cA ad A sa p s m args meth c RX3 cc mL rt) (hI : Iv n sh D cA ad A s.heap w H locs) {i : Nat} (hi : isX3 n sh i) (hd : decode cc pc = .ok (.getfield 12, 3)) (kk : W p l e Rm s m args below meth c H locs cells slots Q (F0 m (pc + 3) ls (.ref (ad 33) :: rest))) : W p l e Rm s m args below meth c H locs cells slots Q (F0 m pc ls (.ref (ad i) :: rest)) :=
  m_getR G hI inGX3 (ci := 3) (k := 0) rfl (by decide) fl_X3_12 rfl hi.lt hi.sh rfl hd kk
theorem fl_X3_18 : Cond.fieldLink RX3 18 RX3 (TX3 1).2.1 (TX3 1).2.2.1 ∈ gT := tin 175 (by decide +kernel) rfl
theorem gf_X3_18 (G : Mx n D cA ad A sa p s m args meth c RX3 cc mL rt) (hI : Iv n sh D cA ad A s.heap w H locs) {i : Nat} (hi : isX3 n sh i) (hd : decode cc pc = .ok (.getfield 18, 3)) (kk : W p l e Rm s m args below meth c H locs cells slots Q (F0 m (pc + 3) ls (.ref (ad 36) :: rest))) : W p l e Rm s m args below meth c H locs cells slots Q (F0 m pc ls (.ref (ad i) :: rest)) :=
  m_getR G hI inGX3 (ci := 3) (k := 1) rfl (by decide) fl_X3_18 rfl hi.lt hi.sh rfl hd kk
theorem fl_X3_22 : Cond.fieldLink RX3 22 RX3 (TX3 2).2.1 (TX3 2).2.2.1 ∈ gT := tin 176 (by decide +kernel) rfl
theorem gf_X3_22 (G : Mx n D cA ad A sa p s m args meth c RX3 cc mL rt) (hI : Iv n sh D cA ad A s.heap w H locs) {i : Nat} (hi : isX3 n sh i) (hd : decode cc pc = .ok (.getfield 22, 3)) (kk : W p l e Rm s m args below meth c H locs cells slots Q (F0 m (pc + 3) ls (.ref (ad 37) :: rest))) : W p l e Rm s m args below meth c H locs cells slots Q (F0 m pc ls (.ref (ad i) :: rest)) :=
  m_getR G hI inGX3 (ci := 3) (k := 2) rfl (by decide) fl_X3_22 rfl hi.lt hi.sh rfl hd kk
theorem fl_X3_25 : Cond.fieldLink RX3 25 RX3 (TX3 3).2.1 (TX3 3).2.2.1 ∈ gT := tin 177 (by decide +kernel) rfl
theorem gf_X3_25 (G : Mx n D cA ad A sa p s m args meth c RX3 cc mL rt) (hI : Iv n sh D cA ad A s.heap w H locs) {i : Nat} (hi : isX3 n sh i) (hd : decode cc pc = .ok (.getfield 25, 3)) (kk : W p l e Rm s m args below meth c H locs cells slots Q (F0 m (pc + 3) ls (.ref (ad 38) :: rest))) : W p l e Rm s m args below meth c H locs cells slots Q (F0 m pc ls (.ref (ad i) :: rest)) :=
  m_getR G hI inGX3 (ci := 3) (k := 3) rfl (by decide) fl_X3_25 rfl hi.lt hi.sh rfl hd kk
theorem fl_X3_28 : Cond.fieldLink RX3 28 RX3 (TX3 5).2.1 (TX3 5).2.2.1 ∈ gT := tin 181 (by decide +kernel) rfl
theorem gf_X3_28 (G : Mx n D cA ad A sa p s m args meth c RX3 cc mL rt) (hI : Iv n sh D cA ad A s.heap w H locs) {i : Nat} (hi : isX3 n sh i) (hd : decode cc pc = .ok (.getfield 28, 3)) (kk : W p l e Rm s m args below meth c H locs cells slots Q (F0 m (pc + 3) ls (.int (w i 5) :: rest))) : W p l e Rm s m args below meth c H locs cells slots Q (F0 m pc ls (.ref (ad i) :: rest)) :=
  m_getI G hI inGX3 (ci := 3) (k := 5) rfl (by decide) fl_X3_28 rfl hi.lt hi.sh rfl hd kk
theorem pf_X3_28 (G : Mx n D cA ad A sa p s m args meth c RX3 cc mL rt) (hI : Iv n sh D cA ad A s.heap w H locs) {i : Nat} (hi : isX3 n sh i) {v : Int32} (hd : decode cc pc = .ok (.putfield 28, 3)) (kk : ∀ (H1 : Heap) (locs1 : List Loc), Iv n sh D cA ad A s.heap (mst w i 5 v) H1 locs1 → W p l e Rm s m args below meth c H1 locs1 cells slots Q (F0 m (pc + 3) ls rest)) : W p l e Rm s m args below meth c H locs cells slots Q (F0 m pc ls (.int v :: .ref (ad i) :: rest)) :=
  m_put G hI inGX3 tyX3_ok nmX3 (ci := 3) (k := 5) rfl (by decide) fl_X3_28 rfl rfl (ty := .int) rfl hi.lt hi.sh rfl rfl rfl hd kk
theorem fl_X3_32 : Cond.fieldLink RX3 32 RX3 (TX3 4).2.1 (TX3 4).2.2.1 ∈ gT := tin 179 (by decide +kernel) rfl
theorem gf_X3_32 (G : Mx n D cA ad A sa p s m args meth c RX3 cc mL rt) (hI : Iv n sh D cA ad A s.heap w H locs) {i : Nat} (hi : isX3 n sh i) (hd : decode cc pc = .ok (.getfield 32, 3)) (kk : W p l e Rm s m args below meth c H locs cells slots Q (F0 m (pc + 3) ls (.int (w i 4) :: rest))) : W p l e Rm s m args below meth c H locs cells slots Q (F0 m pc ls (.ref (ad i) :: rest)) :=
  m_getI G hI inGX3 (ci := 3) (k := 4) rfl (by decide) fl_X3_32 rfl hi.lt hi.sh rfl hd kk
theorem pf_X3_32 (G : Mx n D cA ad A sa p s m args meth c RX3 cc mL rt) (hI : Iv n sh D cA ad A s.heap w H locs) {i : Nat} (hi : isX3 n sh i) {v : Int32} (hd : decode cc pc = .ok (.putfield 32, 3)) (kk : ∀ (H1 : Heap) (locs1 : List Loc), Iv n sh D cA ad A s.heap (mst w i 4 v) H1 locs1 → W p l e Rm s m args below meth c H1 locs1 cells slots Q (F0 m (pc + 3) ls rest)) : W p l e Rm s m args below meth c H locs cells slots Q (F0 m pc ls (.int v :: .ref (ad i) :: rest)) :=
  m_put G hI inGX3 tyX3_ok nmX3 (ci := 3) (k := 4) rfl (by decide) fl_X3_32 rfl rfl (ty := .int) rfl hi.lt hi.sh rfl rfl rfl hd kk
theorem fl_X3_57 : Cond.fieldLink RX3 57 RX1 (TX1 7).2.1 (TX1 7).2.2.1 ∈ gT := tin 72 (by decide +kernel) rfl
theorem gf_X3_57 (G : Mx n D cA ad A sa p s m args meth c RX3 cc mL rt) (hI : Iv n sh D cA ad A s.heap w H locs) {i : Nat} (hi : isX1 n sh i) (hd : decode cc pc = .ok (.getfield 57, 3)) (kk : W p l e Rm s m args below meth c H locs cells slots Q (F0 m (pc + 3) ls (.ref (ad (i + 3)) :: rest))) : W p l e Rm s m args below meth c H locs cells slots Q (F0 m pc ls (.ref (ad i) :: rest)) :=
  m_getR G hI inGX1 (ci := 1) (k := 7) rfl (by decide) fl_X3_57 rfl hi.lt hi.sh rfl hd kk
theorem fl_X3_62 : Cond.fieldLink RX3 62 RX1 (TX1 0).2.1 (TX1 0).2.2.1 ∈ gT := tin 57 (by decide +kernel) rfl
theorem gf_X3_62 (G : Mx n D cA ad A sa p s m args meth c RX3 cc mL rt) (hI : Iv n sh D cA ad A s.heap w H locs) {i : Nat} (hi : isX1 n sh i) (hd : decode cc pc = .ok (.getfield 62, 3)) (kk : W p l e Rm s m args below meth c H locs cells slots Q (F0 m (pc + 3) ls (.int (w i 0) :: rest))) : W p l e Rm s m args below meth c H locs cells slots Q (F0 m pc ls (.ref (ad i) :: rest)) :=
  m_getI G hI inGX1 (ci := 1) (k := 0) rfl (by decide) fl_X3_62 rfl hi.lt hi.sh rfl hd kk
theorem pf_X3_62 (G : Mx n D cA ad A sa p s m args meth c RX3 cc mL rt) (hI : Iv n sh D cA ad A s.heap w H locs) {i : Nat} (hi : isX1 n sh i) {v : Int32} (hd : decode cc pc = .ok (.putfield 62, 3)) (kk : ∀ (H1 : Heap) (locs1 : List Loc), Iv n sh D cA ad A s.heap (mst w i 0 v) H1 locs1 → W p l e Rm s m args below meth c H1 locs1 cells slots Q (F0 m (pc + 3) ls rest)) : W p l e Rm s m args below meth c H locs cells slots Q (F0 m pc ls (.int v :: .ref (ad i) :: rest)) :=
  m_put G hI inGX1 tyX1_ok nmX1 (ci := 1) (k := 0) rfl (by decide) fl_X3_62 rfl rfl (ty := .int) rfl hi.lt hi.sh rfl rfl rfl hd kk
theorem fl_X3_65 : Cond.fieldLink RX3 65 RX1 (TX1 6).2.1 (TX1 6).2.2.1 ∈ gT := tin 69 (by decide +kernel) rfl
theorem gf_X3_65 (G : Mx n D cA ad A sa p s m args meth c RX3 cc mL rt) (hI : Iv n sh D cA ad A s.heap w H locs) {i : Nat} (hi : isX1 n sh i) (hd : decode cc pc = .ok (.getfield 65, 3)) (kk : W p l e Rm s m args below meth c H locs cells slots Q (F0 m (pc + 3) ls (.ref (ad (i + 2)) :: rest))) : W p l e Rm s m args below meth c H locs cells slots Q (F0 m pc ls (.ref (ad i) :: rest)) :=
  m_getR G hI inGX1 (ci := 1) (k := 6) rfl (by decide) fl_X3_65 rfl hi.lt hi.sh rfl hd kk
theorem fl_X4_15 : Cond.fieldLink RX4 15 RX4 (TX4 0).2.1 (TX4 0).2.2.1 ∈ gT := tin 35 (by decide +kernel) rfl
theorem gf_X4_15 (G : Mx n D cA ad A sa p s m args meth c RX4 cc mL rt) (hI : Iv n sh D cA ad A s.heap w H locs) {i : Nat} (hi : isX4 n sh i) (hd : decode cc pc = .ok (.getfield 15, 3)) (kk : W p l e Rm s m args below meth c H locs cells slots Q (F0 m (pc + 3) ls (.int (w i 0) :: rest))) : W p l e Rm s m args below meth c H locs cells slots Q (F0 m pc ls (.ref (ad i) :: rest)) :=
  m_getI G hI inGX4 (ci := 4) (k := 0) rfl (by decide) fl_X4_15 rfl hi.lt hi.sh rfl hd kk
theorem fl_X4_21 : Cond.fieldLink RX4 21 RX4 (TX4 1).2.1 (TX4 1).2.2.1 ∈ gT := tin 36 (by decide +kernel) rfl
theorem gf_X4_21 (G : Mx n D cA ad A sa p s m args meth c RX4 cc mL rt) (hI : Iv n sh D cA ad A s.heap w H locs) {i : Nat} (hi : isX4 n sh i) (hd : decode cc pc = .ok (.getfield 21, 3)) (kk : W p l e Rm s m args below meth c H locs cells slots Q (F0 m (pc + 3) ls (.ref (ad (i + 1)) :: rest))) : W p l e Rm s m args below meth c H locs cells slots Q (F0 m pc ls (.ref (ad i) :: rest)) :=
  m_getR G hI inGX4 (ci := 4) (k := 1) rfl (by decide) fl_X4_21 rfl hi.lt hi.sh rfl hd kk
theorem fl_X4_25 : Cond.fieldLink RX4 25 RX4 (TX4 2).2.1 (TX4 2).2.2.1 ∈ gT := tin 37 (by decide +kernel) rfl
theorem gf_X4_25 (G : Mx n D cA ad A sa p s m args meth c RX4 cc mL rt) (hI : Iv n sh D cA ad A s.heap w H locs) {i : Nat} (hi : isX4 n sh i) (hd : decode cc pc = .ok (.getfield 25, 3)) (kk : W p l e Rm s m args below meth c H locs cells slots Q (F0 m (pc + 3) ls (.int (w i 2) :: rest))) : W p l e Rm s m args below meth c H locs cells slots Q (F0 m pc ls (.ref (ad i) :: rest)) :=
  m_getI G hI inGX4 (ci := 4) (k := 2) rfl (by decide) fl_X4_25 rfl hi.lt hi.sh rfl hd kk
theorem pf_X4_25 (G : Mx n D cA ad A sa p s m args meth c RX4 cc mL rt) (hI : Iv n sh D cA ad A s.heap w H locs) {i : Nat} (hi : isX4 n sh i) {v : Int32} (hd : decode cc pc = .ok (.putfield 25, 3)) (kk : ∀ (H1 : Heap) (locs1 : List Loc), Iv n sh D cA ad A s.heap (mst w i 2 v) H1 locs1 → W p l e Rm s m args below meth c H1 locs1 cells slots Q (F0 m (pc + 3) ls rest)) : W p l e Rm s m args below meth c H locs cells slots Q (F0 m pc ls (.int v :: .ref (ad i) :: rest)) :=
  m_put G hI inGX4 tyX4_ok nmX4 (ci := 4) (k := 2) rfl (by decide) fl_X4_25 rfl rfl (ty := .int) rfl hi.lt hi.sh rfl rfl rfl hd kk
theorem fl_X5_9 : Cond.fieldLink RX5 9 RX5 (TX5 0).2.1 (TX5 0).2.2.1 ∈ gT := tin 204 (by decide +kernel) rfl
theorem gf_X5_9 (G : Mx n D cA ad A sa p s m args meth c RX5 cc mL rt) (hI : Iv n sh D cA ad A s.heap w H locs) {i : Nat} (hi : isX5 n sh i) (hd : decode cc pc = .ok (.getfield 9, 3)) (kk : W p l e Rm s m args below meth c H locs cells slots Q (F0 m (pc + 3) ls (.ref (ad 42) :: rest))) : W p l e Rm s m args below meth c H locs cells slots Q (F0 m pc ls (.ref (ad i) :: rest)) :=
  m_getR G hI inGX5 (ci := 5) (k := 0) rfl (by decide) fl_X5_9 rfl hi.lt hi.sh rfl hd kk
theorem fl_X5_20 : Cond.fieldLink RX5 20 RX5 (TX5 1).2.1 (TX5 1).2.2.1 ∈ gT := tin 205 (by decide +kernel) rfl
theorem gf_X5_20 (G : Mx n D cA ad A sa p s m args meth c RX5 cc mL rt) (hI : Iv n sh D cA ad A s.heap w H locs) {i : Nat} (hi : isX5 n sh i) (hd : decode cc pc = .ok (.getfield 20, 3)) (kk : W p l e Rm s m args below meth c H locs cells slots Q (F0 m (pc + 3) ls (.ref (ad 43) :: rest))) : W p l e Rm s m args below meth c H locs cells slots Q (F0 m pc ls (.ref (ad i) :: rest)) :=
  m_getR G hI inGX5 (ci := 5) (k := 1) rfl (by decide) fl_X5_20 rfl hi.lt hi.sh rfl hd kk
theorem fl_X5_24 : Cond.fieldLink RX5 24 RX5 (TX5 2).2.1 (TX5 2).2.2.1 ∈ gT := tin 207 (by decide +kernel) rfl
theorem gf_X5_24 (G : Mx n D cA ad A sa p s m args meth c RX5 cc mL rt) (hI : Iv n sh D cA ad A s.heap w H locs) {i : Nat} (hi : isX5 n sh i) (hd : decode cc pc = .ok (.getfield 24, 3)) (kk : W p l e Rm s m args below meth c H locs cells slots Q (F0 m (pc + 3) ls (.int (w i 2) :: rest))) : W p l e Rm s m args below meth c H locs cells slots Q (F0 m pc ls (.ref (ad i) :: rest)) :=
  m_getI G hI inGX5 (ci := 5) (k := 2) rfl (by decide) fl_X5_24 rfl hi.lt hi.sh rfl hd kk
theorem pf_X5_24 (G : Mx n D cA ad A sa p s m args meth c RX5 cc mL rt) (hI : Iv n sh D cA ad A s.heap w H locs) {i : Nat} (hi : isX5 n sh i) {v : Int32} (hd : decode cc pc = .ok (.putfield 24, 3)) (kk : ∀ (H1 : Heap) (locs1 : List Loc), Iv n sh D cA ad A s.heap (mst w i 2 v) H1 locs1 → W p l e Rm s m args below meth c H1 locs1 cells slots Q (F0 m (pc + 3) ls rest)) : W p l e Rm s m args below meth c H locs cells slots Q (F0 m pc ls (.int v :: .ref (ad i) :: rest)) :=
  m_put G hI inGX5 tyX5_ok nmX5 (ci := 5) (k := 2) rfl (by decide) fl_X5_24 rfl rfl (ty := .int) rfl hi.lt hi.sh rfl rfl rfl hd kk
theorem fl_X5_31 : Cond.fieldLink RX5 31 RX5 (TX5 3).2.1 (TX5 3).2.2.1 ∈ gT := tin 209 (by decide +kernel) rfl
theorem gf_X5_31 (G : Mx n D cA ad A sa p s m args meth c RX5 cc mL rt) (hI : Iv n sh D cA ad A s.heap w H locs) {i : Nat} (hi : isX5 n sh i) (hd : decode cc pc = .ok (.getfield 31, 3)) (kk : W p l e Rm s m args below meth c H locs cells slots Q (F0 m (pc + 3) ls (.int (w i 3) :: rest))) : W p l e Rm s m args below meth c H locs cells slots Q (F0 m pc ls (.ref (ad i) :: rest)) :=
  m_getI G hI inGX5 (ci := 5) (k := 3) rfl (by decide) fl_X5_31 rfl hi.lt hi.sh rfl hd kk
theorem pf_X5_31 (G : Mx n D cA ad A sa p s m args meth c RX5 cc mL rt) (hI : Iv n sh D cA ad A s.heap w H locs) {i : Nat} (hi : isX5 n sh i) {v : Int32} (hd : decode cc pc = .ok (.putfield 31, 3)) (kk : ∀ (H1 : Heap) (locs1 : List Loc), Iv n sh D cA ad A s.heap (mst w i 3 v) H1 locs1 → W p l e Rm s m args below meth c H1 locs1 cells slots Q (F0 m (pc + 3) ls rest)) : W p l e Rm s m args below meth c H locs cells slots Q (F0 m pc ls (.int v :: .ref (ad i) :: rest)) :=
  m_put G hI inGX5 tyX5_ok nmX5 (ci := 5) (k := 3) rfl (by decide) fl_X5_31 rfl rfl (ty := .int) rfl hi.lt hi.sh rfl rfl rfl hd kk
theorem fl_X5_34 : Cond.fieldLink RX5 34 RX5 (TX5 4).2.1 (TX5 4).2.2.1 ∈ gT := tin 210 (by decide +kernel) rfl
theorem gf_X5_34 (G : Mx n D cA ad A sa p s m args meth c RX5 cc mL rt) (hI : Iv n sh D cA ad A s.heap w H locs) {i : Nat} (hi : isX5 n sh i) (hd : decode cc pc = .ok (.getfield 34, 3)) (kk : W p l e Rm s m args below meth c H locs cells slots Q (F0 m (pc + 3) ls (.int (w i 4) :: rest))) : W p l e Rm s m args below meth c H locs cells slots Q (F0 m pc ls (.ref (ad i) :: rest)) :=
  m_getI G hI inGX5 (ci := 5) (k := 4) rfl (by decide) fl_X5_34 rfl hi.lt hi.sh rfl hd kk
theorem pf_X5_34 (G : Mx n D cA ad A sa p s m args meth c RX5 cc mL rt) (hI : Iv n sh D cA ad A s.heap w H locs) {i : Nat} (hi : isX5 n sh i) {v : Int32} (hd : decode cc pc = .ok (.putfield 34, 3)) (kk : ∀ (H1 : Heap) (locs1 : List Loc), Iv n sh D cA ad A s.heap (mst w i 4 v) H1 locs1 → W p l e Rm s m args below meth c H1 locs1 cells slots Q (F0 m (pc + 3) ls rest)) : W p l e Rm s m args below meth c H locs cells slots Q (F0 m pc ls (.int v :: .ref (ad i) :: rest)) :=
  m_put G hI inGX5 tyX5_ok nmX5 (ci := 5) (k := 4) rfl (by decide) fl_X5_34 rfl rfl (ty := .int) rfl hi.lt hi.sh rfl rfl rfl hd kk
theorem fl_X5_52 : Cond.fieldLink RX5 52 RX4 (TX4 2).2.1 (TX4 2).2.2.1 ∈ gT := tin 38 (by decide +kernel) rfl
theorem gf_X5_52 (G : Mx n D cA ad A sa p s m args meth c RX5 cc mL rt) (hI : Iv n sh D cA ad A s.heap w H locs) {i : Nat} (hi : isX4 n sh i) (hd : decode cc pc = .ok (.getfield 52, 3)) (kk : W p l e Rm s m args below meth c H locs cells slots Q (F0 m (pc + 3) ls (.int (w i 2) :: rest))) : W p l e Rm s m args below meth c H locs cells slots Q (F0 m pc ls (.ref (ad i) :: rest)) :=
  m_getI G hI inGX4 (ci := 4) (k := 2) rfl (by decide) fl_X5_52 rfl hi.lt hi.sh rfl hd kk
theorem pf_X5_52 (G : Mx n D cA ad A sa p s m args meth c RX5 cc mL rt) (hI : Iv n sh D cA ad A s.heap w H locs) {i : Nat} (hi : isX4 n sh i) {v : Int32} (hd : decode cc pc = .ok (.putfield 52, 3)) (kk : ∀ (H1 : Heap) (locs1 : List Loc), Iv n sh D cA ad A s.heap (mst w i 2 v) H1 locs1 → W p l e Rm s m args below meth c H1 locs1 cells slots Q (F0 m (pc + 3) ls rest)) : W p l e Rm s m args below meth c H locs cells slots Q (F0 m pc ls (.int v :: .ref (ad i) :: rest)) :=
  m_put G hI inGX4 tyX4_ok nmX4 (ci := 4) (k := 2) rfl (by decide) fl_X5_52 rfl rfl (ty := .int) rfl hi.lt hi.sh rfl rfl rfl hd kk
theorem fl_X7_1 : Cond.fieldLink RX7 1 RX7 (TX7 0).2.1 (TX7 0).2.2.1 ∈ gT := tin 706 (by decide +kernel) rfl
theorem gf_X7_1 (G : Mx n D cA ad A sa p s m args meth c RX7 cc mL rt) (hI : Iv n sh D cA ad A s.heap w H locs) {i : Nat} (hi : isX7 n sh i) (hd : decode cc pc = .ok (.getfield 1, 3)) (kk : W p l e Rm s m args below meth c H locs cells slots Q (F0 m (pc + 3) ls (.ref (ad 1) :: rest))) : W p l e Rm s m args below meth c H locs cells slots Q (F0 m pc ls (.ref (ad i) :: rest)) :=
  m_getR G hI inGX7 (ci := 7) (k := 0) rfl (by decide) fl_X7_1 rfl hi.lt hi.sh rfl hd kk
theorem fl_X7_13 : Cond.fieldLink RX7 13 RX7 (TX7 1).2.1 (TX7 1).2.2.1 ∈ gT := tin 707 (by decide +kernel) rfl
theorem gf_X7_13 (G : Mx n D cA ad A sa p s m args meth c RX7 cc mL rt) (hI : Iv n sh D cA ad A s.heap w H locs) {i : Nat} (hi : isX7 n sh i) (hd : decode cc pc = .ok (.getfield 13, 3)) (kk : W p l e Rm s m args below meth c H locs cells slots Q (F0 m (pc + 3) ls (.ref (ad 2) :: rest))) : W p l e Rm s m args below meth c H locs cells slots Q (F0 m pc ls (.ref (ad i) :: rest)) :=
  m_getR G hI inGX7 (ci := 7) (k := 1) rfl (by decide) fl_X7_13 rfl hi.lt hi.sh rfl hd kk
theorem fl_X7_16 : Cond.fieldLink RX7 16 RX7 (TX7 2).2.1 (TX7 2).2.2.1 ∈ gT := tin 708 (by decide +kernel) rfl
theorem gf_X7_16 (G : Mx n D cA ad A sa p s m args meth c RX7 cc mL rt) (hI : Iv n sh D cA ad A s.heap w H locs) {i : Nat} (hi : isX7 n sh i) (hd : decode cc pc = .ok (.getfield 16, 3)) (kk : W p l e Rm s m args below meth c H locs cells slots Q (F0 m (pc + 3) ls (.ref (ad 3) :: rest))) : W p l e Rm s m args below meth c H locs cells slots Q (F0 m pc ls (.ref (ad i) :: rest)) :=
  m_getR G hI inGX7 (ci := 7) (k := 2) rfl (by decide) fl_X7_16 rfl hi.lt hi.sh rfl hd kk
theorem fl_X7_19 : Cond.fieldLink RX7 19 RX7 (TX7 3).2.1 (TX7 3).2.2.1 ∈ gT := tin 709 (by decide +kernel) rfl
theorem gf_X7_19 (G : Mx n D cA ad A sa p s m args meth c RX7 cc mL rt) (hI : Iv n sh D cA ad A s.heap w H locs) {i : Nat} (hi : isX7 n sh i) (hd : decode cc pc = .ok (.getfield 19, 3)) (kk : W p l e Rm s m args below meth c H locs cells slots Q (F0 m (pc + 3) ls (.ref (ad 4) :: rest))) : W p l e Rm s m args below meth c H locs cells slots Q (F0 m pc ls (.ref (ad i) :: rest)) :=
  m_getR G hI inGX7 (ci := 7) (k := 3) rfl (by decide) fl_X7_19 rfl hi.lt hi.sh rfl hd kk
theorem fl_X7_22 : Cond.fieldLink RX7 22 RX7 (TX7 4).2.1 (TX7 4).2.2.1 ∈ gT := tin 710 (by decide +kernel) rfl
theorem gf_X7_22 (G : Mx n D cA ad A sa p s m args meth c RX7 cc mL rt) (hI : Iv n sh D cA ad A s.heap w H locs) {i : Nat} (hi : isX7 n sh i) (hd : decode cc pc = .ok (.getfield 22, 3)) (kk : W p l e Rm s m args below meth c H locs cells slots Q (F0 m (pc + 3) ls (.ref (ad 5) :: rest))) : W p l e Rm s m args below meth c H locs cells slots Q (F0 m pc ls (.ref (ad i) :: rest)) :=
  m_getR G hI inGX7 (ci := 7) (k := 4) rfl (by decide) fl_X7_22 rfl hi.lt hi.sh rfl hd kk
theorem fl_X7_25 : Cond.fieldLink RX7 25 RX7 (TX7 5).2.1 (TX7 5).2.2.1 ∈ gT := tin 711 (by decide +kernel) rfl
theorem gf_X7_25 (G : Mx n D cA ad A sa p s m args meth c RX7 cc mL rt) (hI : Iv n sh D cA ad A s.heap w H locs) {i : Nat} (hi : isX7 n sh i) (hd : decode cc pc = .ok (.getfield 25, 3)) (kk : W p l e Rm s m args below meth c H locs cells slots Q (F0 m (pc + 3) ls (.ref (ad 6) :: rest))) : W p l e Rm s m args below meth c H locs cells slots Q (F0 m pc ls (.ref (ad i) :: rest)) :=
  m_getR G hI inGX7 (ci := 7) (k := 5) rfl (by decide) fl_X7_25 rfl hi.lt hi.sh rfl hd kk
theorem fl_X7_28 : Cond.fieldLink RX7 28 RX7 (TX7 8).2.1 (TX7 8).2.2.1 ∈ gT := tin 714 (by decide +kernel) rfl
theorem gf_X7_28 (G : Mx n D cA ad A sa p s m args meth c RX7 cc mL rt) (hI : Iv n sh D cA ad A s.heap w H locs) {i : Nat} (hi : isX7 n sh i) (hd : decode cc pc = .ok (.getfield 28, 3)) (kk : W p l e Rm s m args below meth c H locs cells slots Q (F0 m (pc + 3) ls (.ref (ad 7) :: rest))) : W p l e Rm s m args below meth c H locs cells slots Q (F0 m pc ls (.ref (ad i) :: rest)) :=
  m_getR G hI inGX7 (ci := 7) (k := 8) rfl (by decide) fl_X7_28 rfl hi.lt hi.sh rfl hd kk
theorem fl_X7_31 : Cond.fieldLink RX7 31 RX7 (TX7 9).2.1 (TX7 9).2.2.1 ∈ gT := tin 715 (by decide +kernel) rfl
theorem gf_X7_31 (G : Mx n D cA ad A sa p s m args meth c RX7 cc mL rt) (hI : Iv n sh D cA ad A s.heap w H locs) {i : Nat} (hi : isX7 n sh i) (hd : decode cc pc = .ok (.getfield 31, 3)) (kk : W p l e Rm s m args below meth c H locs cells slots Q (F0 m (pc + 3) ls (.ref (ad 8) :: rest))) : W p l e Rm s m args below meth c H locs cells slots Q (F0 m pc ls (.ref (ad i) :: rest)) :=
  m_getR G hI inGX7 (ci := 7) (k := 9) rfl (by decide) fl_X7_31 rfl hi.lt hi.sh rfl hd kk
theorem fl_X7_34 : Cond.fieldLink RX7 34 RX7 (TX7 10).2.1 (TX7 10).2.2.1 ∈ gT := tin 716 (by decide +kernel) rfl
theorem gf_X7_34 (G : Mx n D cA ad A sa p s m args meth c RX7 cc mL rt) (hI : Iv n sh D cA ad A s.heap w H locs) {i : Nat} (hi : isX7 n sh i) (hd : decode cc pc = .ok (.getfield 34, 3)) (kk : W p l e Rm s m args below meth c H locs cells slots Q (F0 m (pc + 3) ls (.ref (ad 9) :: rest))) : W p l e Rm s m args below meth c H locs cells slots Q (F0 m pc ls (.ref (ad i) :: rest)) :=
  m_getR G hI inGX7 (ci := 7) (k := 10) rfl (by decide) fl_X7_34 rfl hi.lt hi.sh rfl hd kk
theorem fl_X7_37 : Cond.fieldLink RX7 37 RX7 (TX7 12).2.1 (TX7 12).2.2.1 ∈ gT := tin 718 (by decide +kernel) rfl
theorem gf_X7_37 (G : Mx n D cA ad A sa p s m args meth c RX7 cc mL rt) (hI : Iv n sh D cA ad A s.heap w H locs) {i : Nat} (hi : isX7 n sh i) (hd : decode cc pc = .ok (.getfield 37, 3)) (kk : W p l e Rm s m args below meth c H locs cells slots Q (F0 m (pc + 3) ls (.ref (ad 10) :: rest))) : W p l e Rm s m args below meth c H locs cells slots Q (F0 m pc ls (.ref (ad i) :: rest)) :=
  m_getR G hI inGX7 (ci := 7) (k := 12) rfl (by decide) fl_X7_37 rfl hi.lt hi.sh rfl hd kk
theorem fl_X7_40 : Cond.fieldLink RX7 40 RX7 (TX7 15).2.1 (TX7 15).2.2.1 ∈ gT := tin 721 (by decide +kernel) rfl
theorem gf_X7_40 (G : Mx n D cA ad A sa p s m args meth c RX7 cc mL rt) (hI : Iv n sh D cA ad A s.heap w H locs) {i : Nat} (hi : isX7 n sh i) (hd : decode cc pc = .ok (.getfield 40, 3)) (kk : W p l e Rm s m args below meth c H locs cells slots Q (F0 m (pc + 3) ls (.ref (ad 11) :: rest))) : W p l e Rm s m args below meth c H locs cells slots Q (F0 m pc ls (.ref (ad i) :: rest)) :=
  m_getR G hI inGX7 (ci := 7) (k := 15) rfl (by decide) fl_X7_40 rfl hi.lt hi.sh rfl hd kk
theorem fl_X7_43 : Cond.fieldLink RX7 43 RX7 (TX7 16).2.1 (TX7 16).2.2.1 ∈ gT := tin 722 (by decide +kernel) rfl
theorem gf_X7_43 (G : Mx n D cA ad A sa p s m args meth c RX7 cc mL rt) (hI : Iv n sh D cA ad A s.heap w H locs) {i : Nat} (hi : isX7 n sh i) (hd : decode cc pc = .ok (.getfield 43, 3)) (kk : W p l e Rm s m args below meth c H locs cells slots Q (F0 m (pc + 3) ls (.ref (ad 12) :: rest))) : W p l e Rm s m args below meth c H locs cells slots Q (F0 m pc ls (.ref (ad i) :: rest)) :=
  m_getR G hI inGX7 (ci := 7) (k := 16) rfl (by decide) fl_X7_43 rfl hi.lt hi.sh rfl hd kk
theorem fl_X7_46 : Cond.fieldLink RX7 46 RX7 (TX7 17).2.1 (TX7 17).2.2.1 ∈ gT := tin 723 (by decide +kernel) rfl
theorem gf_X7_46 (G : Mx n D cA ad A sa p s m args meth c RX7 cc mL rt) (hI : Iv n sh D cA ad A s.heap w H locs) {i : Nat} (hi : isX7 n sh i) (hd : decode cc pc = .ok (.getfield 46, 3)) (kk : W p l e Rm s m args below meth c H locs cells slots Q (F0 m (pc + 3) ls (.ref (ad 13) :: rest))) : W p l e Rm s m args below meth c H locs cells slots Q (F0 m pc ls (.ref (ad i) :: rest)) :=
  m_getR G hI inGX7 (ci := 7) (k := 17) rfl (by decide) fl_X7_46 rfl hi.lt hi.sh rfl hd kk
theorem fl_X7_49 : Cond.fieldLink RX7 49 RX7 (TX7 18).2.1 (TX7 18).2.2.1 ∈ gT := tin 724 (by decide +kernel) rfl
theorem gf_X7_49 (G : Mx n D cA ad A sa p s m args meth c RX7 cc mL rt) (hI : Iv n sh D cA ad A s.heap w H locs) {i : Nat} (hi : isX7 n sh i) (hd : decode cc pc = .ok (.getfield 49, 3)) (kk : W p l e Rm s m args below meth c H locs cells slots Q (F0 m (pc + 3) ls (.ref (ad 14) :: rest))) : W p l e Rm s m args below meth c H locs cells slots Q (F0 m pc ls (.ref (ad i) :: rest)) :=
  m_getR G hI inGX7 (ci := 7) (k := 18) rfl (by decide) fl_X7_49 rfl hi.lt hi.sh rfl hd kk
theorem fl_X7_52 : Cond.fieldLink RX7 52 RX7 (TX7 20).2.1 (TX7 20).2.2.1 ∈ gT := tin 726 (by decide +kernel) rfl
theorem gf_X7_52 (G : Mx n D cA ad A sa p s m args meth c RX7 cc mL rt) (hI : Iv n sh D cA ad A s.heap w H locs) {i : Nat} (hi : isX7 n sh i) (hd : decode cc pc = .ok (.getfield 52, 3)) (kk : W p l e Rm s m args below meth c H locs cells slots Q (F0 m (pc + 3) ls (.ref (ad 15) :: rest))) : W p l e Rm s m args below meth c H locs cells slots Q (F0 m pc ls (.ref (ad i) :: rest)) :=
  m_getR G hI inGX7 (ci := 7) (k := 20) rfl (by decide) fl_X7_52 rfl hi.lt hi.sh rfl hd kk
theorem fl_X7_55 : Cond.fieldLink RX7 55 RX7 (TX7 21).2.1 (TX7 21).2.2.1 ∈ gT := tin 727 (by decide +kernel) rfl
theorem gf_X7_55 (G : Mx n D cA ad A sa p s m args meth c RX7 cc mL rt) (hI : Iv n sh D cA ad A s.heap w H locs) {i : Nat} (hi : isX7 n sh i) (hd : decode cc pc = .ok (.getfield 55, 3)) (kk : W p l e Rm s m args below meth c H locs cells slots Q (F0 m (pc + 3) ls (.ref (ad 16) :: rest))) : W p l e Rm s m args below meth c H locs cells slots Q (F0 m pc ls (.ref (ad i) :: rest)) :=
  m_getR G hI inGX7 (ci := 7) (k := 21) rfl (by decide) fl_X7_55 rfl hi.lt hi.sh rfl hd kk
theorem fl_X7_58 : Cond.fieldLink RX7 58 RX7 (TX7 27).2.1 (TX7 27).2.2.1 ∈ gT := tin 733 (by decide +kernel) rfl
theorem gf_X7_58 (G : Mx n D cA ad A sa p s m args meth c RX7 cc mL rt) (hI : Iv n sh D cA ad A s.heap w H locs) {i : Nat} (hi : isX7 n sh i) (hd : decode cc pc = .ok (.getfield 58, 3)) (kk : W p l e Rm s m args below meth c H locs cells slots Q (F0 m (pc + 3) ls (.ref (ad 17) :: rest))) : W p l e Rm s m args below meth c H locs cells slots Q (F0 m pc ls (.ref (ad i) :: rest)) :=
  m_getR G hI inGX7 (ci := 7) (k := 27) rfl (by decide) fl_X7_58 rfl hi.lt hi.sh rfl hd kk
theorem fl_X7_61 : Cond.fieldLink RX7 61 RX7 (TX7 28).2.1 (TX7 28).2.2.1 ∈ gT := tin 734 (by decide +kernel) rfl
theorem gf_X7_61 (G : Mx n D cA ad A sa p s m args meth c RX7 cc mL rt) (hI : Iv n sh D cA ad A s.heap w H locs) {i : Nat} (hi : isX7 n sh i) (hd : decode cc pc = .ok (.getfield 61, 3)) (kk : W p l e Rm s m args below meth c H locs cells slots Q (F0 m (pc + 3) ls (.ref (ad 18) :: rest))) : W p l e Rm s m args below meth c H locs cells slots Q (F0 m pc ls (.ref (ad i) :: rest)) :=
  m_getR G hI inGX7 (ci := 7) (k := 28) rfl (by decide) fl_X7_61 rfl hi.lt hi.sh rfl hd kk
theorem fl_X7_64 : Cond.fieldLink RX7 64 RX7 (TX7 29).2.1 (TX7 29).2.2.1 ∈ gT := tin 735 (by decide +kernel) rfl
theorem gf_X7_64 (G : Mx n D cA ad A sa p s m args meth c RX7 cc mL rt) (hI : Iv n sh D cA ad A s.heap w H locs) {i : Nat} (hi : isX7 n sh i) (hd : decode cc pc = .ok (.getfield 64, 3)) (kk : W p l e Rm s m args below meth c H locs cells slots Q (F0 m (pc + 3) ls (.ref (ad 19) :: rest))) : W p l e Rm s m args below meth c H locs cells slots Q (F0 m pc ls (.ref (ad i) :: rest)) :=
  m_getR G hI inGX7 (ci := 7) (k := 29) rfl (by decide) fl_X7_64 rfl hi.lt hi.sh rfl hd kk
theorem fl_X7_67 : Cond.fieldLink RX7 67 RX7 (TX7 30).2.1 (TX7 30).2.2.1 ∈ gT := tin 736 (by decide +kernel) rfl
theorem gf_X7_67 (G : Mx n D cA ad A sa p s m args meth c RX7 cc mL rt) (hI : Iv n sh D cA ad A s.heap w H locs) {i : Nat} (hi : isX7 n sh i) (hd : decode cc pc = .ok (.getfield 67, 3)) (kk : W p l e Rm s m args below meth c H locs cells slots Q (F0 m (pc + 3) ls (.ref (ad 20) :: rest))) : W p l e Rm s m args below meth c H locs cells slots Q (F0 m pc ls (.ref (ad i) :: rest)) :=
  m_getR G hI inGX7 (ci := 7) (k := 30) rfl (by decide) fl_X7_67 rfl hi.lt hi.sh rfl hd kk
theorem fl_X7_70 : Cond.fieldLink RX7 70 RX7 (TX7 31).2.1 (TX7 31).2.2.1 ∈ gT := tin 737 (by decide +kernel) rfl
theorem gf_X7_70 (G : Mx n D cA ad A sa p s m args meth c RX7 cc mL rt) (hI : Iv n sh D cA ad A s.heap w H locs) {i : Nat} (hi : isX7 n sh i) (hd : decode cc pc = .ok (.getfield 70, 3)) (kk : W p l e Rm s m args below meth c H locs cells slots Q (F0 m (pc + 3) ls (.ref (ad 21) :: rest))) : W p l e Rm s m args below meth c H locs cells slots Q (F0 m pc ls (.ref (ad i) :: rest)) :=
  m_getR G hI inGX7 (ci := 7) (k := 31) rfl (by decide) fl_X7_70 rfl hi.lt hi.sh rfl hd kk
theorem fl_X7_76 : Cond.fieldLink RX7 76 RX7 (TX7 6).2.1 (TX7 6).2.2.1 ∈ gT := tin 712 (by decide +kernel) rfl
theorem gf_X7_76 (G : Mx n D cA ad A sa p s m args meth c RX7 cc mL rt) (hI : Iv n sh D cA ad A s.heap w H locs) {i : Nat} (hi : isX7 n sh i) (hd : decode cc pc = .ok (.getfield 76, 3)) (kk : W p l e Rm s m args below meth c H locs cells slots Q (F0 m (pc + 3) ls (.int (w i 6) :: rest))) : W p l e Rm s m args below meth c H locs cells slots Q (F0 m pc ls (.ref (ad i) :: rest)) :=
  m_getI G hI inGX7 (ci := 7) (k := 6) rfl (by decide) fl_X7_76 rfl hi.lt hi.sh rfl hd kk
theorem pf_X7_76 (G : Mx n D cA ad A sa p s m args meth c RX7 cc mL rt) (hI : Iv n sh D cA ad A s.heap w H locs) {i : Nat} (hi : isX7 n sh i) {v : Int32} (hd : decode cc pc = .ok (.putfield 76, 3)) (kk : ∀ (H1 : Heap) (locs1 : List Loc), Iv n sh D cA ad A s.heap (mst w i 6 v) H1 locs1 → W p l e Rm s m args below meth c H1 locs1 cells slots Q (F0 m (pc + 3) ls rest)) : W p l e Rm s m args below meth c H locs cells slots Q (F0 m pc ls (.int v :: .ref (ad i) :: rest)) :=
  m_put G hI inGX7 tyX7_ok nmX7 (ci := 7) (k := 6) rfl (by decide) fl_X7_76 rfl rfl (ty := .int) rfl hi.lt hi.sh rfl rfl rfl hd kk
theorem fl_X7_80 : Cond.fieldLink RX7 80 RX7 (TX7 7).2.1 (TX7 7).2.2.1 ∈ gT := tin 713 (by decide +kernel) rfl
theorem gf_X7_80 (G : Mx n D cA ad A sa p s m args meth c RX7 cc mL rt) (hI : Iv n sh D cA ad A s.heap w H locs) {i : Nat} (hi : isX7 n sh i) (hd : decode cc pc = .ok (.getfield 80, 3)) (kk : W p l e Rm s m args below meth c H locs cells slots Q (F0 m (pc + 3) ls (.int (w i 7) :: rest))) : W p l e Rm s m args below meth c H locs cells slots Q (F0 m pc ls (.ref (ad i) :: rest)) :=
  m_getI G hI inGX7 (ci := 7) (k := 7) rfl (by decide) fl_X7_80 rfl hi.lt hi.sh rfl hd kk
theorem pf_X7_80 (G : Mx n D cA ad A sa p s m args meth c RX7 cc mL rt) (hI : Iv n sh D cA ad A s.heap w H locs) {i : Nat} (hi : isX7 n sh i) {v : Int32} (hd : decode cc pc = .ok (.putfield 80, 3)) (kk : ∀ (H1 : Heap) (locs1 : List Loc), Iv n sh D cA ad A s.heap (mst w i 7 v) H1 locs1 → W p l e Rm s m args below meth c H1 locs1 cells slots Q (F0 m (pc + 3) ls rest)) : W p l e Rm s m args below meth c H locs cells slots Q (F0 m pc ls (.int v :: .ref (ad i) :: rest)) :=
  m_put G hI inGX7 tyX7_ok nmX7 (ci := 7) (k := 7) rfl (by decide) fl_X7_80 rfl rfl (ty := .int) rfl hi.lt hi.sh rfl rfl rfl hd kk
theorem fl_X7_83 : Cond.fieldLink RX7 83 RX7 (TX7 11).2.1 (TX7 11).2.2.1 ∈ gT := tin 717 (by decide +kernel) rfl
theorem gf_X7_83 (G : Mx n D cA ad A sa p s m args meth c RX7 cc mL rt) (hI : Iv n sh D cA ad A s.heap w H locs) {i : Nat} (hi : isX7 n sh i) (hd : decode cc pc = .ok (.getfield 83, 3)) (kk : W p l e Rm s m args below meth c H locs cells slots Q (F0 m (pc + 3) ls (.int (w i 11) :: rest))) : W p l e Rm s m args below meth c H locs cells slots Q (F0 m pc ls (.ref (ad i) :: rest)) :=
  m_getI G hI inGX7 (ci := 7) (k := 11) rfl (by decide) fl_X7_83 rfl hi.lt hi.sh rfl hd kk
theorem pf_X7_83 (G : Mx n D cA ad A sa p s m args meth c RX7 cc mL rt) (hI : Iv n sh D cA ad A s.heap w H locs) {i : Nat} (hi : isX7 n sh i) {v : Int32} (hd : decode cc pc = .ok (.putfield 83, 3)) (kk : ∀ (H1 : Heap) (locs1 : List Loc), Iv n sh D cA ad A s.heap (mst w i 11 v) H1 locs1 → W p l e Rm s m args below meth c H1 locs1 cells slots Q (F0 m (pc + 3) ls rest)) : W p l e Rm s m args below meth c H locs cells slots Q (F0 m pc ls (.int v :: .ref (ad i) :: rest)) :=
  m_put G hI inGX7 tyX7_ok nmX7 (ci := 7) (k := 11) rfl (by decide) fl_X7_83 rfl rfl (ty := .int) rfl hi.lt hi.sh rfl rfl rfl hd kk
theorem fl_X7_120 : Cond.fieldLink RX7 120 RX7 (TX7 13).2.1 (TX7 13).2.2.1 ∈ gT := tin 719 (by decide +kernel) rfl
theorem gf_X7_120 (G : Mx n D cA ad A sa p s m args meth c RX7 cc mL rt) (hI : Iv n sh D cA ad A s.heap w H locs) {i : Nat} (hi : isX7 n sh i) (hd : decode cc pc = .ok (.getfield 120, 3)) (kk : W p l e Rm s m args below meth c H locs cells slots Q (F0 m (pc + 3) ls (.int (w i 13) :: rest))) : W p l e Rm s m args below meth c H locs cells slots Q (F0 m pc ls (.ref (ad i) :: rest)) :=
  m_getI G hI inGX7 (ci := 7) (k := 13) rfl (by decide) fl_X7_120 rfl hi.lt hi.sh rfl hd kk
theorem pf_X7_120 (G : Mx n D cA ad A sa p s m args meth c RX7 cc mL rt) (hI : Iv n sh D cA ad A s.heap w H locs) {i : Nat} (hi : isX7 n sh i) {v : Int32} (hd : decode cc pc = .ok (.putfield 120, 3)) (kk : ∀ (H1 : Heap) (locs1 : List Loc), Iv n sh D cA ad A s.heap (mst w i 13 v) H1 locs1 → W p l e Rm s m args below meth c H1 locs1 cells slots Q (F0 m (pc + 3) ls rest)) : W p l e Rm s m args below meth c H locs cells slots Q (F0 m pc ls (.int v :: .ref (ad i) :: rest)) :=
  m_put G hI inGX7 tyX7_ok nmX7 (ci := 7) (k := 13) rfl (by decide) fl_X7_120 rfl rfl (ty := .int) rfl hi.lt hi.sh rfl rfl rfl hd kk
theorem fl_X7_130 : Cond.fieldLink RX7 130 RX7 (TX7 14).2.1 (TX7 14).2.2.1 ∈ gT := tin 720 (by decide +kernel) rfl
theorem gf_X7_130 (G : Mx n D cA ad A sa p s m args meth c RX7 cc mL rt) (hI : Iv n sh D cA ad A s.heap w H locs) {i : Nat} (hi : isX7 n sh i) (hd : decode cc pc = .ok (.getfield 130, 3)) (kk : W p l e Rm s m args below meth c H locs cells slots Q (F0 m (pc + 3) ls (.int (w i 14) :: rest))) : W p l e Rm s m args below meth c H locs cells slots Q (F0 m pc ls (.ref (ad i) :: rest)) :=
  m_getI G hI inGX7 (ci := 7) (k := 14) rfl (by decide) fl_X7_130 rfl hi.lt hi.sh rfl hd kk
theorem pf_X7_130 (G : Mx n D cA ad A sa p s m args meth c RX7 cc mL rt) (hI : Iv n sh D cA ad A s.heap w H locs) {i : Nat} (hi : isX7 n sh i) {v : Int32} (hn : bz v = true) (hd : decode cc pc = .ok (.putfield 130, 3)) (kk : ∀ (H1 : Heap) (locs1 : List Loc), Iv n sh D cA ad A s.heap (mst w i 14 v) H1 locs1 → W p l e Rm s m args below meth c H1 locs1 cells slots Q (F0 m (pc + 3) ls rest)) : W p l e Rm s m args below meth c H locs cells slots Q (F0 m pc ls (.int v :: .ref (ad i) :: rest)) :=
  m_put G hI inGX7 tyX7_ok nmX7 (ci := 7) (k := 14) rfl (by decide) fl_X7_130 rfl rfl (ty := .boolean) rfl hi.lt hi.sh rfl (bz_narrow hn) (bz_fits hn) hd kk
theorem fl_X7_147 : Cond.fieldLink RX7 147 RX7 (TX7 19).2.1 (TX7 19).2.2.1 ∈ gT := tin 725 (by decide +kernel) rfl
theorem gf_X7_147 (G : Mx n D cA ad A sa p s m args meth c RX7 cc mL rt) (hI : Iv n sh D cA ad A s.heap w H locs) {i : Nat} (hi : isX7 n sh i) (hd : decode cc pc = .ok (.getfield 147, 3)) (kk : W p l e Rm s m args below meth c H locs cells slots Q (F0 m (pc + 3) ls (.int (w i 19) :: rest))) : W p l e Rm s m args below meth c H locs cells slots Q (F0 m pc ls (.ref (ad i) :: rest)) :=
  m_getI G hI inGX7 (ci := 7) (k := 19) rfl (by decide) fl_X7_147 rfl hi.lt hi.sh rfl hd kk
theorem pf_X7_147 (G : Mx n D cA ad A sa p s m args meth c RX7 cc mL rt) (hI : Iv n sh D cA ad A s.heap w H locs) {i : Nat} (hi : isX7 n sh i) {v : Int32} (hd : decode cc pc = .ok (.putfield 147, 3)) (kk : ∀ (H1 : Heap) (locs1 : List Loc), Iv n sh D cA ad A s.heap (mst w i 19 v) H1 locs1 → W p l e Rm s m args below meth c H1 locs1 cells slots Q (F0 m (pc + 3) ls rest)) : W p l e Rm s m args below meth c H locs cells slots Q (F0 m pc ls (.int v :: .ref (ad i) :: rest)) :=
  m_put G hI inGX7 tyX7_ok nmX7 (ci := 7) (k := 19) rfl (by decide) fl_X7_147 rfl rfl (ty := .int) rfl hi.lt hi.sh rfl rfl rfl hd kk
theorem fl_X7_187 : Cond.fieldLink RX7 187 RX7 (TX7 22).2.1 (TX7 22).2.2.1 ∈ gT := tin 728 (by decide +kernel) rfl
theorem gf_X7_187 (G : Mx n D cA ad A sa p s m args meth c RX7 cc mL rt) (hI : Iv n sh D cA ad A s.heap w H locs) {i : Nat} (hi : isX7 n sh i) (hd : decode cc pc = .ok (.getfield 187, 3)) (kk : W p l e Rm s m args below meth c H locs cells slots Q (F0 m (pc + 3) ls (.int (w i 22) :: rest))) : W p l e Rm s m args below meth c H locs cells slots Q (F0 m pc ls (.ref (ad i) :: rest)) :=
  m_getI G hI inGX7 (ci := 7) (k := 22) rfl (by decide) fl_X7_187 rfl hi.lt hi.sh rfl hd kk
theorem pf_X7_187 (G : Mx n D cA ad A sa p s m args meth c RX7 cc mL rt) (hI : Iv n sh D cA ad A s.heap w H locs) {i : Nat} (hi : isX7 n sh i) {v : Int32} (hd : decode cc pc = .ok (.putfield 187, 3)) (kk : ∀ (H1 : Heap) (locs1 : List Loc), Iv n sh D cA ad A s.heap (mst w i 22 v) H1 locs1 → W p l e Rm s m args below meth c H1 locs1 cells slots Q (F0 m (pc + 3) ls rest)) : W p l e Rm s m args below meth c H locs cells slots Q (F0 m pc ls (.int v :: .ref (ad i) :: rest)) :=
  m_put G hI inGX7 tyX7_ok nmX7 (ci := 7) (k := 22) rfl (by decide) fl_X7_187 rfl rfl (ty := .int) rfl hi.lt hi.sh rfl rfl rfl hd kk
theorem fl_X7_190 : Cond.fieldLink RX7 190 RX7 (TX7 23).2.1 (TX7 23).2.2.1 ∈ gT := tin 729 (by decide +kernel) rfl
theorem gf_X7_190 (G : Mx n D cA ad A sa p s m args meth c RX7 cc mL rt) (hI : Iv n sh D cA ad A s.heap w H locs) {i : Nat} (hi : isX7 n sh i) (hd : decode cc pc = .ok (.getfield 190, 3)) (kk : W p l e Rm s m args below meth c H locs cells slots Q (F0 m (pc + 3) ls (.int (w i 23) :: rest))) : W p l e Rm s m args below meth c H locs cells slots Q (F0 m pc ls (.ref (ad i) :: rest)) :=
  m_getI G hI inGX7 (ci := 7) (k := 23) rfl (by decide) fl_X7_190 rfl hi.lt hi.sh rfl hd kk
theorem pf_X7_190 (G : Mx n D cA ad A sa p s m args meth c RX7 cc mL rt) (hI : Iv n sh D cA ad A s.heap w H locs) {i : Nat} (hi : isX7 n sh i) {v : Int32} (hd : decode cc pc = .ok (.putfield 190, 3)) (kk : ∀ (H1 : Heap) (locs1 : List Loc), Iv n sh D cA ad A s.heap (mst w i 23 v) H1 locs1 → W p l e Rm s m args below meth c H1 locs1 cells slots Q (F0 m (pc + 3) ls rest)) : W p l e Rm s m args below meth c H locs cells slots Q (F0 m pc ls (.int v :: .ref (ad i) :: rest)) :=
  m_put G hI inGX7 tyX7_ok nmX7 (ci := 7) (k := 23) rfl (by decide) fl_X7_190 rfl rfl (ty := .int) rfl hi.lt hi.sh rfl rfl rfl hd kk
theorem fl_X7_193 : Cond.fieldLink RX7 193 RX7 (TX7 24).2.1 (TX7 24).2.2.1 ∈ gT := tin 730 (by decide +kernel) rfl
theorem gf_X7_193 (G : Mx n D cA ad A sa p s m args meth c RX7 cc mL rt) (hI : Iv n sh D cA ad A s.heap w H locs) {i : Nat} (hi : isX7 n sh i) (hd : decode cc pc = .ok (.getfield 193, 3)) (kk : W p l e Rm s m args below meth c H locs cells slots Q (F0 m (pc + 3) ls (.int (w i 24) :: rest))) : W p l e Rm s m args below meth c H locs cells slots Q (F0 m pc ls (.ref (ad i) :: rest)) :=
  m_getI G hI inGX7 (ci := 7) (k := 24) rfl (by decide) fl_X7_193 rfl hi.lt hi.sh rfl hd kk
theorem pf_X7_193 (G : Mx n D cA ad A sa p s m args meth c RX7 cc mL rt) (hI : Iv n sh D cA ad A s.heap w H locs) {i : Nat} (hi : isX7 n sh i) {v : Int32} (hd : decode cc pc = .ok (.putfield 193, 3)) (kk : ∀ (H1 : Heap) (locs1 : List Loc), Iv n sh D cA ad A s.heap (mst w i 24 v) H1 locs1 → W p l e Rm s m args below meth c H1 locs1 cells slots Q (F0 m (pc + 3) ls rest)) : W p l e Rm s m args below meth c H locs cells slots Q (F0 m pc ls (.int v :: .ref (ad i) :: rest)) :=
  m_put G hI inGX7 tyX7_ok nmX7 (ci := 7) (k := 24) rfl (by decide) fl_X7_193 rfl rfl (ty := .int) rfl hi.lt hi.sh rfl rfl rfl hd kk
theorem fl_X7_196 : Cond.fieldLink RX7 196 RX7 (TX7 25).2.1 (TX7 25).2.2.1 ∈ gT := tin 731 (by decide +kernel) rfl
theorem gf_X7_196 (G : Mx n D cA ad A sa p s m args meth c RX7 cc mL rt) (hI : Iv n sh D cA ad A s.heap w H locs) {i : Nat} (hi : isX7 n sh i) (hd : decode cc pc = .ok (.getfield 196, 3)) (kk : W p l e Rm s m args below meth c H locs cells slots Q (F0 m (pc + 3) ls (.int (w i 25) :: rest))) : W p l e Rm s m args below meth c H locs cells slots Q (F0 m pc ls (.ref (ad i) :: rest)) :=
  m_getI G hI inGX7 (ci := 7) (k := 25) rfl (by decide) fl_X7_196 rfl hi.lt hi.sh rfl hd kk
theorem pf_X7_196 (G : Mx n D cA ad A sa p s m args meth c RX7 cc mL rt) (hI : Iv n sh D cA ad A s.heap w H locs) {i : Nat} (hi : isX7 n sh i) {v : Int32} (hd : decode cc pc = .ok (.putfield 196, 3)) (kk : ∀ (H1 : Heap) (locs1 : List Loc), Iv n sh D cA ad A s.heap (mst w i 25 v) H1 locs1 → W p l e Rm s m args below meth c H1 locs1 cells slots Q (F0 m (pc + 3) ls rest)) : W p l e Rm s m args below meth c H locs cells slots Q (F0 m pc ls (.int v :: .ref (ad i) :: rest)) :=
  m_put G hI inGX7 tyX7_ok nmX7 (ci := 7) (k := 25) rfl (by decide) fl_X7_196 rfl rfl (ty := .int) rfl hi.lt hi.sh rfl rfl rfl hd kk
theorem fl_X7_199 : Cond.fieldLink RX7 199 RX7 (TX7 26).2.1 (TX7 26).2.2.1 ∈ gT := tin 732 (by decide +kernel) rfl
theorem gf_X7_199 (G : Mx n D cA ad A sa p s m args meth c RX7 cc mL rt) (hI : Iv n sh D cA ad A s.heap w H locs) {i : Nat} (hi : isX7 n sh i) (hd : decode cc pc = .ok (.getfield 199, 3)) (kk : W p l e Rm s m args below meth c H locs cells slots Q (F0 m (pc + 3) ls (.int (w i 26) :: rest))) : W p l e Rm s m args below meth c H locs cells slots Q (F0 m pc ls (.ref (ad i) :: rest)) :=
  m_getI G hI inGX7 (ci := 7) (k := 26) rfl (by decide) fl_X7_199 rfl hi.lt hi.sh rfl hd kk
theorem pf_X7_199 (G : Mx n D cA ad A sa p s m args meth c RX7 cc mL rt) (hI : Iv n sh D cA ad A s.heap w H locs) {i : Nat} (hi : isX7 n sh i) {v : Int32} (hd : decode cc pc = .ok (.putfield 199, 3)) (kk : ∀ (H1 : Heap) (locs1 : List Loc), Iv n sh D cA ad A s.heap (mst w i 26 v) H1 locs1 → W p l e Rm s m args below meth c H1 locs1 cells slots Q (F0 m (pc + 3) ls rest)) : W p l e Rm s m args below meth c H locs cells slots Q (F0 m pc ls (.int v :: .ref (ad i) :: rest)) :=
  m_put G hI inGX7 tyX7_ok nmX7 (ci := 7) (k := 26) rfl (by decide) fl_X7_199 rfl rfl (ty := .int) rfl hi.lt hi.sh rfl rfl rfl hd kk
theorem fl_X7_262 : Cond.fieldLink RX7 262 RX7 (TX7 32).2.1 (TX7 32).2.2.1 ∈ gT := tin 738 (by decide +kernel) rfl
theorem gf_X7_262 (G : Mx n D cA ad A sa p s m args meth c RX7 cc mL rt) (hI : Iv n sh D cA ad A s.heap w H locs) {i : Nat} (hi : isX7 n sh i) (hd : decode cc pc = .ok (.getfield 262, 3)) (kk : W p l e Rm s m args below meth c H locs cells slots Q (F0 m (pc + 3) ls (.int (w i 32) :: rest))) : W p l e Rm s m args below meth c H locs cells slots Q (F0 m pc ls (.ref (ad i) :: rest)) :=
  m_getI G hI inGX7 (ci := 7) (k := 32) rfl (by decide) fl_X7_262 rfl hi.lt hi.sh rfl hd kk
theorem pf_X7_262 (G : Mx n D cA ad A sa p s m args meth c RX7 cc mL rt) (hI : Iv n sh D cA ad A s.heap w H locs) {i : Nat} (hi : isX7 n sh i) {v : Int32} (hd : decode cc pc = .ok (.putfield 262, 3)) (kk : ∀ (H1 : Heap) (locs1 : List Loc), Iv n sh D cA ad A s.heap (mst w i 32 v) H1 locs1 → W p l e Rm s m args below meth c H1 locs1 cells slots Q (F0 m (pc + 3) ls rest)) : W p l e Rm s m args below meth c H locs cells slots Q (F0 m pc ls (.int v :: .ref (ad i) :: rest)) :=
  m_put G hI inGX7 tyX7_ok nmX7 (ci := 7) (k := 32) rfl (by decide) fl_X7_262 rfl rfl (ty := .int) rfl hi.lt hi.sh rfl rfl rfl hd kk
theorem fl_X7_265 : Cond.fieldLink RX7 265 RX7 (TX7 33).2.1 (TX7 33).2.2.1 ∈ gT := tin 739 (by decide +kernel) rfl
theorem gf_X7_265 (G : Mx n D cA ad A sa p s m args meth c RX7 cc mL rt) (hI : Iv n sh D cA ad A s.heap w H locs) {i : Nat} (hi : isX7 n sh i) (hd : decode cc pc = .ok (.getfield 265, 3)) (kk : W p l e Rm s m args below meth c H locs cells slots Q (F0 m (pc + 3) ls (.int (w i 33) :: rest))) : W p l e Rm s m args below meth c H locs cells slots Q (F0 m pc ls (.ref (ad i) :: rest)) :=
  m_getI G hI inGX7 (ci := 7) (k := 33) rfl (by decide) fl_X7_265 rfl hi.lt hi.sh rfl hd kk
theorem pf_X7_265 (G : Mx n D cA ad A sa p s m args meth c RX7 cc mL rt) (hI : Iv n sh D cA ad A s.heap w H locs) {i : Nat} (hi : isX7 n sh i) {v : Int32} (hd : decode cc pc = .ok (.putfield 265, 3)) (kk : ∀ (H1 : Heap) (locs1 : List Loc), Iv n sh D cA ad A s.heap (mst w i 33 v) H1 locs1 → W p l e Rm s m args below meth c H1 locs1 cells slots Q (F0 m (pc + 3) ls rest)) : W p l e Rm s m args below meth c H locs cells slots Q (F0 m pc ls (.int v :: .ref (ad i) :: rest)) :=
  m_put G hI inGX7 tyX7_ok nmX7 (ci := 7) (k := 33) rfl (by decide) fl_X7_265 rfl rfl (ty := .int) rfl hi.lt hi.sh rfl rfl rfl hd kk
theorem fl_X7_271 : Cond.fieldLink RX7 271 RX7 (TX7 34).2.1 (TX7 34).2.2.1 ∈ gT := tin 740 (by decide +kernel) rfl
theorem gf_X7_271 (G : Mx n D cA ad A sa p s m args meth c RX7 cc mL rt) (hI : Iv n sh D cA ad A s.heap w H locs) {i : Nat} (hi : isX7 n sh i) (hd : decode cc pc = .ok (.getfield 271, 3)) (kk : W p l e Rm s m args below meth c H locs cells slots Q (F0 m (pc + 3) ls (.int (w i 34) :: rest))) : W p l e Rm s m args below meth c H locs cells slots Q (F0 m pc ls (.ref (ad i) :: rest)) :=
  m_getI G hI inGX7 (ci := 7) (k := 34) rfl (by decide) fl_X7_271 rfl hi.lt hi.sh rfl hd kk
theorem pf_X7_271 (G : Mx n D cA ad A sa p s m args meth c RX7 cc mL rt) (hI : Iv n sh D cA ad A s.heap w H locs) {i : Nat} (hi : isX7 n sh i) {v : Int32} (hd : decode cc pc = .ok (.putfield 271, 3)) (kk : ∀ (H1 : Heap) (locs1 : List Loc), Iv n sh D cA ad A s.heap (mst w i 34 v) H1 locs1 → W p l e Rm s m args below meth c H1 locs1 cells slots Q (F0 m (pc + 3) ls rest)) : W p l e Rm s m args below meth c H locs cells slots Q (F0 m pc ls (.int v :: .ref (ad i) :: rest)) :=
  m_put G hI inGX7 tyX7_ok nmX7 (ci := 7) (k := 34) rfl (by decide) fl_X7_271 rfl rfl (ty := .int) rfl hi.lt hi.sh rfl rfl rfl hd kk
theorem fl_X7_277 : Cond.fieldLink RX7 277 RX7 (TX7 35).2.1 (TX7 35).2.2.1 ∈ gT := tin 741 (by decide +kernel) rfl
theorem gf_X7_277 (G : Mx n D cA ad A sa p s m args meth c RX7 cc mL rt) (hI : Iv n sh D cA ad A s.heap w H locs) {i : Nat} (hi : isX7 n sh i) (hd : decode cc pc = .ok (.getfield 277, 3)) (kk : W p l e Rm s m args below meth c H locs cells slots Q (F0 m (pc + 3) ls (.int (w i 35) :: rest))) : W p l e Rm s m args below meth c H locs cells slots Q (F0 m pc ls (.ref (ad i) :: rest)) :=
  m_getI G hI inGX7 (ci := 7) (k := 35) rfl (by decide) fl_X7_277 rfl hi.lt hi.sh rfl hd kk
theorem pf_X7_277 (G : Mx n D cA ad A sa p s m args meth c RX7 cc mL rt) (hI : Iv n sh D cA ad A s.heap w H locs) {i : Nat} (hi : isX7 n sh i) {v : Int32} (hd : decode cc pc = .ok (.putfield 277, 3)) (kk : ∀ (H1 : Heap) (locs1 : List Loc), Iv n sh D cA ad A s.heap (mst w i 35 v) H1 locs1 → W p l e Rm s m args below meth c H1 locs1 cells slots Q (F0 m (pc + 3) ls rest)) : W p l e Rm s m args below meth c H locs cells slots Q (F0 m pc ls (.int v :: .ref (ad i) :: rest)) :=
  m_put G hI inGX7 tyX7_ok nmX7 (ci := 7) (k := 35) rfl (by decide) fl_X7_277 rfl rfl (ty := .int) rfl hi.lt hi.sh rfl rfl rfl hd kk
theorem fl_X7_280 : Cond.fieldLink RX7 280 RX7 (TX7 36).2.1 (TX7 36).2.2.1 ∈ gT := tin 742 (by decide +kernel) rfl
theorem gf_X7_280 (G : Mx n D cA ad A sa p s m args meth c RX7 cc mL rt) (hI : Iv n sh D cA ad A s.heap w H locs) {i : Nat} (hi : isX7 n sh i) (hd : decode cc pc = .ok (.getfield 280, 3)) (kk : W p l e Rm s m args below meth c H locs cells slots Q (F0 m (pc + 3) ls (.int (w i 36) :: rest))) : W p l e Rm s m args below meth c H locs cells slots Q (F0 m pc ls (.ref (ad i) :: rest)) :=
  m_getI G hI inGX7 (ci := 7) (k := 36) rfl (by decide) fl_X7_280 rfl hi.lt hi.sh rfl hd kk
theorem pf_X7_280 (G : Mx n D cA ad A sa p s m args meth c RX7 cc mL rt) (hI : Iv n sh D cA ad A s.heap w H locs) {i : Nat} (hi : isX7 n sh i) {v : Int32} (hd : decode cc pc = .ok (.putfield 280, 3)) (kk : ∀ (H1 : Heap) (locs1 : List Loc), Iv n sh D cA ad A s.heap (mst w i 36 v) H1 locs1 → W p l e Rm s m args below meth c H1 locs1 cells slots Q (F0 m (pc + 3) ls rest)) : W p l e Rm s m args below meth c H locs cells slots Q (F0 m pc ls (.int v :: .ref (ad i) :: rest)) :=
  m_put G hI inGX7 tyX7_ok nmX7 (ci := 7) (k := 36) rfl (by decide) fl_X7_280 rfl rfl (ty := .int) rfl hi.lt hi.sh rfl rfl rfl hd kk
end FR
set_option maxRecDepth 100000 in
theorem my_X0_beginAnew : MV yX0_beginAnew cX0_beginAnew 2 none 0 := ⟨tin 97 rfl rfl, tin 95 (by decide +kernel) rfl, tin 96 (by decide +kernel) rfl, tin 2 (by decide +kernel) rfl, by decide +kernel, by decide +kernel, by decide +kernel⟩
set_option maxRecDepth 100000 in
theorem my_X0_becomeLike : MV yX0_becomeLike cX0_becomeLike 2 none 1 := ⟨tin 580 rfl rfl, tin 578 (by decide +kernel) rfl, tin 579 (by decide +kernel) rfl, tin 2 (by decide +kernel) rfl, by decide +kernel, by decide +kernel, by decide +kernel⟩
set_option maxRecDepth 100000 in
theorem my_X0_makePlan : MV yX0_makePlan cX0_makePlan 1 none 0 := ⟨tin 294 rfl rfl, tin 292 (by decide +kernel) rfl, tin 293 (by decide +kernel) rfl, tin 2 (by decide +kernel) rfl, by decide +kernel, by decide +kernel, by decide +kernel⟩
set_option maxRecDepth 100000 in
theorem my_X0_stepOnce : MV yX0_stepOnce cX0_stepOnce 1 (some .boolean) 0 := ⟨tin 536 rfl rfl, tin 534 (by decide +kernel) rfl, tin 535 (by decide +kernel) rfl, tin 2 (by decide +kernel) rfl, by decide +kernel, by decide +kernel, by decide +kernel⟩
set_option maxRecDepth 100000 in
theorem my_X0_takeWishesThatHaveCome : MV yX0_takeWishesThatHaveCome cX0_takeWishesThatHaveCome 3 none 0 := ⟨tin 540 rfl rfl, tin 539 (by decide +kernel) rfl, tsl 13 (by decide +kernel) rfl, tin 2 (by decide +kernel) rfl, by decide +kernel, by decide +kernel, by decide +kernel⟩
set_option maxRecDepth 100000 in
theorem my_X0_takeWant : MV yX0_takeWant cX0_takeWant 3 none 2 := ⟨tin 544 rfl rfl, tin 543 (by decide +kernel) rfl, tsl 14 (by decide +kernel) rfl, tin 2 (by decide +kernel) rfl, by decide +kernel, by decide +kernel, by decide +kernel⟩
set_option maxRecDepth 100000 in
theorem my_X0_steer : MV yX0_steer cX0_steer 6 none 0 := ⟨tin 549 rfl rfl, tin 548 (by decide +kernel) rfl, tsl 15 (by decide +kernel) rfl, tin 2 (by decide +kernel) rfl, by decide +kernel, by decide +kernel, by decide +kernel⟩
set_option maxRecDepth 100000 in
theorem my_X0_moveCurrents : MV yX0_moveCurrents cX0_moveCurrents 4 none 0 := ⟨tin 557 rfl rfl, tin 556 (by decide +kernel) rfl, tsl 16 (by decide +kernel) rfl, tin 2 (by decide +kernel) rfl, by decide +kernel, by decide +kernel, by decide +kernel⟩
set_option maxRecDepth 100000 in
theorem my_X0_dropWishesOf : MV yX0_dropWishesOf cX0_dropWishesOf 5 (some .int) 1 := ⟨tin 518 rfl rfl, tin 516 (by decide +kernel) rfl, tin 517 (by decide +kernel) rfl, tin 2 (by decide +kernel) rfl, by decide +kernel, by decide +kernel, by decide +kernel⟩
set_option maxRecDepth 100000 in
theorem my_X0_isSettled : MV yX0_isSettled cX0_isSettled 3 (some .boolean) 1 := ⟨tin 589 rfl rfl, tin 587 (by decide +kernel) rfl, tin 588 (by decide +kernel) rfl, tin 2 (by decide +kernel) rfl, by decide +kernel, by decide +kernel, by decide +kernel⟩
set_option maxRecDepth 100000 in
theorem my_X1_make : MV yX1_make cX1_make 9 none 3 := ⟨tin 298 rfl rfl, tin 296 (by decide +kernel) rfl, tin 297 (by decide +kernel) rfl, tin 5 (by decide +kernel) rfl, by decide +kernel, by decide +kernel, by decide +kernel⟩
set_option maxRecDepth 100000 in
theorem my_X1_demandThatCounts : MV yX1_demandThatCounts cX1_demandThatCounts 2 (some .int) 1 := ⟨tin 308 rfl rfl, tin 307 (by decide +kernel) rfl, tsl 2 (by decide +kernel) rfl, tin 5 (by decide +kernel) rfl, by decide +kernel, by decide +kernel, by decide +kernel⟩
set_option maxRecDepth 100000 in
theorem my_X1_highWithDead : MV yX1_highWithDead cX1_highWithDead 4 (some .int) 2 := ⟨tin 313 rfl rfl, tin 312 (by decide +kernel) rfl, tsl 3 (by decide +kernel) rfl, tin 5 (by decide +kernel) rfl, by decide +kernel, by decide +kernel, by decide +kernel⟩
set_option maxRecDepth 100000 in
theorem my_X1_isWanted : MV yX1_isWanted cX1_isWanted 3 (some .boolean) 2 := ⟨tin 391 rfl rfl, tin 389 (by decide +kernel) rfl, tin 390 (by decide +kernel) rfl, tin 5 (by decide +kernel) rfl, by decide +kernel, by decide +kernel, by decide +kernel⟩
set_option maxRecDepth 100000 in
theorem my_X1_tickBehindBy : MV yX1_tickBehindBy cX1_tickBehindBy 3 (some .int) 2 := ⟨tin 399 rfl rfl, tin 398 (by decide +kernel) rfl, tsl 6 (by decide +kernel) rfl, tin 5 (by decide +kernel) rfl, by decide +kernel, by decide +kernel, by decide +kernel⟩
set_option maxRecDepth 100000 in
theorem my_X1_isOn : MV yX1_isOn cX1_isOn 6 (some .boolean) 3 := ⟨tin 395 rfl rfl, tin 393 (by decide +kernel) rfl, tin 394 (by decide +kernel) rfl, tin 5 (by decide +kernel) rfl, by decide +kernel, by decide +kernel, by decide +kernel⟩
set_option maxRecDepth 100000 in
theorem my_X1_givesOne : MV yX1_givesOne cX1_givesOne 3 (some .boolean) 2 := ⟨tin 404 rfl rfl, tin 402 (by decide +kernel) rfl, tin 403 (by decide +kernel) rfl, tin 5 (by decide +kernel) rfl, by decide +kernel, by decide +kernel, by decide +kernel⟩
set_option maxRecDepth 100000 in
theorem my_X1_ticksOn : MV yX1_ticksOn cX1_ticksOn 3 (some .int) 2 := ⟨tin 368 rfl rfl, tin 367 (by decide +kernel) rfl, tsl 5 (by decide +kernel) rfl, tin 5 (by decide +kernel) rfl, by decide +kernel, by decide +kernel, by decide +kernel⟩
set_option maxRecDepth 100000 in
theorem my_X1_upperTicks : MV yX1_upperTicks cX1_upperTicks 2 (some .int) 1 := ⟨tin 373 rfl rfl, tin 371 (by decide +kernel) rfl, tin 372 (by decide +kernel) rfl, tin 5 (by decide +kernel) rfl, by decide +kernel, by decide +kernel, by decide +kernel⟩
set_option maxRecDepth 100000 in
theorem my_X1_lowerTicks : MV yX1_lowerTicks cX1_lowerTicks 2 (some .int) 1 := ⟨tin 364 rfl rfl, tin 362 (by decide +kernel) rfl, tin 363 (by decide +kernel) rfl, tin 5 (by decide +kernel) rfl, by decide +kernel, by decide +kernel, by decide +kernel⟩
set_option maxRecDepth 100000 in
theorem my_X1_neitherTicks : MV yX1_neitherTicks cX1_neitherTicks 2 (some .int) 1 := ⟨tin 379 rfl rfl, tin 377 (by decide +kernel) rfl, tin 378 (by decide +kernel) rfl, tin 5 (by decide +kernel) rfl, by decide +kernel, by decide +kernel, by decide +kernel⟩
set_option maxRecDepth 100000 in
theorem my_X1_mean : MV yX1_mean cX1_mean 2 (some .int) 1 := ⟨tin 360 rfl rfl, tin 358 (by decide +kernel) rfl, tin 359 (by decide +kernel) rfl, tin 5 (by decide +kernel) rfl, by decide +kernel, by decide +kernel, by decide +kernel⟩
set_option maxRecDepth 100000 in
theorem my_X1_timesUpperComesOn : MV yX1_timesUpperComesOn cX1_timesUpperComesOn 3 (some .int) 1 := ⟨tin 383 rfl rfl, tin 381 (by decide +kernel) rfl, tin 382 (by decide +kernel) rfl, tin 5 (by decide +kernel) rfl, by decide +kernel, by decide +kernel, by decide +kernel⟩
set_option maxRecDepth 100000 in
theorem my_X1_leastDeadWithoutUpper : MV yX1_leastDeadWithoutUpper cX1_leastDeadWithoutUpper 4 (some .int) 1 := ⟨tin 452 rfl rfl, tin 450 (by decide +kernel) rfl, tin 451 (by decide +kernel) rfl, tin 5 (by decide +kernel) rfl, by decide +kernel, by decide +kernel, by decide +kernel⟩
set_option maxRecDepth 100000 in
theorem my_X1_listEvents : MV yX1_listEvents cX1_listEvents 4 none 1 := ⟨tin 464 rfl rfl, tin 462 (by decide +kernel) rfl, tin 463 (by decide +kernel) rfl, tin 5 (by decide +kernel) rfl, by decide +kernel, by decide +kernel, by decide +kernel⟩
set_option maxRecDepth 100000 in
theorem my_X1_listEvent : MV yX1_listEvent cX1_listEvent 7 none 4 := ⟨tin 469 rfl rfl, tin 468 (by decide +kernel) rfl, tsl 9 (by decide +kernel) rfl, tin 5 (by decide +kernel) rfl, by decide +kernel, by decide +kernel, by decide +kernel⟩
set_option maxRecDepth 100000 in
theorem my_X2_find : MV yX2_find cX2_find 10 none 4 := ⟨tin 325 rfl rfl, tin 323 (by decide +kernel) rfl, tin 324 (by decide +kernel) rfl, tin 7 (by decide +kernel) rfl, by decide +kernel, by decide +kernel, by decide +kernel⟩
set_option maxRecDepth 100000 in
theorem my_X2_nextChange : MS yX2_nextChange cX2_nextChange 7 (some .int) 4 := ⟨tin 329 rfl rfl, tin 328 (by decide +kernel) rfl, tin 7 (by decide +kernel) rfl, by decide +kernel, by decide +kernel, by decide +kernel⟩
set_option maxRecDepth 100000 in
theorem my_X2_patternAt : MS yX2_patternAt cX2_patternAt 5 (some .int) 3 := ⟨tin 333 rfl rfl, tin 332 (by decide +kernel) rfl, tin 7 (by decide +kernel) rfl, by decide +kernel, by decide +kernel, by decide +kernel⟩
set_option maxRecDepth 100000 in
theorem my_X2_sees : MV yX2_sees cX2_sees 2 (some .boolean) 1 := ⟨tin 432 rfl rfl, tin 430 (by decide +kernel) rfl, tin 431 (by decide +kernel) rfl, tin 7 (by decide +kernel) rfl, by decide +kernel, by decide +kernel, by decide +kernel⟩
set_option maxRecDepth 100000 in
theorem my_X2_howManySeen : MV yX2_howManySeen cX2_howManySeen 1 (some .int) 0 := ⟨tin 418 rfl rfl, tin 416 (by decide +kernel) rfl, tin 417 (by decide +kernel) rfl, tin 7 (by decide +kernel) rfl, by decide +kernel, by decide +kernel, by decide +kernel⟩
set_option maxRecDepth 100000 in
theorem my_X2_ticksOf : MV yX2_ticksOf cX2_ticksOf 4 (some .int) 1 := ⟨tin 347 rfl rfl, tin 345 (by decide +kernel) rfl, tin 346 (by decide +kernel) rfl, tin 7 (by decide +kernel) rfl, by decide +kernel, by decide +kernel, by decide +kernel⟩
set_option maxRecDepth 100000 in
theorem my_X3_search : MV yX3_search cX3_search 4 none 2 := ⟨tin 482 rfl rfl, tin 480 (by decide +kernel) rfl, tin 481 (by decide +kernel) rfl, tin 8 (by decide +kernel) rfl, by decide +kernel, by decide +kernel, by decide +kernel⟩
set_option maxRecDepth 100000 in
theorem my_X3_searchAllOf : MV yX3_searchAllOf cX3_searchAllOf 7 none 3 := ⟨tin 486 rfl rfl, tin 485 (by decide +kernel) rfl, tsl 10 (by decide +kernel) rfl, tin 8 (by decide +kernel) rfl, by decide +kernel, by decide +kernel, by decide +kernel⟩
set_option maxRecDepth 100000 in
theorem my_X3_tryOne : MV yX3_tryOne cX3_tryOne 7 none 5 := ⟨tin 494 rfl rfl, tin 493 (by decide +kernel) rfl, tsl 11 (by decide +kernel) rfl, tin 8 (by decide +kernel) rfl, by decide +kernel, by decide +kernel, by decide +kernel⟩
set_option maxRecDepth 100000 in
theorem my_X3_mayMove : MS yX3_mayMove cX3_mayMove 4 (some .boolean) 3 := ⟨tin 497 rfl rfl, tin 496 (by decide +kernel) rfl, tin 8 (by decide +kernel) rfl, by decide +kernel, by decide +kernel, by decide +kernel⟩
set_option maxRecDepth 100000 in
theorem my_X4_isFull : MV yX4_isFull cX4_isFull 1 (some .boolean) 0 := ⟨tin 343 rfl rfl, tin 341 (by decide +kernel) rfl, tin 342 (by decide +kernel) rfl, tin 3 (by decide +kernel) rfl, by decide +kernel, by decide +kernel, by decide +kernel⟩
set_option maxRecDepth 100000 in
theorem my_X4_add : MV yX4_add cX4_add 6 none 4 := ⟨tin 339 rfl rfl, tin 337 (by decide +kernel) rfl, tin 338 (by decide +kernel) rfl, tin 3 (by decide +kernel) rfl, by decide +kernel, by decide +kernel, by decide +kernel⟩
set_option maxRecDepth 100000 in
theorem my_X4_addAll : MV yX4_addAll cX4_addAll 4 none 1 := ⟨tin 584 rfl rfl, tin 582 (by decide +kernel) rfl, tin 583 (by decide +kernel) rfl, tin 3 (by decide +kernel) rfl, by decide +kernel, by decide +kernel, by decide +kernel⟩
set_option maxRecDepth 100000 in
theorem my_X4_cellOr : MV yX4_cellOr cX4_cellOr 4 (some .int) 3 := ⟨tin 351 rfl rfl, tin 349 (by decide +kernel) rfl, tin 350 (by decide +kernel) rfl, tin 3 (by decide +kernel) rfl, by decide +kernel, by decide +kernel, by decide +kernel⟩
set_option maxRecDepth 100000 in
theorem my_X4_moveRow : MV yX4_moveRow cX4_moveRow 3 none 2 := ⟨tin 523 rfl rfl, tin 521 (by decide +kernel) rfl, tin 522 (by decide +kernel) rfl, tin 3 (by decide +kernel) rfl, by decide +kernel, by decide +kernel, by decide +kernel⟩
set_option maxRecDepth 100000 in
theorem my_X4_cutTo : MV yX4_cutTo cX4_cutTo 2 none 1 := ⟨tin 106 rfl rfl, tin 104 (by decide +kernel) rfl, tin 105 (by decide +kernel) rfl, tin 3 (by decide +kernel) rfl, by decide +kernel, by decide +kernel, by decide +kernel⟩
set_option maxRecDepth 100000 in
theorem my_X4_dropFirst : MV yX4_dropFirst cX4_dropFirst 2 none 0 := ⟨tin 566 rfl rfl, tin 564 (by decide +kernel) rfl, tin 565 (by decide +kernel) rfl, tin 3 (by decide +kernel) rfl, by decide +kernel, by decide +kernel, by decide +kernel⟩
set_option maxRecDepth 100000 in
theorem my_X4_greatestOr : MV yX4_greatestOr cX4_greatestOr 5 (some .int) 2 := ⟨tin 610 rfl rfl, tin 608 (by decide +kernel) rfl, tin 609 (by decide +kernel) rfl, tin 3 (by decide +kernel) rfl, by decide +kernel, by decide +kernel, by decide +kernel⟩
set_option maxRecDepth 100000 in
theorem my_X4_leastOr : MV yX4_leastOr cX4_leastOr 5 (some .int) 2 := ⟨tin 615 rfl rfl, tin 613 (by decide +kernel) rfl, tin 614 (by decide +kernel) rfl, tin 3 (by decide +kernel) rfl, by decide +kernel, by decide +kernel, by decide +kernel⟩
set_option maxRecDepth 100000 in
theorem my_X4_totalOr : MV yX4_totalOr cX4_totalOr 5 (some .int) 2 := ⟨tin 620 rfl rfl, tin 618 (by decide +kernel) rfl, tin 619 (by decide +kernel) rfl, tin 3 (by decide +kernel) rfl, by decide +kernel, by decide +kernel, by decide +kernel⟩
set_option maxRecDepth 100000 in
theorem my_X5_append : MV yX5_append cX5_append 2 none 1 := ⟨tin 628 rfl rfl, tin 626 (by decide +kernel) rfl, tin 627 (by decide +kernel) rfl, tin 9 (by decide +kernel) rfl, by decide +kernel, by decide +kernel, by decide +kernel⟩
set_option maxRecDepth 100000 in
theorem my_X5_faultOfWishes : MV yX5_faultOfWishes cX5_faultOfWishes 4 (some .int) 2 := ⟨tin 640 rfl rfl, tin 638 (by decide +kernel) rfl, tin 639 (by decide +kernel) rfl, tin 9 (by decide +kernel) rfl, by decide +kernel, by decide +kernel, by decide +kernel⟩
set_option maxRecDepth 100000 in
theorem my_X5_readWish : MV yX5_readWish cX5_readWish 6 none 2 := ⟨tin 653 rfl rfl, tin 652 (by decide +kernel) rfl, tsl 21 (by decide +kernel) rfl, tin 9 (by decide +kernel) rfl, by decide +kernel, by decide +kernel, by decide +kernel⟩
set_option maxRecDepth 100000 in
theorem my_X5_readEnd : MV yX5_readEnd cX5_readEnd 1 (some .boolean) 0 := ⟨tin 675 rfl rfl, tin 674 (by decide +kernel) rfl, tsl 26 (by decide +kernel) rfl, tin 9 (by decide +kernel) rfl, by decide +kernel, by decide +kernel, by decide +kernel⟩
set_option maxRecDepth 100000 in
theorem my_X5_readWant : MV yX5_readWant cX5_readWant 3 (some .int) 0 := ⟨tin 662 rfl rfl, tin 661 (by decide +kernel) rfl, tsl 23 (by decide +kernel) rfl, tin 9 (by decide +kernel) rfl, by decide +kernel, by decide +kernel, by decide +kernel⟩
set_option maxRecDepth 100000 in
theorem my_X5_readPeriod : MV yX5_readPeriod cX5_readPeriod 2 (some .int) 1 := ⟨tin 671 rfl rfl, tin 670 (by decide +kernel) rfl, tsl 25 (by decide +kernel) rfl, tin 9 (by decide +kernel) rfl, by decide +kernel, by decide +kernel, by decide +kernel⟩
set_option maxRecDepth 100000 in
theorem my_X5_readNumber : MV yX5_readNumber cX5_readNumber 5 (some .int) 1 := ⟨tin 666 rfl rfl, tin 665 (by decide +kernel) rfl, tsl 24 (by decide +kernel) rfl, tin 9 (by decide +kernel) rfl, by decide +kernel, by decide +kernel, by decide +kernel⟩
set_option maxRecDepth 100000 in
theorem my_X5_skipBlanks : MV yX5_skipBlanks cX5_skipBlanks 1 none 0 := ⟨tin 645 rfl rfl, tin 644 (by decide +kernel) rfl, tsl 19 (by decide +kernel) rfl, tin 9 (by decide +kernel) rfl, by decide +kernel, by decide +kernel, by decide +kernel⟩
set_option maxRecDepth 100000 in
theorem my_X5_byteHere : MV yX5_byteHere cX5_byteHere 1 (some .int) 0 := ⟨tin 649 rfl rfl, tin 648 (by decide +kernel) rfl, tsl 20 (by decide +kernel) rfl, tin 9 (by decide +kernel) rfl, by decide +kernel, by decide +kernel, by decide +kernel⟩
set_option maxRecDepth 100000 in
theorem my_X5_failAt : MV yX5_failAt cX5_failAt 2 none 1 := ⟨tin 658 rfl rfl, tin 657 (by decide +kernel) rfl, tsl 22 (by decide +kernel) rfl, tin 9 (by decide +kernel) rfl, by decide +kernel, by decide +kernel, by decide +kernel⟩
set_option maxRecDepth 100000 in
theorem my_X6_sets : MV yX6_sets cX6_sets 4 (some .int) 2 := ⟨tin 250 rfl rfl, tin 248 (by decide +kernel) rfl, tin 249 (by decide +kernel) rfl, tin 1 (by decide +kernel) rfl, by decide +kernel, by decide +kernel, by decide +kernel⟩
set_option maxRecDepth 100000 in
theorem my_X6_leg : MV yX6_leg cX6_leg 7 (some .int) 3 := ⟨tin 265 rfl rfl, tin 263 (by decide +kernel) rfl, tin 264 (by decide +kernel) rfl, tin 1 (by decide +kernel) rfl, by decide +kernel, by decide +kernel, by decide +kernel⟩
set_option maxRecDepth 100000 in
theorem my_X6_anew : MV yX6_anew cX6_anew 2 (some .int) 0 := ⟨tin 272 rfl rfl, tin 270 (by decide +kernel) rfl, tin 271 (by decide +kernel) rfl, tin 1 (by decide +kernel) rfl, by decide +kernel, by decide +kernel, by decide +kernel⟩
set_option maxRecDepth 100000 in
theorem my_X6_draw : MV yX6_draw cX6_draw 5 (some .int) 1 := ⟨tin 278 rfl rfl, tin 276 (by decide +kernel) rfl, tin 277 (by decide +kernel) rfl, tin 1 (by decide +kernel) rfl, by decide +kernel, by decide +kernel, by decide +kernel⟩
set_option maxRecDepth 100000 in
theorem my_X6_plan : MV yX6_plan cX6_plan 2 (some .int) 1 := ⟨tin 317 rfl rfl, tin 315 (by decide +kernel) rfl, tin 316 (by decide +kernel) rfl, tin 1 (by decide +kernel) rfl, by decide +kernel, by decide +kernel, by decide +kernel⟩
set_option maxRecDepth 100000 in
theorem my_X6_of : MV yX6_of cX6_of 4 (some .int) 2 := ⟨tin 356 rfl rfl, tin 354 (by decide +kernel) rfl, tin 355 (by decide +kernel) rfl, tin 1 (by decide +kernel) rfl, by decide +kernel, by decide +kernel, by decide +kernel⟩
set_option maxRecDepth 100000 in
theorem my_X6_at : MV yX6_at cX6_at 5 (some .int) 3 := ⟨tin 387 rfl rfl, tin 385 (by decide +kernel) rfl, tin 386 (by decide +kernel) rfl, tin 1 (by decide +kernel) rfl, by decide +kernel, by decide +kernel, by decide +kernel⟩
set_option maxRecDepth 100000 in
theorem my_X6_run : MV yX6_run cX6_run 3 (some .int) 2 := ⟨tin 409 rfl rfl, tin 407 (by decide +kernel) rfl, tin 408 (by decide +kernel) rfl, tin 1 (by decide +kernel) rfl, by decide +kernel, by decide +kernel, by decide +kernel⟩
set_option maxRecDepth 100000 in
theorem my_X6_seen : MV yX6_seen cX6_seen 2 (some .int) 1 := ⟨tin 414 rfl rfl, tin 412 (by decide +kernel) rfl, tin 413 (by decide +kernel) rfl, tin 1 (by decide +kernel) rfl, by decide +kernel, by decide +kernel, by decide +kernel⟩
set_option maxRecDepth 100000 in
theorem my_X6_told : MV yX6_told cX6_told 3 (some .int) 1 := ⟨tin 428 rfl rfl, tin 426 (by decide +kernel) rfl, tin 427 (by decide +kernel) rfl, tin 1 (by decide +kernel) rfl, by decide +kernel, by decide +kernel, by decide +kernel⟩
set_option maxRecDepth 100000 in
theorem my_X6_both : MV yX6_both cX6_both 4 (some .int) 0 := ⟨tin 440 rfl rfl, tin 438 (by decide +kernel) rfl, tin 439 (by decide +kernel) rfl, tin 1 (by decide +kernel) rfl, by decide +kernel, by decide +kernel, by decide +kernel⟩
set_option maxRecDepth 100000 in
theorem my_X6_off : MV yX6_off cX6_off 3 (some .int) 1 := ⟨tin 444 rfl rfl, tin 442 (by decide +kernel) rfl, tin 443 (by decide +kernel) rfl, tin 1 (by decide +kernel) rfl, by decide +kernel, by decide +kernel, by decide +kernel⟩
set_option maxRecDepth 100000 in
theorem my_X6_dies : MV yX6_dies cX6_dies 2 (some .int) 1 := ⟨tin 448 rfl rfl, tin 446 (by decide +kernel) rfl, tin 447 (by decide +kernel) rfl, tin 1 (by decide +kernel) rfl, by decide +kernel, by decide +kernel, by decide +kernel⟩
set_option maxRecDepth 100000 in
theorem my_X6_event : MV yX6_event cX6_event 3 (some .int) 2 := ⟨tin 456 rfl rfl, tin 454 (by decide +kernel) rfl, tin 455 (by decide +kernel) rfl, tin 1 (by decide +kernel) rfl, by decide +kernel, by decide +kernel, by decide +kernel⟩
set_option maxRecDepth 100000 in
theorem my_X6_events : MV yX6_events cX6_events 1 (some .int) 0 := ⟨tin 474 rfl rfl, tin 472 (by decide +kernel) rfl, tin 473 (by decide +kernel) rfl, tin 1 (by decide +kernel) rfl, by decide +kernel, by decide +kernel, by decide +kernel⟩
set_option maxRecDepth 100000 in
theorem my_X6_shift : MV yX6_shift cX6_shift 2 (some .int) 1 := ⟨tin 478 rfl rfl, tin 476 (by decide +kernel) rfl, tin 477 (by decide +kernel) rfl, tin 1 (by decide +kernel) rfl, by decide +kernel, by decide +kernel, by decide +kernel⟩
set_option maxRecDepth 100000 in
theorem my_X6_wish : MV yX6_wish cX6_wish 4 (some .int) 3 := ⟨tin 504 rfl rfl, tin 502 (by decide +kernel) rfl, tin 503 (by decide +kernel) rfl, tin 1 (by decide +kernel) rfl, by decide +kernel, by decide +kernel, by decide +kernel⟩
set_option maxRecDepth 100000 in
theorem my_X6_unwish : MV yX6_unwish cX6_unwish 2 (some .int) 1 := ⟨tin 514 rfl rfl, tin 512 (by decide +kernel) rfl, tin 513 (by decide +kernel) rfl, tin 1 (by decide +kernel) rfl, by decide +kernel, by decide +kernel, by decide +kernel⟩
set_option maxRecDepth 100000 in
theorem my_X6_wished : MV yX6_wished cX6_wished 3 (some .int) 2 := ⟨tin 528 rfl rfl, tin 526 (by decide +kernel) rfl, tin 527 (by decide +kernel) rfl, tin 1 (by decide +kernel) rfl, by decide +kernel, by decide +kernel, by decide +kernel⟩
set_option maxRecDepth 100000 in
theorem my_X6_steps : MV yX6_steps cX6_steps 5 (some .int) 1 := ⟨tin 532 rfl rfl, tin 530 (by decide +kernel) rfl, tin 531 (by decide +kernel) rfl, tin 1 (by decide +kernel) rfl, by decide +kernel, by decide +kernel, by decide +kernel⟩
set_option maxRecDepth 100000 in
theorem my_X6_settles : MV yX6_settles cX6_settles 2 (some .int) 1 := ⟨tin 572 rfl rfl, tin 570 (by decide +kernel) rfl, tin 571 (by decide +kernel) rfl, tin 1 (by decide +kernel) rfl, by decide +kernel, by decide +kernel, by decide +kernel⟩
set_option maxRecDepth 100000 in
theorem my_X6_tunes : MV yX6_tunes cX6_tunes 6 (some .int) 1 := ⟨tin 594 rfl rfl, tin 592 (by decide +kernel) rfl, tin 593 (by decide +kernel) rfl, tin 1 (by decide +kernel) rfl, by decide +kernel, by decide +kernel, by decide +kernel⟩
set_option maxRecDepth 100000 in
theorem my_X6_state : MV yX6_state cX6_state 3 (some .int) 2 := ⟨tin 598 rfl rfl, tin 596 (by decide +kernel) rfl, tin 597 (by decide +kernel) rfl, tin 1 (by decide +kernel) rfl, by decide +kernel, by decide +kernel, by decide +kernel⟩
set_option maxRecDepth 100000 in
theorem my_X6_memory : MV yX6_memory cX6_memory 3 (some .int) 2 := ⟨tin 602 rfl rfl, tin 600 (by decide +kernel) rfl, tin 601 (by decide +kernel) rfl, tin 1 (by decide +kernel) rfl, by decide +kernel, by decide +kernel, by decide +kernel⟩
set_option maxRecDepth 100000 in
theorem my_X6_over : MV yX6_over cX6_over 3 (some .int) 2 := ⟨tin 606 rfl rfl, tin 604 (by decide +kernel) rfl, tin 605 (by decide +kernel) rfl, tin 1 (by decide +kernel) rfl, by decide +kernel, by decide +kernel, by decide +kernel⟩
set_option maxRecDepth 100000 in
theorem my_X6_type : MV yX6_type cX6_type 2 (some .int) 1 := ⟨tin 624 rfl rfl, tin 622 (by decide +kernel) rfl, tin 623 (by decide +kernel) rfl, tin 1 (by decide +kernel) rfl, by decide +kernel, by decide +kernel, by decide +kernel⟩
set_option maxRecDepth 100000 in
theorem my_X6_clear : MV yX6_clear cX6_clear 2 (some .int) 0 := ⟨tin 632 rfl rfl, tin 630 (by decide +kernel) rfl, tin 631 (by decide +kernel) rfl, tin 1 (by decide +kernel) rfl, by decide +kernel, by decide +kernel, by decide +kernel⟩
set_option maxRecDepth 100000 in
theorem my_X6_reads : MV yX6_reads cX6_reads 3 (some .int) 0 := ⟨tin 636 rfl rfl, tin 634 (by decide +kernel) rfl, tin 635 (by decide +kernel) rfl, tin 1 (by decide +kernel) rfl, by decide +kernel, by decide +kernel, by decide +kernel⟩
set_option maxRecDepth 100000 in
theorem my_X6_count : MV yX6_count cX6_count 2 (some .int) 1 := ⟨tin 681 rfl rfl, tin 679 (by decide +kernel) rfl, tin 680 (by decide +kernel) rfl, tin 1 (by decide +kernel) rfl, by decide +kernel, by decide +kernel, by decide +kernel⟩
set_option maxRecDepth 100000 in
theorem my_X6_digest : MV yX6_digest cX6_digest 6 (some .long) 0 := ⟨tin 693 rfl rfl, tin 691 (by decide +kernel) rfl, tin 692 (by decide +kernel) rfl, tin 1 (by decide +kernel) rfl, by decide +kernel, by decide +kernel, by decide +kernel⟩
set_option maxRecDepth 100000 in
theorem my_X6_within : MS yX6_within cX6_within 3 (some .boolean) 3 := ⟨tin 253 rfl rfl, tin 252 (by decide +kernel) rfl, tin 1 (by decide +kernel) rfl, by decide +kernel, by decide +kernel, by decide +kernel⟩
set_option maxRecDepth 100000 in
theorem my_X6_isLeg : MS yX6_isLeg cX6_isLeg 1 (some .boolean) 1 := ⟨tin 268 rfl rfl, tin 267 (by decide +kernel) rfl, tin 1 (by decide +kernel) rfl, by decide +kernel, by decide +kernel, by decide +kernel⟩
set_option maxRecDepth 100000 in
theorem my_X6_pulledWithin : MS yX6_pulledWithin cX6_pulledWithin 3 (some .int) 3 := ⟨tin 109 rfl rfl, tin 108 (by decide +kernel) rfl, tin 1 (by decide +kernel) rfl, by decide +kernel, by decide +kernel, by decide +kernel⟩
set_option maxRecDepth 100000 in
theorem my_X6_greatestOf : MS yX6_greatestOf cX6_greatestOf 1 (some .int) 1 := ⟨tin 301 rfl rfl, tin 300 (by decide +kernel) rfl, tin 1 (by decide +kernel) rfl, by decide +kernel, by decide +kernel, by decide +kernel⟩
set_option maxRecDepth 100000 in
theorem my_X6_leastOf : MS yX6_leastOf cX6_leastOf 1 (some .int) 1 := ⟨tin 304 rfl rfl, tin 303 (by decide +kernel) rfl, tin 1 (by decide +kernel) rfl, by decide +kernel, by decide +kernel, by decide +kernel⟩
set_option maxRecDepth 100000 in
theorem my_X6_refuseBad : MV yX6_refuseBad cX6_refuseBad 1 (some .int) 0 := ⟨tin 261 rfl rfl, tin 260 (by decide +kernel) rfl, tsl 0 (by decide +kernel) rfl, tin 1 (by decide +kernel) rfl, by decide +kernel, by decide +kernel, by decide +kernel⟩
set_option maxRecDepth 100000 in
theorem my_X6_refuseFull : MV yX6_refuseFull cX6_refuseFull 1 (some .int) 0 := ⟨tin 509 rfl rfl, tin 508 (by decide +kernel) rfl, tsl 12 (by decide +kernel) rfl, tin 1 (by decide +kernel) rfl, by decide +kernel, by decide +kernel, by decide +kernel⟩
set_option maxRecDepth 100000 in
theorem my_X6_planNow : MV yX6_planNow cX6_planNow 1 (some (.object "DriveTicks$Plan")) 0 := ⟨tin 290 rfl rfl, tin 289 (by decide +kernel) rfl, tsl 1 (by decide +kernel) rfl, tin 1 (by decide +kernel) rfl, by decide +kernel, by decide +kernel, by decide +kernel⟩
set_option maxRecDepth 100000 in
theorem my_X6_runsNow : MV yX6_runsNow cX6_runsNow 2 (some (.object "DriveTicks$Runs")) 0 := ⟨tin 321 rfl rfl, tin 320 (by decide +kernel) rfl, tsl 4 (by decide +kernel) rfl, tin 1 (by decide +kernel) rfl, by decide +kernel, by decide +kernel, by decide +kernel⟩
set_option maxRecDepth 100000 in
theorem my_X6_eventsNow : MV yX6_eventsNow cX6_eventsNow 1 (some (.object "DriveTicks$Table")) 0 := ⟨tin 460 rfl rfl, tin 459 (by decide +kernel) rfl, tsl 8 (by decide +kernel) rfl, tin 1 (by decide +kernel) rfl, by decide +kernel, by decide +kernel, by decide +kernel⟩
set_option maxRecDepth 100000 in
theorem my_X6_currentByTheOthers : MV yX6_currentByTheOthers cX6_currentByTheOthers 4 (some .int) 1 := ⟨tin 436 rfl rfl, tin 435 (by decide +kernel) rfl, tsl 7 (by decide +kernel) rfl, tin 1 (by decide +kernel) rfl, by decide +kernel, by decide +kernel, by decide +kernel⟩
set_option maxRecDepth 100000 in
theorem my_X6_remember : MV yX6_remember cX6_remember 2 none 1 := ⟨tin 562 rfl rfl, tin 561 (by decide +kernel) rfl, tsl 17 (by decide +kernel) rfl, tin 1 (by decide +kernel) rfl, by decide +kernel, by decide +kernel, by decide +kernel⟩
set_option maxRecDepth 100000 in
theorem my_X6_stepsToSettle : MV yX6_stepsToSettle cX6_stepsToSettle 5 (some .int) 3 := ⟨tin 576 rfl rfl, tin 575 (by decide +kernel) rfl, tsl 18 (by decide +kernel) rfl, tin 1 (by decide +kernel) rfl, by decide +kernel, by decide +kernel, by decide +kernel⟩
set_option maxRecDepth 100000 in
theorem my_X6_counted : MV yX6_counted cX6_counted 2 (some .int) 1 := ⟨tin 685 rfl rfl, tin 684 (by decide +kernel) rfl, tsl 27 (by decide +kernel) rfl, tin 1 (by decide +kernel) rfl, by decide +kernel, by decide +kernel, by decide +kernel⟩
set_option maxRecDepth 100000 in
theorem my_X6_countedSetting : MV yX6_countedSetting cX6_countedSetting 2 (some .int) 1 := ⟨tin 689 rfl rfl, tin 688 (by decide +kernel) rfl, tsl 28 (by decide +kernel) rfl, tin 1 (by decide +kernel) rfl, by decide +kernel, by decide +kernel, by decide +kernel⟩
set_option maxRecDepth 100000 in
theorem my_X7_bad : MV yX7_bad cX7_bad 1 (some .int) 0 := ⟨tin 831 rfl rfl, tin 830 (by decide +kernel) rfl, tsl 30 (by decide +kernel) rfl, tin 10 (by decide +kernel) rfl, by decide +kernel, by decide +kernel, by decide +kernel⟩
set_option maxRecDepth 100000 in
theorem my_X7_full : MV yX7_full cX7_full 1 (some .int) 0 := ⟨tin 1002 rfl rfl, tin 1001 (by decide +kernel) rfl, tsl 50 (by decide +kernel) rfl, tin 10 (by decide +kernel) rfl, by decide +kernel, by decide +kernel, by decide +kernel⟩
set_option maxRecDepth 100000 in
theorem my_X7_in : MS yX7_in cX7_in 3 (some .boolean) 3 := ⟨tin 824 rfl rfl, tin 823 (by decide +kernel) rfl, tin 10 (by decide +kernel) rfl, by decide +kernel, by decide +kernel, by decide +kernel⟩
set_option maxRecDepth 100000 in
theorem my_X7_within : MS yX7_within cX7_within 2 (some .int) 2 := ⟨tin 1037 rfl rfl, tin 1036 (by decide +kernel) rfl, tin 10 (by decide +kernel) rfl, by decide +kernel, by decide +kernel, by decide +kernel⟩
set_option maxRecDepth 100000 in
theorem my_X7_far : MS yX7_far cX7_far 1 (some .int) 1 := ⟨tin 994 rfl rfl, tin 993 (by decide +kernel) rfl, tin 10 (by decide +kernel) rfl, by decide +kernel, by decide +kernel, by decide +kernel⟩
set_option maxRecDepth 100000 in
theorem my_X7_begins : MV yX7_begins cX7_begins 2 none 0 := ⟨tin 705 rfl rfl, tin 704 (by decide +kernel) rfl, tsl 29 (by decide +kernel) rfl, tin 10 (by decide +kernel) rfl, by decide +kernel, by decide +kernel, by decide +kernel⟩
set_option maxRecDepth 100000 in
theorem my_X7_may : MS yX7_may cX7_may 2 (some .boolean) 2 := ⟨tin 827 rfl rfl, tin 826 (by decide +kernel) rfl, tin 10 (by decide +kernel) rfl, by decide +kernel, by decide +kernel, by decide +kernel⟩
set_option maxRecDepth 100000 in
theorem my_X7_isLeg : MS yX7_isLeg cX7_isLeg 1 (some .boolean) 1 := ⟨tin 838 rfl rfl, tin 837 (by decide +kernel) rfl, tin 10 (by decide +kernel) rfl, by decide +kernel, by decide +kernel, by decide +kernel⟩
set_option maxRecDepth 100000 in
theorem my_X7_sets : MV yX7_sets cX7_sets 4 (some .int) 2 := ⟨tin 821 rfl rfl, tin 819 (by decide +kernel) rfl, tin 820 (by decide +kernel) rfl, tin 10 (by decide +kernel) rfl, by decide +kernel, by decide +kernel, by decide +kernel⟩
set_option maxRecDepth 100000 in
theorem my_X7_leg : MV yX7_leg cX7_leg 5 (some .int) 3 := ⟨tin 835 rfl rfl, tin 833 (by decide +kernel) rfl, tin 834 (by decide +kernel) rfl, tin 10 (by decide +kernel) rfl, by decide +kernel, by decide +kernel, by decide +kernel⟩
set_option maxRecDepth 100000 in
theorem my_X7_anew : MV yX7_anew cX7_anew 2 (some .int) 0 := ⟨tin 842 rfl rfl, tin 840 (by decide +kernel) rfl, tin 841 (by decide +kernel) rfl, tin 10 (by decide +kernel) rfl, by decide +kernel, by decide +kernel, by decide +kernel⟩
set_option maxRecDepth 100000 in
theorem my_X7_draw : MV yX7_draw cX7_draw 5 (some .int) 1 := ⟨tin 846 rfl rfl, tin 844 (by decide +kernel) rfl, tin 845 (by decide +kernel) rfl, tin 10 (by decide +kernel) rfl, by decide +kernel, by decide +kernel, by decide +kernel⟩
set_option maxRecDepth 100000 in
theorem my_X7_greatest : MS yX7_greatest cX7_greatest 2 (some .int) 1 := ⟨tin 861 rfl rfl, tin 860 (by decide +kernel) rfl, tin 10 (by decide +kernel) rfl, by decide +kernel, by decide +kernel, by decide +kernel⟩
set_option maxRecDepth 100000 in
theorem my_X7_least : MS yX7_least cX7_least 2 (some .int) 1 := ⟨tin 864 rfl rfl, tin 863 (by decide +kernel) rfl, tin 10 (by decide +kernel) rfl, by decide +kernel, by decide +kernel, by decide +kernel⟩
set_option maxRecDepth 100000 in
theorem my_X7_setPlan : MV yX7_setPlan cX7_setPlan 5 none 0 := ⟨tin 858 rfl rfl, tin 857 (by decide +kernel) rfl, tsl 31 (by decide +kernel) rfl, tin 10 (by decide +kernel) rfl, by decide +kernel, by decide +kernel, by decide +kernel⟩
set_option maxRecDepth 100000 in
theorem my_X7_bound : MS yX7_bound cX7_bound 2 (some .int) 2 := ⟨tin 867 rfl rfl, tin 866 (by decide +kernel) rfl, tin 10 (by decide +kernel) rfl, by decide +kernel, by decide +kernel, by decide +kernel⟩
set_option maxRecDepth 100000 in
theorem my_X7_wanted : MV yX7_wanted cX7_wanted 3 (some .boolean) 2 := ⟨tin 887 rfl rfl, tin 886 (by decide +kernel) rfl, tsl 35 (by decide +kernel) rfl, tin 10 (by decide +kernel) rfl, by decide +kernel, by decide +kernel, by decide +kernel⟩
set_option maxRecDepth 100000 in
theorem my_X7_wantedAhead : MV yX7_wantedAhead cX7_wantedAhead 5 (some .int) 2 := ⟨tin 911 rfl rfl, tin 910 (by decide +kernel) rfl, tsl 40 (by decide +kernel) rfl, tin 10 (by decide +kernel) rfl, by decide +kernel, by decide +kernel, by decide +kernel⟩
set_option maxRecDepth 100000 in
theorem my_X7_upper : MV yX7_upper cX7_upper 3 (some .boolean) 2 := ⟨tin 919 rfl rfl, tin 918 (by decide +kernel) rfl, tsl 42 (by decide +kernel) rfl, tin 10 (by decide +kernel) rfl, by decide +kernel, by decide +kernel, by decide +kernel⟩
set_option maxRecDepth 100000 in
theorem my_X7_lower : MV yX7_lower cX7_lower 3 (some .boolean) 2 := ⟨tin 923 rfl rfl, tin 922 (by decide +kernel) rfl, tsl 43 (by decide +kernel) rfl, tin 10 (by decide +kernel) rfl, by decide +kernel, by decide +kernel, by decide +kernel⟩
set_option maxRecDepth 100000 in
theorem my_X7_gives : MV yX7_gives cX7_gives 4 (some .int) 2 := ⟨tin 907 rfl rfl, tin 906 (by decide +kernel) rfl, tsl 39 (by decide +kernel) rfl, tin 10 (by decide +kernel) rfl, by decide +kernel, by decide +kernel, by decide +kernel⟩
set_option maxRecDepth 100000 in
theorem my_X7_meanOf : MV yX7_meanOf cX7_meanOf 4 (some .int) 1 := ⟨tin 903 rfl rfl, tin 902 (by decide +kernel) rfl, tsl 38 (by decide +kernel) rfl, tin 10 (by decide +kernel) rfl, by decide +kernel, by decide +kernel, by decide +kernel⟩
set_option maxRecDepth 100000 in
theorem my_X7_patternAt : MV yX7_patternAt cX7_patternAt 2 (some .int) 1 := ⟨tin 883 rfl rfl, tin 882 (by decide +kernel) rfl, tsl 34 (by decide +kernel) rfl, tin 10 (by decide +kernel) rfl, by decide +kernel, by decide +kernel, by decide +kernel⟩
set_option maxRecDepth 100000 in
theorem my_X7_setRuns : MV yX7_setRuns cX7_setRuns 2 none 0 := ⟨tin 891 rfl rfl, tin 890 (by decide +kernel) rfl, tsl 36 (by decide +kernel) rfl, tin 10 (by decide +kernel) rfl, by decide +kernel, by decide +kernel, by decide +kernel⟩
set_option maxRecDepth 100000 in
theorem my_X7_tells : MV yX7_tells cX7_tells 3 (some .int) 1 := ⟨tin 935 rfl rfl, tin 934 (by decide +kernel) rfl, tsl 44 (by decide +kernel) rfl, tin 10 (by decide +kernel) rfl, by decide +kernel, by decide +kernel, by decide +kernel⟩
set_option maxRecDepth 100000 in
theorem my_X7_seenSet : MV yX7_seenSet cX7_seenSet 4 (some .int) 0 := ⟨tin 943 rfl rfl, tin 942 (by decide +kernel) rfl, tsl 45 (by decide +kernel) rfl, tin 10 (by decide +kernel) rfl, by decide +kernel, by decide +kernel, by decide +kernel⟩
set_option maxRecDepth 100000 in
theorem my_X7_bits : MS yX7_bits cX7_bits 1 (some .int) 1 := ⟨tin 946 rfl rfl, tin 945 (by decide +kernel) rfl, tin 10 (by decide +kernel) rfl, by decide +kernel, by decide +kernel, by decide +kernel⟩
set_option maxRecDepth 100000 in
theorem my_X7_ticksOf : MV yX7_ticksOf cX7_ticksOf 4 (some .int) 1 := ⟨tin 879 rfl rfl, tin 878 (by decide +kernel) rfl, tsl 33 (by decide +kernel) rfl, tin 10 (by decide +kernel) rfl, by decide +kernel, by decide +kernel, by decide +kernel⟩
set_option maxRecDepth 100000 in
theorem my_X7_plansBy : MV yX7_plansBy cX7_plansBy 2 (some .int) 1 := ⟨tin 875 rfl rfl, tin 874 (by decide +kernel) rfl, tsl 32 (by decide +kernel) rfl, tin 10 (by decide +kernel) rfl, by decide +kernel, by decide +kernel, by decide +kernel⟩
set_option maxRecDepth 100000 in
theorem my_X7_plan : MV yX7_plan cX7_plan 2 (some .int) 1 := ⟨tin 871 rfl rfl, tin 869 (by decide +kernel) rfl, tin 870 (by decide +kernel) rfl, tin 10 (by decide +kernel) rfl, by decide +kernel, by decide +kernel, by decide +kernel⟩
set_option maxRecDepth 100000 in
theorem my_X7_gateMany : MV yX7_gateMany cX7_gateMany 9 (some .int) 2 := ⟨tin 915 rfl rfl, tin 914 (by decide +kernel) rfl, tsl 41 (by decide +kernel) rfl, tin 10 (by decide +kernel) rfl, by decide +kernel, by decide +kernel, by decide +kernel⟩
set_option maxRecDepth 100000 in
theorem my_X7_ofBy : MV yX7_ofBy cX7_ofBy 3 (some .int) 2 := ⟨tin 899 rfl rfl, tin 898 (by decide +kernel) rfl, tsl 37 (by decide +kernel) rfl, tin 10 (by decide +kernel) rfl, by decide +kernel, by decide +kernel, by decide +kernel⟩
set_option maxRecDepth 100000 in
theorem my_X7_of : MV yX7_of cX7_of 3 (some .int) 2 := ⟨tin 895 rfl rfl, tin 893 (by decide +kernel) rfl, tin 894 (by decide +kernel) rfl, tin 10 (by decide +kernel) rfl, by decide +kernel, by decide +kernel, by decide +kernel⟩
set_option maxRecDepth 100000 in
theorem my_X7_at : MV yX7_at cX7_at 5 (some .int) 3 := ⟨tin 927 rfl rfl, tin 925 (by decide +kernel) rfl, tin 926 (by decide +kernel) rfl, tin 10 (by decide +kernel) rfl, by decide +kernel, by decide +kernel, by decide +kernel⟩
set_option maxRecDepth 100000 in
theorem my_X7_run : MV yX7_run cX7_run 3 (some .int) 2 := ⟨tin 931 rfl rfl, tin 929 (by decide +kernel) rfl, tin 930 (by decide +kernel) rfl, tin 10 (by decide +kernel) rfl, by decide +kernel, by decide +kernel, by decide +kernel⟩
set_option maxRecDepth 100000 in
theorem my_X7_seen : MV yX7_seen cX7_seen 3 (some .int) 1 := ⟨tin 939 rfl rfl, tin 937 (by decide +kernel) rfl, tin 938 (by decide +kernel) rfl, tin 10 (by decide +kernel) rfl, by decide +kernel, by decide +kernel, by decide +kernel⟩
set_option maxRecDepth 100000 in
theorem my_X7_told : MV yX7_told cX7_told 3 (some .int) 1 := ⟨tin 950 rfl rfl, tin 948 (by decide +kernel) rfl, tin 949 (by decide +kernel) rfl, tin 10 (by decide +kernel) rfl, by decide +kernel, by decide +kernel, by decide +kernel⟩
set_option maxRecDepth 100000 in
theorem my_X7_both : MV yX7_both cX7_both 4 (some .int) 0 := ⟨tin 954 rfl rfl, tin 952 (by decide +kernel) rfl, tin 953 (by decide +kernel) rfl, tin 10 (by decide +kernel) rfl, by decide +kernel, by decide +kernel, by decide +kernel⟩
set_option maxRecDepth 100000 in
theorem my_X7_off : MV yX7_off cX7_off 2 (some .int) 1 := ⟨tin 958 rfl rfl, tin 956 (by decide +kernel) rfl, tin 957 (by decide +kernel) rfl, tin 10 (by decide +kernel) rfl, by decide +kernel, by decide +kernel, by decide +kernel⟩
set_option maxRecDepth 100000 in
theorem my_X7_dies : MV yX7_dies cX7_dies 6 (some .int) 1 := ⟨tin 962 rfl rfl, tin 960 (by decide +kernel) rfl, tin 961 (by decide +kernel) rfl, tin 10 (by decide +kernel) rfl, by decide +kernel, by decide +kernel, by decide +kernel⟩
set_option maxRecDepth 100000 in
theorem my_X7_comesEvent : MV yX7_comesEvent cX7_comesEvent 7 none 6 := ⟨tin 974 rfl rfl, tin 973 (by decide +kernel) rfl, tsl 47 (by decide +kernel) rfl, tin 10 (by decide +kernel) rfl, by decide +kernel, by decide +kernel, by decide +kernel⟩
set_option maxRecDepth 100000 in
theorem my_X7_setEvents : MV yX7_setEvents cX7_setEvents 5 none 1 := ⟨tin 970 rfl rfl, tin 969 (by decide +kernel) rfl, tsl 46 (by decide +kernel) rfl, tin 10 (by decide +kernel) rfl, by decide +kernel, by decide +kernel, by decide +kernel⟩
set_option maxRecDepth 100000 in
theorem my_X7_event : MV yX7_event cX7_event 3 (some .int) 2 := ⟨tin 966 rfl rfl, tin 964 (by decide +kernel) rfl, tin 965 (by decide +kernel) rfl, tin 10 (by decide +kernel) rfl, by decide +kernel, by decide +kernel, by decide +kernel⟩
set_option maxRecDepth 100000 in
theorem my_X7_events : MV yX7_events cX7_events 1 (some .int) 0 := ⟨tin 978 rfl rfl, tin 976 (by decide +kernel) rfl, tin 977 (by decide +kernel) rfl, tin 10 (by decide +kernel) rfl, by decide +kernel, by decide +kernel, by decide +kernel⟩
set_option maxRecDepth 100000 in
theorem my_X7_mayShift : MV yX7_mayShift cX7_mayShift 3 (some .boolean) 2 := ⟨tin 991 rfl rfl, tin 990 (by decide +kernel) rfl, tsl 49 (by decide +kernel) rfl, tin 10 (by decide +kernel) rfl, by decide +kernel, by decide +kernel, by decide +kernel⟩
set_option maxRecDepth 100000 in
theorem my_X7_tries : MV yX7_tries cX7_tries 5 none 3 := ⟨tin 987 rfl rfl, tin 986 (by decide +kernel) rfl, tsl 48 (by decide +kernel) rfl, tin 10 (by decide +kernel) rfl, by decide +kernel, by decide +kernel, by decide +kernel⟩
set_option maxRecDepth 100000 in
theorem my_X7_shift : MV yX7_shift cX7_shift 5 (some .int) 1 := ⟨tin 982 rfl rfl, tin 980 (by decide +kernel) rfl, tin 981 (by decide +kernel) rfl, tin 10 (by decide +kernel) rfl, by decide +kernel, by decide +kernel, by decide +kernel⟩
set_option maxRecDepth 100000 in
theorem my_X7_comesWish : MV yX7_comesWish cX7_comesWish 4 none 3 := ⟨tin 1006 rfl rfl, tin 1005 (by decide +kernel) rfl, tsl 51 (by decide +kernel) rfl, tin 10 (by decide +kernel) rfl, by decide +kernel, by decide +kernel, by decide +kernel⟩
set_option maxRecDepth 100000 in
theorem my_X7_goesWish : MV yX7_goesWish cX7_goesWish 3 none 1 := ⟨tin 1014 rfl rfl, tin 1013 (by decide +kernel) rfl, tsl 52 (by decide +kernel) rfl, tin 10 (by decide +kernel) rfl, by decide +kernel, by decide +kernel, by decide +kernel⟩
set_option maxRecDepth 100000 in
theorem my_X7_wish : MV yX7_wish cX7_wish 4 (some .int) 3 := ⟨tin 998 rfl rfl, tin 996 (by decide +kernel) rfl, tin 997 (by decide +kernel) rfl, tin 10 (by decide +kernel) rfl, by decide +kernel, by decide +kernel, by decide +kernel⟩
set_option maxRecDepth 100000 in
theorem my_X7_unwish : MV yX7_unwish cX7_unwish 4 (some .int) 1 := ⟨tin 1010 rfl rfl, tin 1008 (by decide +kernel) rfl, tin 1009 (by decide +kernel) rfl, tin 10 (by decide +kernel) rfl, by decide +kernel, by decide +kernel, by decide +kernel⟩
set_option maxRecDepth 100000 in
theorem my_X7_wished : MV yX7_wished cX7_wished 3 (some .int) 2 := ⟨tin 1018 rfl rfl, tin 1016 (by decide +kernel) rfl, tin 1017 (by decide +kernel) rfl, tin 10 (by decide +kernel) rfl, by decide +kernel, by decide +kernel, by decide +kernel⟩
set_option maxRecDepth 100000 in
theorem my_X7_comesTrue : MV yX7_comesTrue cX7_comesTrue 2 none 0 := ⟨tin 1030 rfl rfl, tin 1029 (by decide +kernel) rfl, tsl 54 (by decide +kernel) rfl, tin 10 (by decide +kernel) rfl, by decide +kernel, by decide +kernel, by decide +kernel⟩
set_option maxRecDepth 100000 in
theorem my_X7_steers : MV yX7_steers cX7_steers 5 none 0 := ⟨tin 1034 rfl rfl, tin 1033 (by decide +kernel) rfl, tsl 55 (by decide +kernel) rfl, tin 10 (by decide +kernel) rfl, by decide +kernel, by decide +kernel, by decide +kernel⟩
set_option maxRecDepth 100000 in
theorem my_X7_goes : MV yX7_goes cX7_goes 4 (some .boolean) 0 := ⟨tin 1026 rfl rfl, tin 1025 (by decide +kernel) rfl, tsl 53 (by decide +kernel) rfl, tin 10 (by decide +kernel) rfl, by decide +kernel, by decide +kernel, by decide +kernel⟩
set_option maxRecDepth 100000 in
theorem my_X7_remembers : MV yX7_remembers cX7_remembers 3 none 1 := ⟨tin 1041 rfl rfl, tin 1040 (by decide +kernel) rfl, tsl 56 (by decide +kernel) rfl, tin 10 (by decide +kernel) rfl, by decide +kernel, by decide +kernel, by decide +kernel⟩
set_option maxRecDepth 100000 in
theorem my_X7_steps : MV yX7_steps cX7_steps 5 (some .int) 1 := ⟨tin 1022 rfl rfl, tin 1020 (by decide +kernel) rfl, tin 1021 (by decide +kernel) rfl, tin 10 (by decide +kernel) rfl, by decide +kernel, by decide +kernel, by decide +kernel⟩
set_option maxRecDepth 100000 in
theorem my_X7_lays : MV yX7_lays cX7_lays 2 none 0 := ⟨tin 1053 rfl rfl, tin 1052 (by decide +kernel) rfl, tsl 58 (by decide +kernel) rfl, tin 10 (by decide +kernel) rfl, by decide +kernel, by decide +kernel, by decide +kernel⟩
set_option maxRecDepth 100000 in
theorem my_X7_takes : MV yX7_takes cX7_takes 2 none 0 := ⟨tin 1061 rfl rfl, tin 1060 (by decide +kernel) rfl, tsl 60 (by decide +kernel) rfl, tin 10 (by decide +kernel) rfl, by decide +kernel, by decide +kernel, by decide +kernel⟩
set_option maxRecDepth 100000 in
theorem my_X7_isNear : MV yX7_isNear cX7_isNear 4 (some .boolean) 1 := ⟨tin 1057 rfl rfl, tin 1056 (by decide +kernel) rfl, tsl 59 (by decide +kernel) rfl, tin 10 (by decide +kernel) rfl, by decide +kernel, by decide +kernel, by decide +kernel⟩
set_option maxRecDepth 100000 in
theorem my_X7_settlesIn : MV yX7_settlesIn cX7_settlesIn 3 (some .int) 1 := ⟨tin 1049 rfl rfl, tin 1048 (by decide +kernel) rfl, tsl 57 (by decide +kernel) rfl, tin 10 (by decide +kernel) rfl, by decide +kernel, by decide +kernel, by decide +kernel⟩
set_option maxRecDepth 100000 in
theorem my_X7_settles : MV yX7_settles cX7_settles 2 (some .int) 1 := ⟨tin 1045 rfl rfl, tin 1043 (by decide +kernel) rfl, tin 1044 (by decide +kernel) rfl, tin 10 (by decide +kernel) rfl, by decide +kernel, by decide +kernel, by decide +kernel⟩
set_option maxRecDepth 100000 in
theorem my_X7_tunes : MV yX7_tunes cX7_tunes 7 (some .int) 1 := ⟨tin 1065 rfl rfl, tin 1063 (by decide +kernel) rfl, tin 1064 (by decide +kernel) rfl, tin 10 (by decide +kernel) rfl, by decide +kernel, by decide +kernel, by decide +kernel⟩
set_option maxRecDepth 100000 in
theorem my_X7_stateBy : MV yX7_stateBy cX7_stateBy 3 (some .int) 2 := ⟨tin 1073 rfl rfl, tin 1072 (by decide +kernel) rfl, tsl 61 (by decide +kernel) rfl, tin 10 (by decide +kernel) rfl, by decide +kernel, by decide +kernel, by decide +kernel⟩
set_option maxRecDepth 100000 in
theorem my_X7_state : MV yX7_state cX7_state 3 (some .int) 2 := ⟨tin 1069 rfl rfl, tin 1067 (by decide +kernel) rfl, tin 1068 (by decide +kernel) rfl, tin 10 (by decide +kernel) rfl, by decide +kernel, by decide +kernel, by decide +kernel⟩
set_option maxRecDepth 100000 in
theorem my_X7_memory : MV yX7_memory cX7_memory 3 (some .int) 2 := ⟨tin 1077 rfl rfl, tin 1075 (by decide +kernel) rfl, tin 1076 (by decide +kernel) rfl, tin 10 (by decide +kernel) rfl, by decide +kernel, by decide +kernel, by decide +kernel⟩
set_option maxRecDepth 100000 in
theorem my_X7_over : MV yX7_over cX7_over 6 (some .int) 2 := ⟨tin 1081 rfl rfl, tin 1079 (by decide +kernel) rfl, tin 1080 (by decide +kernel) rfl, tin 10 (by decide +kernel) rfl, by decide +kernel, by decide +kernel, by decide +kernel⟩
set_option maxRecDepth 100000 in
theorem my_X7_type : MV yX7_type cX7_type 2 (some .int) 1 := ⟨tin 1085 rfl rfl, tin 1083 (by decide +kernel) rfl, tin 1084 (by decide +kernel) rfl, tin 10 (by decide +kernel) rfl, by decide +kernel, by decide +kernel, by decide +kernel⟩
set_option maxRecDepth 100000 in
theorem my_X7_clear : MV yX7_clear cX7_clear 2 (some .int) 0 := ⟨tin 1089 rfl rfl, tin 1087 (by decide +kernel) rfl, tin 1088 (by decide +kernel) rfl, tin 10 (by decide +kernel) rfl, by decide +kernel, by decide +kernel, by decide +kernel⟩
set_option maxRecDepth 100000 in
theorem my_X7_here : MV yX7_here cX7_here 1 (some .int) 0 := ⟨tin 1105 rfl rfl, tin 1104 (by decide +kernel) rfl, tsl 64 (by decide +kernel) rfl, tin 10 (by decide +kernel) rfl, by decide +kernel, by decide +kernel, by decide +kernel⟩
set_option maxRecDepth 100000 in
theorem my_X7_skips : MV yX7_skips cX7_skips 1 none 0 := ⟨tin 1101 rfl rfl, tin 1100 (by decide +kernel) rfl, tsl 63 (by decide +kernel) rfl, tin 10 (by decide +kernel) rfl, by decide +kernel, by decide +kernel, by decide +kernel⟩
set_option maxRecDepth 100000 in
theorem my_X7_number : MV yX7_number cX7_number 4 (some .boolean) 1 := ⟨tin 1113 rfl rfl, tin 1112 (by decide +kernel) rfl, tsl 66 (by decide +kernel) rfl, tin 10 (by decide +kernel) rfl, by decide +kernel, by decide +kernel, by decide +kernel⟩
set_option maxRecDepth 100000 in
theorem my_X7_readsWish : MV yX7_readsWish cX7_readsWish 6 (some .boolean) 1 := ⟨tin 1109 rfl rfl, tin 1108 (by decide +kernel) rfl, tsl 65 (by decide +kernel) rfl, tin 10 (by decide +kernel) rfl, by decide +kernel, by decide +kernel, by decide +kernel⟩
set_option maxRecDepth 100000 in
theorem my_X7_goesThrough : MV yX7_goesThrough cX7_goesThrough 3 (some .int) 1 := ⟨tin 1097 rfl rfl, tin 1096 (by decide +kernel) rfl, tsl 62 (by decide +kernel) rfl, tin 10 (by decide +kernel) rfl, by decide +kernel, by decide +kernel, by decide +kernel⟩
set_option maxRecDepth 100000 in
theorem my_X7_reads : MV yX7_reads cX7_reads 2 (some .int) 0 := ⟨tin 1093 rfl rfl, tin 1091 (by decide +kernel) rfl, tin 1092 (by decide +kernel) rfl, tin 10 (by decide +kernel) rfl, by decide +kernel, by decide +kernel, by decide +kernel⟩
set_option maxRecDepth 100000 in
theorem my_X7_countBy : MV yX7_countBy cX7_countBy 2 (some .int) 1 := ⟨tin 1121 rfl rfl, tin 1120 (by decide +kernel) rfl, tsl 67 (by decide +kernel) rfl, tin 10 (by decide +kernel) rfl, by decide +kernel, by decide +kernel, by decide +kernel⟩
set_option maxRecDepth 100000 in
theorem my_X7_count : MV yX7_count cX7_count 2 (some .int) 1 := ⟨tin 1117 rfl rfl, tin 1115 (by decide +kernel) rfl, tin 1116 (by decide +kernel) rfl, tin 10 (by decide +kernel) rfl, by decide +kernel, by decide +kernel, by decide +kernel⟩
set_option maxRecDepth 100000 in
theorem my_X7_digest : MV yX7_digest cX7_digest 5 (some .long) 0 := ⟨tin 1125 rfl rfl, tin 1123 (by decide +kernel) rfl, tin 1124 (by decide +kernel) rfl, tin 10 (by decide +kernel) rfl, by decide +kernel, by decide +kernel, by decide +kernel⟩
set_option maxRecDepth 100000 in
theorem my_J6_bitCount_0f7a4 : MS yJ6_bitCount_0f7a4 cJ6_bitCount_0f7a4 1 (some .int) 1 := ⟨tin 421 rfl rfl, tin 420 (by decide +kernel) rfl, tin 11 (by decide +kernel) rfl, by decide +kernel, by decide +kernel, by decide +kernel⟩
theorem kl_X6_56 : Cond.methodLink RX6 56 yX6_within ∈ gT := tin 251 (by decide +kernel) rfl
theorem kl_X6_66 : Cond.methodLink RX6 66 yX6_refuseBad ∈ gT := tin 258 (by decide +kernel) rfl
theorem kl_X6_73 : Cond.methodLink RX6 73 yX6_isLeg ∈ gT := tin 266 (by decide +kernel) rfl
theorem kl_X6_87 : Cond.methodLink RX6 87 yX0_beginAnew ∈ gT := tin 273 (by decide +kernel) rfl
theorem kl_X6_90 : Cond.methodLink RX6 90 yX4_cutTo ∈ gT := tin 274 (by decide +kernel) rfl
theorem kl_X6_108 : Cond.methodLink RX6 108 yX6_planNow ∈ gT := tin 287 (by decide +kernel) rfl
theorem kl_X6_121 : Cond.methodLink RX6 121 yX6_runsNow ∈ gT := tin 318 (by decide +kernel) rfl
theorem kl_X6_125 : Cond.methodLink RX6 125 yX2_ticksOf ∈ gT := tin 344 (by decide +kernel) rfl
theorem kl_X6_141 : Cond.methodLink RX6 141 yX1_mean ∈ gT := tin 357 (by decide +kernel) rfl
theorem kl_X6_144 : Cond.methodLink RX6 144 yX1_upperTicks ∈ gT := tin 374 (by decide +kernel) rfl
theorem kl_X6_147 : Cond.methodLink RX6 147 yX1_lowerTicks ∈ gT := tin 375 (by decide +kernel) rfl
theorem kl_X6_150 : Cond.methodLink RX6 150 yX1_neitherTicks ∈ gT := tin 376 (by decide +kernel) rfl
theorem kl_X6_153 : Cond.methodLink RX6 153 yX1_timesUpperComesOn ∈ gT := tin 380 (by decide +kernel) rfl
theorem kl_X6_156 : Cond.methodLink RX6 156 yX1_isWanted ∈ gT := tin 388 (by decide +kernel) rfl
theorem kl_X6_160 : Cond.methodLink RX6 160 yX1_isOn ∈ gT := tin 392 (by decide +kernel) rfl
theorem kl_X6_163 : Cond.methodLink RX6 163 yX1_givesOne ∈ gT := tin 401 (by decide +kernel) rfl
theorem kl_X6_166 : Cond.methodLink RX6 166 yX4_cellOr ∈ gT := tin 410 (by decide +kernel) rfl
theorem kl_X6_173 : Cond.methodLink RX6 173 yX2_howManySeen ∈ gT := tin 415 (by decide +kernel) rfl
theorem kl_X6_176 : Cond.methodLink RX6 176 yX2_sees ∈ gT := tin 429 (by decide +kernel) rfl
theorem kl_X6_179 : Cond.methodLink RX6 179 yX6_currentByTheOthers ∈ gT := tin 433 (by decide +kernel) rfl
theorem kl_X6_188 : Cond.methodLink RX6 188 yX1_leastDeadWithoutUpper ∈ gT := tin 449 (by decide +kernel) rfl
theorem kl_X6_191 : Cond.methodLink RX6 191 yX6_eventsNow ∈ gT := tin 457 (by decide +kernel) rfl
theorem kl_X6_195 : Cond.methodLink RX6 195 yX3_search ∈ gT := tin 479 (by decide +kernel) rfl
theorem kl_X6_211 : Cond.methodLink RX6 211 yX4_isFull ∈ gT := tin 505 (by decide +kernel) rfl
theorem kl_X6_215 : Cond.methodLink RX6 215 yX6_refuseFull ∈ gT := tin 506 (by decide +kernel) rfl
theorem kl_X6_218 : Cond.methodLink RX6 218 yX4_add ∈ gT := tin 510 (by decide +kernel) rfl
theorem kl_X6_222 : Cond.methodLink RX6 222 yX0_dropWishesOf ∈ gT := tin 515 (by decide +kernel) rfl
theorem kl_X6_225 : Cond.methodLink RX6 225 yX0_stepOnce ∈ gT := tin 533 (by decide +kernel) rfl
theorem kl_X6_228 : Cond.methodLink RX6 228 yX6_remember ∈ gT := tin 559 (by decide +kernel) rfl
theorem kl_X6_231 : Cond.methodLink RX6 231 yX6_stepsToSettle ∈ gT := tin 573 (by decide +kernel) rfl
theorem kl_X6_240 : Cond.methodLink RX6 240 yX4_greatestOr ∈ gT := tin 607 (by decide +kernel) rfl
theorem kl_X6_244 : Cond.methodLink RX6 244 yX4_leastOr ∈ gT := tin 612 (by decide +kernel) rfl
theorem kl_X6_247 : Cond.methodLink RX6 247 yX4_totalOr ∈ gT := tin 617 (by decide +kernel) rfl
theorem kl_X6_253 : Cond.methodLink RX6 253 yX5_append ∈ gT := tin 625 (by decide +kernel) rfl
theorem kl_X6_256 : Cond.methodLink RX6 256 Lib.Math.min.name ∈ gT := tin 110 (by decide +kernel) rfl
theorem kl_X6_261 : Cond.methodLink RX6 261 yX5_faultOfWishes ∈ gT := tin 637 (by decide +kernel) rfl
theorem kl_X6_265 : Cond.methodLink RX6 265 yX4_addAll ∈ gT := tin 677 (by decide +kernel) rfl
theorem kl_X6_269 : Cond.methodLink RX6 269 yX6_counted ∈ gT := tin 682 (by decide +kernel) rfl
theorem kl_X6_276 : Cond.methodLink RX6 276 Lib.Math.max.name ∈ gT := tin 113 (by decide +kernel) rfl
theorem kl_X6_279 : Cond.methodLink RX6 279 yX0_makePlan ∈ gT := tin 291 (by decide +kernel) rfl
theorem kl_X6_286 : Cond.methodLink RX6 286 yX2_find ∈ gT := tin 322 (by decide +kernel) rfl
theorem kl_X6_290 : Cond.methodLink RX6 290 yX1_listEvents ∈ gT := tin 461 (by decide +kernel) rfl
theorem kl_X6_293 : Cond.methodLink RX6 293 yX4_dropFirst ∈ gT := tin 563 (by decide +kernel) rfl
theorem kl_X6_296 : Cond.methodLink RX6 296 yX0_becomeLike ∈ gT := tin 577 (by decide +kernel) rfl
theorem kl_X6_300 : Cond.methodLink RX6 300 yX0_isSettled ∈ gT := tin 586 (by decide +kernel) rfl
theorem kl_X6_303 : Cond.methodLink RX6 303 yX6_countedSetting ∈ gT := tin 686 (by decide +kernel) rfl
theorem kl_X0_43 : Cond.methodLink RX0 43 yX0_beginAnew ∈ gT := tin 94 (by decide +kernel) rfl
theorem kl_X0_49 : Cond.methodLink RX0 49 arraycopyName ∈ gT := tin 100 (by decide +kernel) rfl
theorem kl_X0_55 : Cond.methodLink RX0 55 yX4_cutTo ∈ gT := tin 103 (by decide +kernel) rfl
theorem kl_X0_62 : Cond.methodLink RX0 62 yX4_addAll ∈ gT := tin 581 (by decide +kernel) rfl
theorem kl_X0_66 : Cond.methodLink RX0 66 yX1_make ∈ gT := tin 295 (by decide +kernel) rfl
theorem kl_X0_70 : Cond.methodLink RX0 70 yX0_takeWishesThatHaveCome ∈ gT := tin 537 (by decide +kernel) rfl
theorem kl_X0_73 : Cond.methodLink RX0 73 yX0_steer ∈ gT := tin 546 (by decide +kernel) rfl
theorem kl_X0_76 : Cond.methodLink RX0 76 yX0_makePlan ∈ gT := tin 553 (by decide +kernel) rfl
theorem kl_X0_79 : Cond.methodLink RX0 79 yX0_moveCurrents ∈ gT := tin 554 (by decide +kernel) rfl
theorem kl_X0_89 : Cond.methodLink RX0 89 yX4_cellOr ∈ gT := tin 519 (by decide +kernel) rfl
theorem kl_X0_93 : Cond.methodLink RX0 93 yX4_moveRow ∈ gT := tin 520 (by decide +kernel) rfl
theorem kl_X0_97 : Cond.methodLink RX0 97 yX0_takeWant ∈ gT := tin 541 (by decide +kernel) rfl
theorem kl_X0_114 : Cond.methodLink RX0 114 yX1_mean ∈ gT := tin 558 (by decide +kernel) rfl
theorem kl_X0_118 : Cond.methodLink RX0 118 Lib.Math.abs.name ∈ gT := tin 590 (by decide +kernel) rfl
theorem kl_X1_48 : Cond.methodLink RX1 48 yX1_demandThatCounts ∈ gT := tin 305 (by decide +kernel) rfl
theorem kl_X1_56 : Cond.methodLink RX1 56 yX1_highWithDead ∈ gT := tin 310 (by decide +kernel) rfl
theorem kl_X1_60 : Cond.methodLink RX1 60 yX1_tickBehindBy ∈ gT := tin 396 (by decide +kernel) rfl
theorem kl_X1_63 : Cond.methodLink RX1 63 yX1_isWanted ∈ gT := tin 400 (by decide +kernel) rfl
theorem kl_X1_67 : Cond.methodLink RX1 67 yX1_isOn ∈ gT := tin 405 (by decide +kernel) rfl
theorem kl_X1_71 : Cond.methodLink RX1 71 Lib.Math.max.name ∈ gT := tin 369 (by decide +kernel) rfl
theorem kl_X1_76 : Cond.methodLink RX1 76 yX1_ticksOn ∈ gT := tin 365 (by decide +kernel) rfl
theorem kl_X1_79 : Cond.methodLink RX1 79 yX1_upperTicks ∈ gT := tin 370 (by decide +kernel) rfl
theorem kl_X1_82 : Cond.methodLink RX1 82 yX1_lowerTicks ∈ gT := tin 361 (by decide +kernel) rfl
theorem kl_X1_85 : Cond.methodLink RX1 85 yX4_cutTo ∈ gT := tin 465 (by decide +kernel) rfl
theorem kl_X1_91 : Cond.methodLink RX1 91 yX1_listEvent ∈ gT := tin 466 (by decide +kernel) rfl
theorem kl_X1_95 : Cond.methodLink RX1 95 yX4_add ∈ gT := tin 470 (by decide +kernel) rfl
theorem kl_X2_20 : Cond.methodLink RX2 20 yX4_cutTo ∈ gT := tin 326 (by decide +kernel) rfl
theorem kl_X2_27 : Cond.methodLink RX2 27 yX2_nextChange ∈ gT := tin 327 (by decide +kernel) rfl
theorem kl_X2_31 : Cond.methodLink RX2 31 yX2_patternAt ∈ gT := tin 331 (by decide +kernel) rfl
theorem kl_X2_39 : Cond.methodLink RX2 39 yX4_add ∈ gT := tin 336 (by decide +kernel) rfl
theorem kl_X2_43 : Cond.methodLink RX2 43 Lib.Math.min.name ∈ gT := tin 330 (by decide +kernel) rfl
theorem kl_X2_49 : Cond.methodLink RX2 49 yJ6_bitCount_0f7a4 ∈ gT := tin 419 (by decide +kernel) rfl
theorem kl_X2_58 : Cond.methodLink RX2 58 yX4_cellOr ∈ gT := tin 348 (by decide +kernel) rfl
theorem kl_X3_35 : Cond.methodLink RX3 35 yX3_searchAllOf ∈ gT := tin 483 (by decide +kernel) rfl
theorem kl_X3_39 : Cond.methodLink RX3 39 Lib.Math.abs.name ∈ gT := tin 487 (by decide +kernel) rfl
theorem kl_X3_49 : Cond.methodLink RX3 49 yX3_tryOne ∈ gT := tin 491 (by decide +kernel) rfl
theorem kl_X3_53 : Cond.methodLink RX3 53 yX3_mayMove ∈ gT := tin 495 (by decide +kernel) rfl
theorem kl_X3_68 : Cond.methodLink RX3 68 yX2_find ∈ gT := tin 498 (by decide +kernel) rfl
theorem kl_X3_72 : Cond.methodLink RX3 72 yX2_howManySeen ∈ gT := tin 499 (by decide +kernel) rfl
theorem kl_X3_76 : Cond.methodLink RX3 76 arraycopyName ∈ gT := tin 500 (by decide +kernel) rfl
theorem kl_X4_9 : Cond.methodLink RX4 9 Lib.Math.max.name ∈ gT := tin 32 (by decide +kernel) rfl
theorem kl_X4_28 : Cond.methodLink RX4 28 yX4_isFull ∈ gT := tin 340 (by decide +kernel) rfl
theorem kl_X4_32 : Cond.methodLink RX4 32 yX4_add ∈ gT := tin 585 (by decide +kernel) rfl
theorem kl_X4_40 : Cond.methodLink RX4 40 arraycopyName ∈ gT := tin 524 (by decide +kernel) rfl
theorem kl_X4_50 : Cond.methodLink RX4 50 yX4_moveRow ∈ gT := tin 567 (by decide +kernel) rfl
theorem kl_X4_54 : Cond.methodLink RX4 54 yX4_cutTo ∈ gT := tin 568 (by decide +kernel) rfl
theorem kl_X4_58 : Cond.methodLink RX4 58 yX4_cellOr ∈ gT := tin 611 (by decide +kernel) rfl
theorem kl_X4_61 : Cond.methodLink RX4 61 Lib.Math.min.name ∈ gT := tin 616 (by decide +kernel) rfl
theorem kl_X5_28 : Cond.methodLink RX5 28 yX4_cutTo ∈ gT := tin 641 (by decide +kernel) rfl
theorem kl_X5_37 : Cond.methodLink RX5 37 yX5_skipBlanks ∈ gT := tin 642 (by decide +kernel) rfl
theorem kl_X5_40 : Cond.methodLink RX5 40 yX5_readWish ∈ gT := tin 650 (by decide +kernel) rfl
theorem kl_X5_44 : Cond.methodLink RX5 44 yX5_byteHere ∈ gT := tin 646 (by decide +kernel) rfl
theorem kl_X5_55 : Cond.methodLink RX5 55 yX5_failAt ∈ gT := tin 655 (by decide +kernel) rfl
theorem kl_X5_58 : Cond.methodLink RX5 58 yX5_readWant ∈ gT := tin 659 (by decide +kernel) rfl
theorem kl_X5_61 : Cond.methodLink RX5 61 yX5_readPeriod ∈ gT := tin 668 (by decide +kernel) rfl
theorem kl_X5_65 : Cond.methodLink RX5 65 yX5_readEnd ∈ gT := tin 672 (by decide +kernel) rfl
theorem kl_X5_69 : Cond.methodLink RX5 69 yX4_add ∈ gT := tin 676 (by decide +kernel) rfl
theorem kl_X5_73 : Cond.methodLink RX5 73 yX5_readNumber ∈ gT := tin 663 (by decide +kernel) rfl
theorem kl_X7_73 : Cond.methodLink RX7 73 yX7_begins ∈ gT := tin 702 (by decide +kernel) rfl
theorem kl_X7_86 : Cond.methodLink RX7 86 yX7_in ∈ gT := tin 822 (by decide +kernel) rfl
theorem kl_X7_90 : Cond.methodLink RX7 90 yX7_may ∈ gT := tin 825 (by decide +kernel) rfl
theorem kl_X7_94 : Cond.methodLink RX7 94 yX7_bad ∈ gT := tin 828 (by decide +kernel) rfl
theorem kl_X7_98 : Cond.methodLink RX7 98 yX7_isLeg ∈ gT := tin 836 (by decide +kernel) rfl
theorem kl_X7_117 : Cond.methodLink RX7 117 yX7_setPlan ∈ gT := tin 855 (by decide +kernel) rfl
theorem kl_X7_123 : Cond.methodLink RX7 123 yX7_greatest ∈ gT := tin 859 (by decide +kernel) rfl
theorem kl_X7_127 : Cond.methodLink RX7 127 yX7_least ∈ gT := tin 862 (by decide +kernel) rfl
theorem kl_X7_134 : Cond.methodLink RX7 134 yX7_bound ∈ gT := tin 865 (by decide +kernel) rfl
theorem kl_X7_138 : Cond.methodLink RX7 138 yX7_wanted ∈ gT := tin 884 (by decide +kernel) rfl
theorem kl_X7_141 : Cond.methodLink RX7 141 yX7_wantedAhead ∈ gT := tin 908 (by decide +kernel) rfl
theorem kl_X7_144 : Cond.methodLink RX7 144 yX7_gives ∈ gT := tin 904 (by decide +kernel) rfl
theorem kl_X7_150 : Cond.methodLink RX7 150 yX7_patternAt ∈ gT := tin 880 (by decide +kernel) rfl
theorem kl_X7_154 : Cond.methodLink RX7 154 yX7_setRuns ∈ gT := tin 888 (by decide +kernel) rfl
theorem kl_X7_157 : Cond.methodLink RX7 157 yX7_tells ∈ gT := tin 932 (by decide +kernel) rfl
theorem kl_X7_160 : Cond.methodLink RX7 160 yX7_ticksOf ∈ gT := tin 876 (by decide +kernel) rfl
theorem kl_X7_163 : Cond.methodLink RX7 163 yX7_plansBy ∈ gT := tin 872 (by decide +kernel) rfl
theorem kl_X7_166 : Cond.methodLink RX7 166 yX7_upper ∈ gT := tin 916 (by decide +kernel) rfl
theorem kl_X7_169 : Cond.methodLink RX7 169 yX7_lower ∈ gT := tin 920 (by decide +kernel) rfl
theorem kl_X7_172 : Cond.methodLink RX7 172 yX7_meanOf ∈ gT := tin 900 (by decide +kernel) rfl
theorem kl_X7_175 : Cond.methodLink RX7 175 yX7_gateMany ∈ gT := tin 912 (by decide +kernel) rfl
theorem kl_X7_178 : Cond.methodLink RX7 178 yX7_ofBy ∈ gT := tin 896 (by decide +kernel) rfl
theorem kl_X7_181 : Cond.methodLink RX7 181 yX7_seenSet ∈ gT := tin 940 (by decide +kernel) rfl
theorem kl_X7_184 : Cond.methodLink RX7 184 yX7_bits ∈ gT := tin 944 (by decide +kernel) rfl
theorem kl_X7_202 : Cond.methodLink RX7 202 yX7_comesEvent ∈ gT := tin 971 (by decide +kernel) rfl
theorem kl_X7_206 : Cond.methodLink RX7 206 yX7_setEvents ∈ gT := tin 967 (by decide +kernel) rfl
theorem kl_X7_210 : Cond.methodLink RX7 210 yX7_mayShift ∈ gT := tin 988 (by decide +kernel) rfl
theorem kl_X7_213 : Cond.methodLink RX7 213 yX7_far ∈ gT := tin 992 (by decide +kernel) rfl
theorem kl_X7_217 : Cond.methodLink RX7 217 yX7_tries ∈ gT := tin 984 (by decide +kernel) rfl
theorem kl_X7_221 : Cond.methodLink RX7 221 yX7_full ∈ gT := tin 999 (by decide +kernel) rfl
theorem kl_X7_224 : Cond.methodLink RX7 224 yX7_comesWish ∈ gT := tin 1003 (by decide +kernel) rfl
theorem kl_X7_227 : Cond.methodLink RX7 227 yX7_goesWish ∈ gT := tin 1011 (by decide +kernel) rfl
theorem kl_X7_230 : Cond.methodLink RX7 230 yX7_within ∈ gT := tin 1035 (by decide +kernel) rfl
theorem kl_X7_233 : Cond.methodLink RX7 233 yX7_comesTrue ∈ gT := tin 1027 (by decide +kernel) rfl
theorem kl_X7_236 : Cond.methodLink RX7 236 yX7_steers ∈ gT := tin 1031 (by decide +kernel) rfl
theorem kl_X7_239 : Cond.methodLink RX7 239 yX7_goes ∈ gT := tin 1023 (by decide +kernel) rfl
theorem kl_X7_243 : Cond.methodLink RX7 243 yX7_remembers ∈ gT := tin 1038 (by decide +kernel) rfl
theorem kl_X7_247 : Cond.methodLink RX7 247 yX7_lays ∈ gT := tin 1050 (by decide +kernel) rfl
theorem kl_X7_250 : Cond.methodLink RX7 250 yX7_isNear ∈ gT := tin 1054 (by decide +kernel) rfl
theorem kl_X7_253 : Cond.methodLink RX7 253 yX7_takes ∈ gT := tin 1058 (by decide +kernel) rfl
theorem kl_X7_256 : Cond.methodLink RX7 256 yX7_settlesIn ∈ gT := tin 1046 (by decide +kernel) rfl
theorem kl_X7_259 : Cond.methodLink RX7 259 yX7_stateBy ∈ gT := tin 1070 (by decide +kernel) rfl
theorem kl_X7_268 : Cond.methodLink RX7 268 yX7_here ∈ gT := tin 1102 (by decide +kernel) rfl
theorem kl_X7_274 : Cond.methodLink RX7 274 yX7_skips ∈ gT := tin 1098 (by decide +kernel) rfl
theorem kl_X7_283 : Cond.methodLink RX7 283 yX7_number ∈ gT := tin 1110 (by decide +kernel) rfl
theorem kl_X7_286 : Cond.methodLink RX7 286 yX7_readsWish ∈ gT := tin 1106 (by decide +kernel) rfl
theorem kl_X7_290 : Cond.methodLink RX7 290 yX7_goesThrough ∈ gT := tin 1094 (by decide +kernel) rfl
theorem kl_X7_294 : Cond.methodLink RX7 294 yX7_countBy ∈ gT := tin 1118 (by decide +kernel) rfl
theorem st_max : Cond.static Lib.Math.max.name ∈ gT := tin 33 (by decide +kernel) rfl
theorem cd_max : Cond.code Lib.Math.max.name Lib.Math.max.code 2 (some .int) ∈ gT := tin 34 (by decide +kernel) rfl
theorem st_min : Cond.static Lib.Math.min.name ∈ gT := tin 111 (by decide +kernel) rfl
theorem cd_min : Cond.code Lib.Math.min.name Lib.Math.min.code 2 (some .int) ∈ gT := tin 112 (by decide +kernel) rfl
theorem st_abs : Cond.static Lib.Math.abs.name ∈ gT := tin 488 (by decide +kernel) rfl
theorem cd_abs : Cond.code Lib.Math.abs.name Lib.Math.abs.code 1 (some .int) ∈ gT := tin 489 (by decide +kernel) rfl
theorem st_arraycopy : Cond.static arraycopyName ∈ gT := tin 101 (by decide +kernel) rfl
theorem nat_arraycopy : Cond.native arraycopyName ∈ gT := tin 102 (by decide +kernel) rfl
theorem ini_Math : Cond.initialized "java/lang/Math" ∈ gT := tin 4 (by decide +kernel) rfl
theorem ini_System : Cond.initialized "java/lang/System" ∈ gT := tin 6 (by decide +kernel) rfl
theorem kc_X6_93 : Cond.constant RX6 93 999999 ∈ gT := tin 279 (by decide +kernel) rfl
theorem kc_X7_102 : Cond.constant RX7 102 999999 ∈ gT := tin 847 (by decide +kernel) rfl
theorem kc_X7_216 : Cond.constant RX7 216 268435456 ∈ gT := tin 983 (by decide +kernel) rfl
theorem kc_J6_265 : Cond.constant RJ6 265 1431655765 ∈ gT := tin 422 (by decide +kernel) rfl
theorem kc_J6_266 : Cond.constant RJ6 266 858993459 ∈ gT := tin 423 (by decide +kernel) rfl
theorem kc_J6_267 : Cond.constant RJ6 267 252645135 ∈ gT := tin 424 (by decide +kernel) rfl
theorem kc_X6_94 : Cond.constantLong RX6 94 1103515245 ∈ gT := tin 280 (by decide +kernel) rfl
theorem kc_X6_96 : Cond.constantLong RX6 96 12345 ∈ gT := tin 281 (by decide +kernel) rfl
theorem kc_X6_98 : Cond.constantLong RX6 98 2147483648 ∈ gT := tin 282 (by decide +kernel) rfl
theorem kc_X6_100 : Cond.constantLong RX6 100 65536 ∈ gT := tin 283 (by decide +kernel) rfl
theorem kc_X6_102 : Cond.constantLong RX6 102 201 ∈ gT := tin 284 (by decide +kernel) rfl
theorem kc_X6_104 : Cond.constantLong RX6 104 1024 ∈ gT := tin 285 (by decide +kernel) rfl
theorem kc_X6_106 : Cond.constantLong RX6 106 401 ∈ gT := tin 286 (by decide +kernel) rfl
theorem kc_X6_272 : Cond.constantLong RX6 272 2069 ∈ gT := tin 694 (by decide +kernel) rfl
theorem kc_X6_274 : Cond.constantLong RX6 274 31 ∈ gT := tin 695 (by decide +kernel) rfl
theorem kc_X7_103 : Cond.constantLong RX7 103 1103515245 ∈ gT := tin 848 (by decide +kernel) rfl
theorem kc_X7_105 : Cond.constantLong RX7 105 12345 ∈ gT := tin 849 (by decide +kernel) rfl
theorem kc_X7_107 : Cond.constantLong RX7 107 2147483648 ∈ gT := tin 850 (by decide +kernel) rfl
theorem kc_X7_109 : Cond.constantLong RX7 109 65536 ∈ gT := tin 851 (by decide +kernel) rfl
theorem kc_X7_111 : Cond.constantLong RX7 111 201 ∈ gT := tin 852 (by decide +kernel) rfl
theorem kc_X7_113 : Cond.constantLong RX7 113 1024 ∈ gT := tin 853 (by decide +kernel) rfl
theorem kc_X7_115 : Cond.constantLong RX7 115 401 ∈ gT := tin 854 (by decide +kernel) rfl
theorem kc_X7_297 : Cond.constantLong RX7 297 2069 ∈ gT := tin 1126 (by decide +kernel) rfl
theorem kc_X7_299 : Cond.constantLong RX7 299 31 ∈ gT := tin 1127 (by decide +kernel) rfl
theorem sf_X6_60 : Cond.fieldLink RX6 60 "DriveTicks" (snm 1) "[I" ∈ gT := tin 254 (by decide +kernel) rfl
theorem sf_X6_63 : Cond.fieldLink RX6 63 "DriveTicks" (snm 2) "[I" ∈ gT := tin 256 (by decide +kernel) rfl
