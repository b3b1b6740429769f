/-! the law over its two objects, for any relation that the calls keep: by program (wip/gen/glaw.py) -/
def shC (i : Nat) : Shp := match i with
  | 0 => .inr (6, [some 1, some 14, some 27, some 30, some 32, some 39, some 41, some 45])
  | 1 => .inr (0, [some 2, some 3, some 4, some 5, some 6, some 7, some 9, none])
  | 2 => .inl 7
  | 3 => .inl 3
  | 4 => .inl 3
  | 5 => .inl 3
  | 6 => .inl 3
  | 7 => .inr (4, [none, some 8, none])
  | 8 => .inl 48
  | 9 => .inr (1, [none, none, none, none, none, some 10, some 11, some 12, some 13])
  | 10 => .inl 3
  | 11 => .inl 3
  | 12 => .inl 3
  | 13 => .inl 3
  | 14 => .inr (0, [some 15, some 16, some 17, some 18, some 19, some 20, some 22, none])
  | 15 => .inl 7
  | 16 => .inl 3
  | 17 => .inl 3
  | 18 => .inl 3
  | 19 => .inl 3
  | 20 => .inr (4, [none, some 21, none])
  | 21 => .inl 48
  | 22 => .inr (1, [none, none, none, none, none, some 23, some 24, some 25, some 26])
  | 23 => .inl 3
  | 24 => .inl 3
  | 25 => .inl 3
  | 26 => .inl 3
  | 27 => .inr (2, [some 28, none])
  | 28 => .inr (4, [none, some 29, none])
  | 29 => .inl 28
  | 30 => .inr (4, [none, some 31, none])
  | 31 => .inl 48
  | 32 => .inr (3, [some 33, some 36, some 37, some 38, none, none])
  | 33 => .inr (2, [some 34, none])
  | 34 => .inr (4, [none, some 35, none])
  | 35 => .inl 28
  | 36 => .inl 3
  | 37 => .inl 3
  | 38 => .inl 3
  | 39 => .inr (4, [none, some 40, none])
  | 40 => .inl 40
  | 41 => .inr (5, [some 42, some 43, none, none, none])
  | 42 => .inl 120
  | 43 => .inr (4, [none, some 44, none])
  | 44 => .inl 48
  | 45 => .inl 3
  | _ => .inl 0
theorem isC : isX6 46 shC 0 := ⟨by decide, rfl, ⟨by decide, rfl, ⟨by decide, rfl⟩, ⟨by decide, rfl⟩, ⟨by decide, rfl⟩, ⟨by decide, rfl⟩, ⟨by decide, rfl⟩, ⟨by decide, rfl, ⟨by decide, rfl⟩⟩, ⟨by decide, rfl, ⟨by decide, rfl⟩, ⟨by decide, rfl⟩, ⟨by decide, rfl⟩, ⟨by decide, rfl⟩⟩⟩, ⟨by decide, rfl, ⟨by decide, rfl⟩, ⟨by decide, rfl⟩, ⟨by decide, rfl⟩, ⟨by decide, rfl⟩, ⟨by decide, rfl⟩, ⟨by decide, rfl, ⟨by decide, rfl⟩⟩, ⟨by decide, rfl, ⟨by decide, rfl⟩, ⟨by decide, rfl⟩, ⟨by decide, rfl⟩, ⟨by decide, rfl⟩⟩⟩, ⟨by decide, rfl, ⟨by decide, rfl, ⟨by decide, rfl⟩⟩⟩, ⟨by decide, rfl, ⟨by decide, rfl⟩⟩, ⟨by decide, rfl, ⟨by decide, rfl, ⟨by decide, rfl, ⟨by decide, rfl⟩⟩⟩, ⟨by decide, rfl⟩, ⟨by decide, rfl⟩, ⟨by decide, rfl⟩⟩, ⟨by decide, rfl, ⟨by decide, rfl⟩⟩, ⟨by decide, rfl, ⟨by decide, rfl⟩, ⟨by decide, rfl, ⟨by decide, rfl⟩⟩⟩, ⟨by decide, rfl⟩⟩
def shM (i : Nat) : Shp := match i with
  | 0 => .inr (7, [some 1, some 2, some 3, some 4, some 5, some 6, none, none, some 7, some 8, some 9, none, some 10, none, none, some 11, some 12, some 13, some 14, none, some 15, some 16, none, none, none, none, none, some 17, some 18, some 19, some 20, some 21, none, none, none, none, none])
  | 1 => .inl 3
  | 2 => .inl 7
  | 3 => .inl 3
  | 4 => .inl 3
  | 5 => .inl 3
  | 6 => .inl 3
  | 7 => .inl 12
  | 8 => .inl 12
  | 9 => .inl 12
  | 10 => .inl 40
  | 11 => .inl 3
  | 12 => .inl 3
  | 13 => .inl 3
  | 14 => .inl 3
  | 15 => .inl 96
  | 16 => .inl 96
  | 17 => .inl 5
  | 18 => .inl 3
  | 19 => .inl 3
  | 20 => .inl 50
  | 21 => .inl 120
  | _ => .inl 0
theorem isM : isX7 22 shM 0 := ⟨by decide, rfl, ⟨by decide, rfl⟩, ⟨by decide, rfl⟩, ⟨by decide, rfl⟩, ⟨by decide, rfl⟩, ⟨by decide, rfl⟩, ⟨by decide, rfl⟩, ⟨by decide, rfl⟩, ⟨by decide, rfl⟩, ⟨by decide, rfl⟩, ⟨by decide, rfl⟩, ⟨by decide, rfl⟩, ⟨by decide, rfl⟩, ⟨by decide, rfl⟩, ⟨by decide, rfl⟩, ⟨by decide, rfl⟩, ⟨by decide, rfl⟩, ⟨by decide, rfl⟩, ⟨by decide, rfl⟩, ⟨by decide, rfl⟩, ⟨by decide, rfl⟩, ⟨by decide, rfl⟩⟩
def S0 (Rel : Mem → Mem → Prop) (f g : Mem → Option (Int32 × Mem)) : Prop := ∀ wC wM, Rel wC wM → ∃ r wC' wM', f wC = some (r, wC') ∧ g wM = some (r, wM') ∧ Rel wC' wM'
def S1 (Rel : Mem → Mem → Prop) (f g : Int32 → Mem → Option (Int32 × Mem)) : Prop := ∀ a, S0 Rel (f a) (g a)
def S2 (Rel : Mem → Mem → Prop) (f g : Int32 → Int32 → Mem → Option (Int32 × Mem)) : Prop := ∀ a b, S0 Rel (f a b) (g a b)
def S3 (Rel : Mem → Mem → Prop) (f g : Int32 → Int32 → Int32 → Mem → Option (Int32 × Mem)) : Prop := ∀ a b c, S0 Rel (f a b c) (g a b c)
def SL (Rel : Mem → Mem → Prop) (f g : Mem → Option (Int64 × Mem)) : Prop := ∀ wC wM, Rel wC wM → ∃ r wC' wM', f wC = some (r, wC') ∧ g wM = some (r, wM') ∧ Rel wC' wM'
def Sim (Rel : Mem → Mem → Prop) : Prop := S2 Rel F_X6_sets F_X7_sets ∧ S3 Rel F_X6_leg F_X7_leg ∧ S0 Rel F_X6_anew F_X7_anew ∧ S1 Rel F_X6_draw F_X7_draw ∧ S1 Rel F_X6_plan F_X7_plan ∧ S2 Rel F_X6_of F_X7_of ∧ S3 Rel F_X6_at F_X7_at ∧ S2 Rel F_X6_run F_X7_run ∧ S1 Rel F_X6_seen F_X7_seen ∧ S1 Rel F_X6_told F_X7_told ∧ S0 Rel F_X6_both F_X7_both ∧ S1 Rel F_X6_off F_X7_off ∧ S1 Rel F_X6_dies F_X7_dies ∧ S2 Rel F_X6_event F_X7_event ∧ S0 Rel F_X6_events F_X7_events ∧ S1 Rel F_X6_shift F_X7_shift ∧ S3 Rel F_X6_wish F_X7_wish ∧ S1 Rel F_X6_unwish F_X7_unwish ∧ S2 Rel F_X6_wished F_X7_wished ∧ S1 Rel F_X6_steps F_X7_steps ∧ S1 Rel F_X6_settles F_X7_settles ∧ S1 Rel F_X6_tunes F_X7_tunes ∧ S2 Rel F_X6_state F_X7_state ∧ S2 Rel F_X6_memory F_X7_memory ∧ S2 Rel F_X6_over F_X7_over ∧ S1 Rel F_X6_type F_X7_type ∧ S0 Rel F_X6_clear F_X7_clear ∧ S0 Rel F_X6_reads F_X7_reads ∧ S1 Rel F_X6_count F_X7_count ∧ SL Rel F_X6_digest F_X7_digest
theorem kl_L_13 : Cond.methodLink RL 13 yX6_sets ∈ gT := tin 247 (by decide +kernel) rfl
theorem kl_L_17 : Cond.methodLink RL 17 yX7_sets ∈ gT := tin 818 (by decide +kernel) rfl
theorem kl_L_18 : Cond.methodLink RL 18 yX6_leg ∈ gT := tin 262 (by decide +kernel) rfl
theorem kl_L_22 : Cond.methodLink RL 22 yX7_leg ∈ gT := tin 832 (by decide +kernel) rfl
theorem kl_L_23 : Cond.methodLink RL 23 yX6_anew ∈ gT := tin 269 (by decide +kernel) rfl
theorem kl_L_27 : Cond.methodLink RL 27 yX7_anew ∈ gT := tin 839 (by decide +kernel) rfl
theorem kl_L_28 : Cond.methodLink RL 28 yX6_draw ∈ gT := tin 275 (by decide +kernel) rfl
theorem kl_L_32 : Cond.methodLink RL 32 yX7_draw ∈ gT := tin 843 (by decide +kernel) rfl
theorem kl_L_33 : Cond.methodLink RL 33 yX6_plan ∈ gT := tin 314 (by decide +kernel) rfl
theorem kl_L_36 : Cond.methodLink RL 36 yX7_plan ∈ gT := tin 868 (by decide +kernel) rfl
theorem kl_L_37 : Cond.methodLink RL 37 yX6_of ∈ gT := tin 353 (by decide +kernel) rfl
theorem kl_L_40 : Cond.methodLink RL 40 yX7_of ∈ gT := tin 892 (by decide +kernel) rfl
theorem kl_L_41 : Cond.methodLink RL 41 yX6_at ∈ gT := tin 384 (by decide +kernel) rfl
theorem kl_L_44 : Cond.methodLink RL 44 yX7_at ∈ gT := tin 924 (by decide +kernel) rfl
theorem kl_L_45 : Cond.methodLink RL 45 yX6_run ∈ gT := tin 406 (by decide +kernel) rfl
theorem kl_L_48 : Cond.methodLink RL 48 yX7_run ∈ gT := tin 928 (by decide +kernel) rfl
theorem kl_L_49 : Cond.methodLink RL 49 yX6_seen ∈ gT := tin 411 (by decide +kernel) rfl
theorem kl_L_52 : Cond.methodLink RL 52 yX7_seen ∈ gT := tin 936 (by decide +kernel) rfl
theorem kl_L_53 : Cond.methodLink RL 53 yX6_told ∈ gT := tin 425 (by decide +kernel) rfl
theorem kl_L_56 : Cond.methodLink RL 56 yX7_told ∈ gT := tin 947 (by decide +kernel) rfl
theorem kl_L_57 : Cond.methodLink RL 57 yX6_both ∈ gT := tin 437 (by decide +kernel) rfl
theorem kl_L_60 : Cond.methodLink RL 60 yX7_both ∈ gT := tin 951 (by decide +kernel) rfl
theorem kl_L_61 : Cond.methodLink RL 61 yX6_off ∈ gT := tin 441 (by decide +kernel) rfl
theorem kl_L_64 : Cond.methodLink RL 64 yX7_off ∈ gT := tin 955 (by decide +kernel) rfl
theorem kl_L_65 : Cond.methodLink RL 65 yX6_dies ∈ gT := tin 445 (by decide +kernel) rfl
theorem kl_L_68 : Cond.methodLink RL 68 yX7_dies ∈ gT := tin 959 (by decide +kernel) rfl
theorem kl_L_69 : Cond.methodLink RL 69 yX6_event ∈ gT := tin 453 (by decide +kernel) rfl
theorem kl_L_72 : Cond.methodLink RL 72 yX7_event ∈ gT := tin 963 (by decide +kernel) rfl
theorem kl_L_73 : Cond.methodLink RL 73 yX6_events ∈ gT := tin 471 (by decide +kernel) rfl
theorem kl_L_76 : Cond.methodLink RL 76 yX7_events ∈ gT := tin 975 (by decide +kernel) rfl
theorem kl_L_77 : Cond.methodLink RL 77 yX6_shift ∈ gT := tin 475 (by decide +kernel) rfl
theorem kl_L_80 : Cond.methodLink RL 80 yX7_shift ∈ gT := tin 979 (by decide +kernel) rfl
theorem kl_L_81 : Cond.methodLink RL 81 yX6_wish ∈ gT := tin 501 (by decide +kernel) rfl
theorem kl_L_84 : Cond.methodLink RL 84 yX7_wish ∈ gT := tin 995 (by decide +kernel) rfl
theorem kl_L_85 : Cond.methodLink RL 85 yX6_unwish ∈ gT := tin 511 (by decide +kernel) rfl
theorem kl_L_88 : Cond.methodLink RL 88 yX7_unwish ∈ gT := tin 1007 (by decide +kernel) rfl
theorem kl_L_89 : Cond.methodLink RL 89 yX6_wished ∈ gT := tin 525 (by decide +kernel) rfl
theorem kl_L_92 : Cond.methodLink RL 92 yX7_wished ∈ gT := tin 1015 (by decide +kernel) rfl
theorem kl_L_93 : Cond.methodLink RL 93 yX6_steps ∈ gT := tin 529 (by decide +kernel) rfl
theorem kl_L_96 : Cond.methodLink RL 96 yX7_steps ∈ gT := tin 1019 (by decide +kernel) rfl
theorem kl_L_97 : Cond.methodLink RL 97 yX6_settles ∈ gT := tin 569 (by decide +kernel) rfl
theorem kl_L_100 : Cond.methodLink RL 100 yX7_settles ∈ gT := tin 1042 (by decide +kernel) rfl
theorem kl_L_101 : Cond.methodLink RL 101 yX6_tunes ∈ gT := tin 591 (by decide +kernel) rfl
theorem kl_L_104 : Cond.methodLink RL 104 yX7_tunes ∈ gT := tin 1062 (by decide +kernel) rfl
theorem kl_L_105 : Cond.methodLink RL 105 yX6_state ∈ gT := tin 595 (by decide +kernel) rfl
theorem kl_L_108 : Cond.methodLink RL 108 yX7_state ∈ gT := tin 1066 (by decide +kernel) rfl
theorem kl_L_109 : Cond.methodLink RL 109 yX6_memory ∈ gT := tin 599 (by decide +kernel) rfl
theorem kl_L_112 : Cond.methodLink RL 112 yX7_memory ∈ gT := tin 1074 (by decide +kernel) rfl
theorem kl_L_113 : Cond.methodLink RL 113 yX6_over ∈ gT := tin 603 (by decide +kernel) rfl
theorem kl_L_116 : Cond.methodLink RL 116 yX7_over ∈ gT := tin 1078 (by decide +kernel) rfl
theorem kl_L_117 : Cond.methodLink RL 117 yX6_type ∈ gT := tin 621 (by decide +kernel) rfl
theorem kl_L_120 : Cond.methodLink RL 120 yX7_type ∈ gT := tin 1082 (by decide +kernel) rfl
theorem kl_L_121 : Cond.methodLink RL 121 yX6_clear ∈ gT := tin 629 (by decide +kernel) rfl
theorem kl_L_124 : Cond.methodLink RL 124 yX7_clear ∈ gT := tin 1086 (by decide +kernel) rfl
theorem kl_L_125 : Cond.methodLink RL 125 yX6_reads ∈ gT := tin 633 (by decide +kernel) rfl
theorem kl_L_128 : Cond.methodLink RL 128 yX7_reads ∈ gT := tin 1090 (by decide +kernel) rfl
theorem kl_L_129 : Cond.methodLink RL 129 yX6_count ∈ gT := tin 678 (by decide +kernel) rfl
theorem kl_L_132 : Cond.methodLink RL 132 yX7_count ∈ gT := tin 1114 (by decide +kernel) rfl
theorem kl_L_133 : Cond.methodLink RL 133 yX6_digest ∈ gT := tin 690 (by decide +kernel) rfl
theorem kl_L_137 : Cond.methodLink RL 137 yX7_digest ∈ gT := tin 1122 (by decide +kernel) rfl
def AO (n : Nat) (ad : Nat → Nat) : Nat → Prop := fun q => ∃ i, i < n ∧ q = ad i
def AL (s : State) : Nat → Prop := fun q => s.heap.size ≤ q
theorem AO.ok {n : Nat} {ad : Nat → Nat} {A : Nat → Prop} (h : AdOk n ad A) : AdOk n ad (AO n ad) := ⟨h.1, fun i hi => ⟨i, hi, rfl⟩⟩
theorem AO.sub {n : Nat} {ad : Nat → Nat} {A : Nat → Prop} (h : AdOk n ad A) {q : Nat} (hq : AO n ad q) : A q := by
  obtain ⟨i, hi, rfl⟩ := hq
  exact h.2 i hi
theorem Stt.sub {A B : Nat → Prop} {sa : Nat → Nat} {s : State} (hAB : ∀ q, B q → A q) (h : Stt A sa s) : Stt B sa s := fun k hk => by
  exact ⟨(h k hk).1.narrow hAB, (h k hk).2.narrow hAB⟩
/-- a world whose cells no call has touched -/
theorem wsO_kept {n : Nat} {sh : Nat → Shp} {D : va_G} {ad : Nat → Nat} {cA : ClassId} {w : Mem} {H H1 : Heap} (h : va_P D classes (wsO n sh ad cA w) H) (hq : ∀ i, i < n → H1[ad i]? = H[ad i]?) : va_P D classes (wsO n sh ad cA w) H1 := by
  intro k q hk
  have hn : k < n := by
    by_cases hn : k < n
    · exact hn
    · simp [wsO, hn] at hk
  have h1 := h k q hk
  rw [wsO_get hn] at hk
  cases hk
  revert h1
  simp only [va_at]
  cases hc : cE sh ad cA w k with
  | inl a => simp only []; intro h1; rw [hq k hn]; exact h1
  | inr o => simp only []; rintro ⟨r, g1, g2⟩; exact ⟨r, g1, g2.kept (hq k hn)⟩
/-- what holds all through the law's body, once its objects stand -/
def LX (p : Program) (s : State) (m : MethodId) (meth : Method) (c : Code) (b L : Nat) (xs : Nat → Int32) (D : va_G) (cA : ClassId) (sa adC adM : Nat → Nat) : Prop :=
  lw_At p s m meth c b L xs ∧ va_K D classes [(cA, .int)] s ∧ Nst s ∧ Stt (AL s) sa s ∧ AdOk 46 adC (AL s) ∧ AdOk 22 adM (AL s) ∧ ∀ i j, i < 46 → j < 22 → adC i ≠ adM j
def Wd (s : State) (D : va_G) (cA : ClassId) (adC adM : Nat → Nat) (wC wM : Mem) (H : Heap) (locs : List Loc) : Prop := va_P D classes (wsO 46 shC adC cA wC) H ∧ va_P D classes (wsO 22 shM adM cA wM) H ∧ va_S (AL s) s.heap H locs
section LW
variable {p : Program} {l : Launch} {e : Env} {s : State} {m : MethodId} {below : List Frame} {meth : Method} {c : Code} {b L : Nat} {xs : Nat → Int32} {D : va_G} {cA : ClassId} {sa adC adM : Nat → Nat} {wC wM : Mem} {H : Heap} {locs : List Loc} {cells slots : Nat} {Q : State → Prop}
variable {y : MethodName} {bytes : ByteArray} {mL' fr lo na index pc : Nat} {rt' : Option FieldType} {As rest : List Value} {r : Option Value} {w1 : Mem} {st0 : List Value} {ls : Array Slot}
theorem law_back {n : Nat} {sh : Nat → Shp} {ad : Nat → Nat} {a : Array Value} (hA : AdOk n ad (AL s)) (hS : va_S (AL s) s.heap H locs) (hr : va_Run p l e room_1 s m #[Value.ref b] below meth c H locs cells slots 0 0 (F0 m pc ls st0) rest (QcC n sh D cA ad (AO n ad) r w1 a) (AO n ad))
    (kk : ∀ (H1 : Heap) (locs1 : List Loc), va_P D classes (wsO n sh ad cA w1) H1 → (∀ q : Nat, q < H.size → ¬ AO n ad q → H1[q]? = H[q]?) → va_S (AL s) s.heap H1 locs1 → W p l e room_1 s m #[Value.ref b] below meth c H1 locs1 cells slots Q (F0 m (pc + 3) ls (r.toList ++ rest))) : W p l e room_1 s m #[Value.ref b] below meth c H locs cells slots Q (F0 m pc ls st0) := by
  intro T hT X
  obtain ⟨v, st₀, t, T', L, h0, X', hL, e1, e2, ⟨hv, hp, hz, hk⟩, st⟩ := hr T hT X
  cases hv
  rw [h0] at hz hk
  obtain ⟨t2, a1, b1⟩ := kk T'.heap (locs ++ L) (by rw [e1]; exact hp) (fun q h1 h2 => by rw [e1]; exact hk q h1 h2) ⟨Nat.le_trans hS.1 (by rw [e1]; exact hz), fun q h1 h2 => by rw [e1, hk q (Nat.lt_of_lt_of_le h1 hS.1) (fun z => h2 (AO.sub hA z))]; exact hS.2.1 q h1 h2, fun q hq => by
      rcases List.mem_append.mp hq with h | h
      · exact hS.2.2 q h
      · exact AO.sub hA (hL q h)⟩ T' rfl X'
  exact ⟨t2, st t2 a1, b1⟩
theorem law_pre {n : Nat} {sh : Nat → Shp} {ad : Nat → Nat} {w : Mem} (hK : va_K D classes [(cA, .int)] s) (hN : Nst s) (hZ : Stt (AL s) sa s) (hA : AdOk n ad (AL s)) (hP : va_P D classes (wsO n sh ad cA w) H) (hS : va_S (AL s) s.heap H locs) (as : List Value) : ∀ U : State, U.heap = H → s.WarmedH U.vm → PcC n sh D cA ad (AO n ad) sa w as as.toArray U :=
  fun U hU hW => ⟨rfl, by rw [hU]; exact hP, va_K.moved hW.alike hK, hN.warm hW, (hZ.go hW.alike hU hS).sub (fun q h => AO.sub hA h)⟩
theorem law_gT {q : State} {a : Array Value} (hts : ∀ w ∈ lw_tbl, w.before a q = true) : ∀ w ∈ gT, w.before a q = true := fun w h => hts w (List.mem_filter.mp h).1
theorem law_in {n : Nat} {sh : Nat → Shp} {ad : Nat → Nat} {w : Mem} {i : Nat} {q : Nat × va_E} (h : (wsO n sh ad cA w)[i]? = some q) (hP : va_P D classes (wsO n sh ad cA w) H) : q.1 < H.size := by
  have h1 := hP i q h
  revert h1
  simp only [va_at]
  cases q.2 with
  | inl a => simp only []; intro h1; exact (Array.getElem?_eq_some_iff.mp h1).1
  | inr o => simp only []; rintro ⟨r, g1, cell, g2, -⟩; exact (Array.getElem?_eq_some_iff.mp g2).1
theorem law_lt {n : Nat} {sh : Nat → Shp} {ad : Nat → Nat} {w : Mem} {i : Nat} (hi : i < n) (hP : va_P D classes (wsO n sh ad cA w) H) : ad i < H.size := law_in (wsO_get hi) hP
theorem law_C (X : LX p s m meth c b L xs D cA sa adC adM) (hW : Wd s D cA adC adM wC wM H locs) (hM : Ctr l 46 shC D cA adC (AO 46 adC) sa y bytes mL' rt' fr lo (.ref (adC 0) :: As) wC r w1) (my : MV y bytes mL' rt' na) (hl : Cond.methodLink RL index y ∈ gT) (hy : y.cls = RX6)
    (hR : fr + 1 ≤ 10 ∧ 8 + (mL' + 11) + lo ≤ 378) (hn : As.length = na) (hsz : ls.size = 4) (hst : st0 = As.reverse ++ .ref (adC 0) :: rest) (hWr : (rest.map fun v => v.category).sum ≤ 8) (hd : decode code pc = .ok (.invokevirtual index, 3)) (hc : cells ≤ 600000 ∧ slots ≤ 7302250)
    (kk : ∀ (H1 : Heap) (locs1 : List Loc), Wd s D cA adC adM w1 wM H1 locs1 → W p l e room_1 s m #[Value.ref b] below meth c H1 locs1 cells slots Q (F0 m (pc + 3) ls (r.toList ++ rest))) : W p l e room_1 s m #[Value.ref b] below meth c H locs cells slots Q (F0 m pc ls st0) := by
  obtain ⟨⟨hx, hb, hr, hml, hown, hts, -⟩, hK, hN, hZ, hA, hB, hAB⟩ := X
  obtain ⟨hP, hQ, hS⟩ := hW
  have hg := law_gT hts
  have he : (wsO 46 shC adC cA wC)[0]? = some (adC 0, .inr (6, fvs adC (wC 0) 0 [some 1, some 14, some 27, some 30, some 32, some 39, some 41, some 45])) := by rw [wsO_get (by decide)]; rfl
  subst hst
  refine law_back hA hS (va_runV (b := adC 0) (As := As) (rest := rest) (C := y.cls) (Ts := gT) ⟨hx, hb, hml, hown, hg⟩ hM ⟨callB_of na hg (gT_in my.1) rfl rfl rfl (hg _ my.2.2.2.1) (hg _ hl) my.2.2.2.2 hR, hg _ my.2.1, hg _ my.2.2.1⟩ ⟨PcC.blind, va_recv hK hP (ci := 6) (q := (y.cls, TX6, 8)) (by rw [hy]; rfl) he, law_pre hK hN hZ hA hP hS _⟩ rfl hn hsz rfl (lv_room hWr) hd hc) (fun H1 locs1 h1 h2 h3 => kk H1 locs1 ⟨h1, wsO_kept hQ (fun j hj => h2 _ (law_lt hj hQ) ?_), h3⟩)
  rintro ⟨i, hi, e⟩
  exact hAB i j hi hj e.symm
theorem law_M (X : LX p s m meth c b L xs D cA sa adC adM) (hW : Wd s D cA adC adM wC wM H locs) (hM : Ctr l 22 shM D cA adM (AO 22 adM) sa y bytes mL' rt' fr lo (.ref (adM 0) :: As) wM r w1) (my : MV y bytes mL' rt' na) (hl : Cond.methodLink RL index y ∈ gT) (hy : y.cls = RX7)
    (hR : fr + 1 ≤ 10 ∧ 8 + (mL' + 11) + lo ≤ 378) (hn : As.length = na) (hsz : ls.size = 4) (hst : st0 = As.reverse ++ .ref (adM 0) :: rest) (hWr : (rest.map fun v => v.category).sum ≤ 8) (hd : decode code pc = .ok (.invokevirtual index, 3)) (hc : cells ≤ 600000 ∧ slots ≤ 7302250)
    (kk : ∀ (H1 : Heap) (locs1 : List Loc), Wd s D cA adC adM wC w1 H1 locs1 → W p l e room_1 s m #[Value.ref b] below meth c H1 locs1 cells slots Q (F0 m (pc + 3) ls (r.toList ++ rest))) : W p l e room_1 s m #[Value.ref b] below meth c H locs cells slots Q (F0 m pc ls st0) := by
  obtain ⟨⟨hx, hb, hr, hml, hown, hts, -⟩, hK, hN, hZ, hA, hB, hAB⟩ := X
  obtain ⟨hP, hQ, hS⟩ := hW
  have hg := law_gT hts
  have he : ∃ fs, (wsO 22 shM adM cA wM)[0]? = some (adM 0, .inr (7, fs)) := ⟨_, by rw [wsO_get (by decide)]; rfl⟩
  obtain ⟨fs, he⟩ := he
  subst hst
  refine law_back hB hS (va_runV (b := adM 0) (As := As) (rest := rest) (C := y.cls) (Ts := gT) ⟨hx, hb, hml, hown, hg⟩ hM ⟨callB_of na hg (gT_in my.1) rfl rfl rfl (hg _ my.2.2.2.1) (hg _ hl) my.2.2.2.2 hR, hg _ my.2.1, hg _ my.2.2.1⟩ ⟨PcC.blind, va_recv hK hQ (ci := 7) (q := (y.cls, TX7, 37)) (by rw [hy]; rfl) he, law_pre hK hN hZ hB hQ hS _⟩ rfl hn hsz rfl (lv_room hWr) hd hc) (fun H1 locs1 h1 h2 h3 => kk H1 locs1 ⟨wsO_kept hP (fun i hi => h2 _ (law_lt hi hP) ?_), h1, h3⟩)
  rintro ⟨j, hj, e⟩
  exact hAB i j hi hj e
theorem nI_pl (i j : Nat) : nI i + Int32.ofNat j = nI (i + j) := by simp [nI, Int32.ofNat_add]
theorem law_ix {i j : Nat} {k : Int32} (hL : L ≤ 2048) (hk : k = Int32.ofNat j) (hj : i + j < L) : vp_in (nI i + k) L := by
  rw [hk, nI_pl]
  exact vp_in_nI hj (by omega)
theorem law_end {i : Nat} (hL : L ≤ 2048) (hi : i ≤ 4096) (h : ¬ Int32.ofNat L - 4 < nI i) : i + 4 ≤ L := by
  rw [Int32.lt_iff_toInt_lt, Int32.toInt_sub] at h
  have e1 : (Int32.ofNat L).toInt = (L : Int) := nI_toInt (by omega)
  have e2 : (nI i).toInt = (i : Int) := nI_toInt (by omega)
  have e4 : (4 : Int32).toInt = 4 := by decide
  rw [e1, e2, e4] at h
  have e3 : ((L : Int) - 4).bmod (2 ^ 32) = (L : Int) - 4 := by
    apply Int.bmod_eq_of_le <;> omega
  rw [e3] at h
  omega

set_option maxHeartbeats 4000000 in
theorem law_sets (hL : L ≤ 2048) (X : LX p s m meth c b L xs D cA sa adC adM) {Rel : Mem → Mem → Prop} (hs : S2 Rel F_X6_sets F_X7_sets) {i : Nat} (hi : i + 4 ≤ L) (hR : Rel wC wM) (hW : Wd s D cA adC adM wC wM H locs) (hl : lv_has ls 4 [(0, .ref b), (1, .ref (adC 0)), (2, .ref (adM 0)), (3, .int (nI i))])
    (hE : ∀ (wC wM : Mem) (H : Heap) (locs : List Loc), Rel wC wM → Wd s D cA adC adM wC wM H locs → W p l e room_1 s m #[Value.ref b] below meth c H locs 600000 7302250 (lw_Z below #[Value.ref b] s) (F0 m 939 ls [])) : W p l e room_1 s m #[Value.ref b] below meth c H locs 600000 7302250 (lw_Z below #[Value.ref b] s) (F0 m 168 ls []) := by
  have X0 := X
  obtain ⟨⟨hx, hb, hr, hml, hown, hts, hX, hbl, hlocks, hgv⟩, hK, hN, hZ, hA, hB, hAB⟩ := X0
  have hbA : ¬ AL s b := Nat.not_le.mpr hbl
  obtain ⟨r, wC1, wM1, z1, z2, hR1⟩ := hs (xs (nI i + (1 : Int32)).toNatClampNeg) (xs (nI i + (2 : Int32)).toNatClampNeg) wC wM hR
  refine lv_aload_n hx hb dL_law_168 rfl (lv_at hl 1 rfl) ?_
  refine lv_aload_n hx hb dL_law_169 rfl (lv_at hl 0 rfl) ?_
  refine lv_iload_n hx hb dL_law_170 rfl (lv_at hl 3 rfl) ?_
  refine lv_iconst (v := (1 : Int32)) hx hb dL_law_171 (by decide) ?_
  refine lv_iadd hx hb dL_law_172 ?_
  refine va_sld hx hb hX hbl hbA hW.2.2 (law_ix (j := 1) hL rfl (by omega)) dL_law_173 ?_
  refine lv_aload_n hx hb dL_law_174 rfl (lv_at hl 0 rfl) ?_
  refine lv_iload_n hx hb dL_law_175 rfl (lv_at hl 3 rfl) ?_
  refine lv_iconst (v := (2 : Int32)) hx hb dL_law_176 (by decide) ?_
  refine lv_iadd hx hb dL_law_177 ?_
  refine va_sld hx hb hX hbl hbA hW.2.2 (law_ix (j := 2) hL rfl (by omega)) dL_law_178 ?_
  refine law_C (rest := []) X hW (c_X6_sets (AO.ok hA) isC z1) my_X6_sets kl_L_13 rfl ⟨Nat.le_of_ble_eq_true rfl, Nat.le_of_ble_eq_true rfl⟩ rfl hl.1 rfl (Nat.le_of_ble_eq_true rfl) dL_law_179 ⟨Nat.le_refl _, Nat.le_refl _⟩ (fun H locs hW => ?_)
  refine W.eq (g2 := F0 m 182 ls [.int r]) rfl ?_
  refine lv_aload_n hx hb dL_law_182 rfl (lv_at hl 2 rfl) ?_
  refine lv_aload_n hx hb dL_law_183 rfl (lv_at hl 0 rfl) ?_
  refine lv_iload_n hx hb dL_law_184 rfl (lv_at hl 3 rfl) ?_
  refine lv_iconst (v := (1 : Int32)) hx hb dL_law_185 (by decide) ?_
  refine lv_iadd hx hb dL_law_186 ?_
  refine va_sld hx hb hX hbl hbA hW.2.2 (law_ix (j := 1) hL rfl (by omega)) dL_law_187 ?_
  refine lv_aload_n hx hb dL_law_188 rfl (lv_at hl 0 rfl) ?_
  refine lv_iload_n hx hb dL_law_189 rfl (lv_at hl 3 rfl) ?_
  refine lv_iconst (v := (2 : Int32)) hx hb dL_law_190 (by decide) ?_
  refine lv_iadd hx hb dL_law_191 ?_
  refine va_sld hx hb hX hbl hbA hW.2.2 (law_ix (j := 2) hL rfl (by omega)) dL_law_192 ?_
  refine law_M (rest := [.int r]) X hW (c_X7_sets (AO.ok hB) isM z2) my_X7_sets kl_L_17 rfl ⟨Nat.le_of_ble_eq_true rfl, Nat.le_of_ble_eq_true rfl⟩ rfl hl.1 rfl (Nat.le_of_ble_eq_true rfl) dL_law_193 ⟨Nat.le_refl _, Nat.le_refl _⟩ (fun H locs hW => ?_)
  refine W.eq (g2 := F0 m 196 ls [.int r, .int r]) rfl ?_
  refine lv_icmp_eq (tgt := 939) hx hb dL_law_196 (by decide) (fun _ => hE _ _ _ _ hR1 hW) (fun q => absurd rfl q)
set_option maxHeartbeats 4000000 in
theorem law_leg (hL : L ≤ 2048) (X : LX p s m meth c b L xs D cA sa adC adM) {Rel : Mem → Mem → Prop} (hs : S3 Rel F_X6_leg F_X7_leg) {i : Nat} (hi : i + 4 ≤ L) (hR : Rel wC wM) (hW : Wd s D cA adC adM wC wM H locs) (hl : lv_has ls 4 [(0, .ref b), (1, .ref (adC 0)), (2, .ref (adM 0)), (3, .int (nI i))])
    (hE : ∀ (wC wM : Mem) (H : Heap) (locs : List Loc), Rel wC wM → Wd s D cA adC adM wC wM H locs → W p l e room_1 s m #[Value.ref b] below meth c H locs 600000 7302250 (lw_Z below #[Value.ref b] s) (F0 m 939 ls [])) : W p l e room_1 s m #[Value.ref b] below meth c H locs 600000 7302250 (lw_Z below #[Value.ref b] s) (F0 m 201 ls []) := by
  have X0 := X
  obtain ⟨⟨hx, hb, hr, hml, hown, hts, hX, hbl, hlocks, hgv⟩, hK, hN, hZ, hA, hB, hAB⟩ := X0
  have hbA : ¬ AL s b := Nat.not_le.mpr hbl
  obtain ⟨r, wC1, wM1, z1, z2, hR1⟩ := hs (xs (nI i + (1 : Int32)).toNatClampNeg) (xs (nI i + (2 : Int32)).toNatClampNeg) (xs (nI i + (3 : Int32)).toNatClampNeg) wC wM hR
  refine lv_aload_n hx hb dL_law_201 rfl (lv_at hl 1 rfl) ?_
  refine lv_aload_n hx hb dL_law_202 rfl (lv_at hl 0 rfl) ?_
  refine lv_iload_n hx hb dL_law_203 rfl (lv_at hl 3 rfl) ?_
  refine lv_iconst (v := (1 : Int32)) hx hb dL_law_204 (by decide) ?_
  refine lv_iadd hx hb dL_law_205 ?_
  refine va_sld hx hb hX hbl hbA hW.2.2 (law_ix (j := 1) hL rfl (by omega)) dL_law_206 ?_
  refine lv_aload_n hx hb dL_law_207 rfl (lv_at hl 0 rfl) ?_
  refine lv_iload_n hx hb dL_law_208 rfl (lv_at hl 3 rfl) ?_
  refine lv_iconst (v := (2 : Int32)) hx hb dL_law_209 (by decide) ?_
  refine lv_iadd hx hb dL_law_210 ?_
  refine va_sld hx hb hX hbl hbA hW.2.2 (law_ix (j := 2) hL rfl (by omega)) dL_law_211 ?_
  refine lv_aload_n hx hb dL_law_212 rfl (lv_at hl 0 rfl) ?_
  refine lv_iload_n hx hb dL_law_213 rfl (lv_at hl 3 rfl) ?_
  refine lv_iconst (v := (3 : Int32)) hx hb dL_law_214 (by decide) ?_
  refine lv_iadd hx hb dL_law_215 ?_
  refine va_sld hx hb hX hbl hbA hW.2.2 (law_ix (j := 3) hL rfl (by omega)) dL_law_216 ?_
  refine law_C (rest := []) X hW (c_X6_leg (AO.ok hA) isC z1) my_X6_leg kl_L_18 rfl ⟨Nat.le_of_ble_eq_true rfl, Nat.le_of_ble_eq_true rfl⟩ rfl hl.1 rfl (Nat.le_of_ble_eq_true rfl) dL_law_217 ⟨Nat.le_refl _, Nat.le_refl _⟩ (fun H locs hW => ?_)
  refine W.eq (g2 := F0 m 220 ls [.int r]) rfl ?_
  refine lv_aload_n hx hb dL_law_220 rfl (lv_at hl 2 rfl) ?_
  refine lv_aload_n hx hb dL_law_221 rfl (lv_at hl 0 rfl) ?_
  refine lv_iload_n hx hb dL_law_222 rfl (lv_at hl 3 rfl) ?_
  refine lv_iconst (v := (1 : Int32)) hx hb dL_law_223 (by decide) ?_
  refine lv_iadd hx hb dL_law_224 ?_
  refine va_sld hx hb hX hbl hbA hW.2.2 (law_ix (j := 1) hL rfl (by omega)) dL_law_225 ?_
  refine lv_aload_n hx hb dL_law_226 rfl (lv_at hl 0 rfl) ?_
  refine lv_iload_n hx hb dL_law_227 rfl (lv_at hl 3 rfl) ?_
  refine lv_iconst (v := (2 : Int32)) hx hb dL_law_228 (by decide) ?_
  refine lv_iadd hx hb dL_law_229 ?_
  refine va_sld hx hb hX hbl hbA hW.2.2 (law_ix (j := 2) hL rfl (by omega)) dL_law_230 ?_
  refine lv_aload_n hx hb dL_law_231 rfl (lv_at hl 0 rfl) ?_
  refine lv_iload_n hx hb dL_law_232 rfl (lv_at hl 3 rfl) ?_
  refine lv_iconst (v := (3 : Int32)) hx hb dL_law_233 (by decide) ?_
  refine lv_iadd hx hb dL_law_234 ?_
  refine va_sld hx hb hX hbl hbA hW.2.2 (law_ix (j := 3) hL rfl (by omega)) dL_law_235 ?_
  refine law_M (rest := [.int r]) X hW (c_X7_leg (AO.ok hB) isM z2) my_X7_leg kl_L_22 rfl ⟨Nat.le_of_ble_eq_true rfl, Nat.le_of_ble_eq_true rfl⟩ rfl hl.1 rfl (Nat.le_of_ble_eq_true rfl) dL_law_236 ⟨Nat.le_refl _, Nat.le_refl _⟩ (fun H locs hW => ?_)
  refine W.eq (g2 := F0 m 239 ls [.int r, .int r]) rfl ?_
  refine lv_icmp_eq (tgt := 939) hx hb dL_law_239 (by decide) (fun _ => hE _ _ _ _ hR1 hW) (fun q => absurd rfl q)
set_option maxHeartbeats 4000000 in
theorem law_anew (hL : L ≤ 2048) (X : LX p s m meth c b L xs D cA sa adC adM) {Rel : Mem → Mem → Prop} (hs : S0 Rel F_X6_anew F_X7_anew) {i : Nat} (hi : i + 4 ≤ L) (hR : Rel wC wM) (hW : Wd s D cA adC adM wC wM H locs) (hl : lv_has ls 4 [(0, .ref b), (1, .ref (adC 0)), (2, .ref (adM 0)), (3, .int (nI i))])
    (hE : ∀ (wC wM : Mem) (H : Heap) (locs : List Loc), Rel wC wM → Wd s D cA adC adM wC wM H locs → W p l e room_1 s m #[Value.ref b] below meth c H locs 600000 7302250 (lw_Z below #[Value.ref b] s) (F0 m 939 ls [])) : W p l e room_1 s m #[Value.ref b] below meth c H locs 600000 7302250 (lw_Z below #[Value.ref b] s) (F0 m 244 ls []) := by
  have X0 := X
  obtain ⟨⟨hx, hb, hr, hml, hown, hts, hX, hbl, hlocks, hgv⟩, hK, hN, hZ, hA, hB, hAB⟩ := X0
  have hbA : ¬ AL s b := Nat.not_le.mpr hbl
  obtain ⟨r, wC1, wM1, z1, z2, hR1⟩ := hs  wC wM hR
  refine lv_aload_n hx hb dL_law_244 rfl (lv_at hl 1 rfl) ?_
  refine law_C (rest := []) X hW (c_X6_anew (AO.ok hA) isC z1) my_X6_anew kl_L_23 rfl ⟨Nat.le_of_ble_eq_true rfl, Nat.le_of_ble_eq_true rfl⟩ rfl hl.1 rfl (Nat.le_of_ble_eq_true rfl) dL_law_245 ⟨Nat.le_refl _, Nat.le_refl _⟩ (fun H locs hW => ?_)
  refine W.eq (g2 := F0 m 248 ls [.int r]) rfl ?_
  refine lv_aload_n hx hb dL_law_248 rfl (lv_at hl 2 rfl) ?_
  refine law_M (rest := [.int r]) X hW (c_X7_anew (AO.ok hB) isM z2) my_X7_anew kl_L_27 rfl ⟨Nat.le_of_ble_eq_true rfl, Nat.le_of_ble_eq_true rfl⟩ rfl hl.1 rfl (Nat.le_of_ble_eq_true rfl) dL_law_249 ⟨Nat.le_refl _, Nat.le_refl _⟩ (fun H locs hW => ?_)
  refine W.eq (g2 := F0 m 252 ls [.int r, .int r]) rfl ?_
  refine lv_icmp_eq (tgt := 939) hx hb dL_law_252 (by decide) (fun _ => hE _ _ _ _ hR1 hW) (fun q => absurd rfl q)
set_option maxHeartbeats 4000000 in
theorem law_draw (hL : L ≤ 2048) (X : LX p s m meth c b L xs D cA sa adC adM) {Rel : Mem → Mem → Prop} (hs : S1 Rel F_X6_draw F_X7_draw) {i : Nat} (hi : i + 4 ≤ L) (hR : Rel wC wM) (hW : Wd s D cA adC adM wC wM H locs) (hl : lv_has ls 4 [(0, .ref b), (1, .ref (adC 0)), (2, .ref (adM 0)), (3, .int (nI i))])
    (hE : ∀ (wC wM : Mem) (H : Heap) (locs : List Loc), Rel wC wM → Wd s D cA adC adM wC wM H locs → W p l e room_1 s m #[Value.ref b] below meth c H locs 600000 7302250 (lw_Z below #[Value.ref b] s) (F0 m 939 ls [])) : W p l e room_1 s m #[Value.ref b] below meth c H locs 600000 7302250 (lw_Z below #[Value.ref b] s) (F0 m 257 ls []) := by
  have X0 := X
  obtain ⟨⟨hx, hb, hr, hml, hown, hts, hX, hbl, hlocks, hgv⟩, hK, hN, hZ, hA, hB, hAB⟩ := X0
  have hbA : ¬ AL s b := Nat.not_le.mpr hbl
  obtain ⟨r, wC1, wM1, z1, z2, hR1⟩ := hs (xs (nI i + (1 : Int32)).toNatClampNeg) wC wM hR
  refine lv_aload_n hx hb dL_law_257 rfl (lv_at hl 1 rfl) ?_
  refine lv_aload_n hx hb dL_law_258 rfl (lv_at hl 0 rfl) ?_
  refine lv_iload_n hx hb dL_law_259 rfl (lv_at hl 3 rfl) ?_
  refine lv_iconst (v := (1 : Int32)) hx hb dL_law_260 (by decide) ?_
  refine lv_iadd hx hb dL_law_261 ?_
  refine va_sld hx hb hX hbl hbA hW.2.2 (law_ix (j := 1) hL rfl (by omega)) dL_law_262 ?_
  refine law_C (rest := []) X hW (c_X6_draw (AO.ok hA) isC z1) my_X6_draw kl_L_28 rfl ⟨Nat.le_of_ble_eq_true rfl, Nat.le_of_ble_eq_true rfl⟩ rfl hl.1 rfl (Nat.le_of_ble_eq_true rfl) dL_law_263 ⟨Nat.le_refl _, Nat.le_refl _⟩ (fun H locs hW => ?_)
  refine W.eq (g2 := F0 m 266 ls [.int r]) rfl ?_
  refine lv_aload_n hx hb dL_law_266 rfl (lv_at hl 2 rfl) ?_
  refine lv_aload_n hx hb dL_law_267 rfl (lv_at hl 0 rfl) ?_
  refine lv_iload_n hx hb dL_law_268 rfl (lv_at hl 3 rfl) ?_
  refine lv_iconst (v := (1 : Int32)) hx hb dL_law_269 (by decide) ?_
  refine lv_iadd hx hb dL_law_270 ?_
  refine va_sld hx hb hX hbl hbA hW.2.2 (law_ix (j := 1) hL rfl (by omega)) dL_law_271 ?_
  refine law_M (rest := [.int r]) X hW (c_X7_draw (AO.ok hB) isM z2) my_X7_draw kl_L_32 rfl ⟨Nat.le_of_ble_eq_true rfl, Nat.le_of_ble_eq_true rfl⟩ rfl hl.1 rfl (Nat.le_of_ble_eq_true rfl) dL_law_272 ⟨Nat.le_refl _, Nat.le_refl _⟩ (fun H locs hW => ?_)
  refine W.eq (g2 := F0 m 275 ls [.int r, .int r]) rfl ?_
  refine lv_icmp_eq (tgt := 939) hx hb dL_law_275 (by decide) (fun _ => hE _ _ _ _ hR1 hW) (fun q => absurd rfl q)
set_option maxHeartbeats 4000000 in
theorem law_plan (hL : L ≤ 2048) (X : LX p s m meth c b L xs D cA sa adC adM) {Rel : Mem → Mem → Prop} (hs : S1 Rel F_X6_plan F_X7_plan) {i : Nat} (hi : i + 4 ≤ L) (hR : Rel wC wM) (hW : Wd s D cA adC adM wC wM H locs) (hl : lv_has ls 4 [(0, .ref b), (1, .ref (adC 0)), (2, .ref (adM 0)), (3, .int (nI i))])
    (hE : ∀ (wC wM : Mem) (H : Heap) (locs : List Loc), Rel wC wM → Wd s D cA adC adM wC wM H locs → W p l e room_1 s m #[Value.ref b] below meth c H locs 600000 7302250 (lw_Z below #[Value.ref b] s) (F0 m 939 ls [])) : W p l e room_1 s m #[Value.ref b] below meth c H locs 600000 7302250 (lw_Z below #[Value.ref b] s) (F0 m 280 ls []) := by
  have X0 := X
  obtain ⟨⟨hx, hb, hr, hml, hown, hts, hX, hbl, hlocks, hgv⟩, hK, hN, hZ, hA, hB, hAB⟩ := X0
  have hbA : ¬ AL s b := Nat.not_le.mpr hbl
  obtain ⟨r, wC1, wM1, z1, z2, hR1⟩ := hs (xs (nI i + (1 : Int32)).toNatClampNeg) wC wM hR
  refine lv_aload_n hx hb dL_law_280 rfl (lv_at hl 1 rfl) ?_
  refine lv_aload_n hx hb dL_law_281 rfl (lv_at hl 0 rfl) ?_
  refine lv_iload_n hx hb dL_law_282 rfl (lv_at hl 3 rfl) ?_
  refine lv_iconst (v := (1 : Int32)) hx hb dL_law_283 (by decide) ?_
  refine lv_iadd hx hb dL_law_284 ?_
  refine va_sld hx hb hX hbl hbA hW.2.2 (law_ix (j := 1) hL rfl (by omega)) dL_law_285 ?_
  refine law_C (rest := []) X hW (c_X6_plan (AO.ok hA) isC z1) my_X6_plan kl_L_33 rfl ⟨Nat.le_of_ble_eq_true rfl, Nat.le_of_ble_eq_true rfl⟩ rfl hl.1 rfl (Nat.le_of_ble_eq_true rfl) dL_law_286 ⟨Nat.le_refl _, Nat.le_refl _⟩ (fun H locs hW => ?_)
  refine W.eq (g2 := F0 m 289 ls [.int r]) rfl ?_
  refine lv_aload_n hx hb dL_law_289 rfl (lv_at hl 2 rfl) ?_
  refine lv_aload_n hx hb dL_law_290 rfl (lv_at hl 0 rfl) ?_
  refine lv_iload_n hx hb dL_law_291 rfl (lv_at hl 3 rfl) ?_
  refine lv_iconst (v := (1 : Int32)) hx hb dL_law_292 (by decide) ?_
  refine lv_iadd hx hb dL_law_293 ?_
  refine va_sld hx hb hX hbl hbA hW.2.2 (law_ix (j := 1) hL rfl (by omega)) dL_law_294 ?_
  refine law_M (rest := [.int r]) X hW (c_X7_plan (AO.ok hB) isM z2) my_X7_plan kl_L_36 rfl ⟨Nat.le_of_ble_eq_true rfl, Nat.le_of_ble_eq_true rfl⟩ rfl hl.1 rfl (Nat.le_of_ble_eq_true rfl) dL_law_295 ⟨Nat.le_refl _, Nat.le_refl _⟩ (fun H locs hW => ?_)
  refine W.eq (g2 := F0 m 298 ls [.int r, .int r]) rfl ?_
  refine lv_icmp_eq (tgt := 939) hx hb dL_law_298 (by decide) (fun _ => hE _ _ _ _ hR1 hW) (fun q => absurd rfl q)
set_option maxHeartbeats 4000000 in
theorem law_of (hL : L ≤ 2048) (X : LX p s m meth c b L xs D cA sa adC adM) {Rel : Mem → Mem → Prop} (hs : S2 Rel F_X6_of F_X7_of) {i : Nat} (hi : i + 4 ≤ L) (hR : Rel wC wM) (hW : Wd s D cA adC adM wC wM H locs) (hl : lv_has ls 4 [(0, .ref b), (1, .ref (adC 0)), (2, .ref (adM 0)), (3, .int (nI i))])
    (hE : ∀ (wC wM : Mem) (H : Heap) (locs : List Loc), Rel wC wM → Wd s D cA adC adM wC wM H locs → W p l e room_1 s m #[Value.ref b] below meth c H locs 600000 7302250 (lw_Z below #[Value.ref b] s) (F0 m 939 ls [])) : W p l e room_1 s m #[Value.ref b] below meth c H locs 600000 7302250 (lw_Z below #[Value.ref b] s) (F0 m 303 ls []) := by
  have X0 := X
  obtain ⟨⟨hx, hb, hr, hml, hown, hts, hX, hbl, hlocks, hgv⟩, hK, hN, hZ, hA, hB, hAB⟩ := X0
  have hbA : ¬ AL s b := Nat.not_le.mpr hbl
  obtain ⟨r, wC1, wM1, z1, z2, hR1⟩ := hs (xs (nI i + (1 : Int32)).toNatClampNeg) (xs (nI i + (2 : Int32)).toNatClampNeg) wC wM hR
  refine lv_aload_n hx hb dL_law_303 rfl (lv_at hl 1 rfl) ?_
  refine lv_aload_n hx hb dL_law_304 rfl (lv_at hl 0 rfl) ?_
  refine lv_iload_n hx hb dL_law_305 rfl (lv_at hl 3 rfl) ?_
  refine lv_iconst (v := (1 : Int32)) hx hb dL_law_306 (by decide) ?_
  refine lv_iadd hx hb dL_law_307 ?_
  refine va_sld hx hb hX hbl hbA hW.2.2 (law_ix (j := 1) hL rfl (by omega)) dL_law_308 ?_
  refine lv_aload_n hx hb dL_law_309 rfl (lv_at hl 0 rfl) ?_
  refine lv_iload_n hx hb dL_law_310 rfl (lv_at hl 3 rfl) ?_
  refine lv_iconst (v := (2 : Int32)) hx hb dL_law_311 (by decide) ?_
  refine lv_iadd hx hb dL_law_312 ?_
  refine va_sld hx hb hX hbl hbA hW.2.2 (law_ix (j := 2) hL rfl (by omega)) dL_law_313 ?_
  refine law_C (rest := []) X hW (c_X6_of (AO.ok hA) isC z1) my_X6_of kl_L_37 rfl ⟨Nat.le_of_ble_eq_true rfl, Nat.le_of_ble_eq_true rfl⟩ rfl hl.1 rfl (Nat.le_of_ble_eq_true rfl) dL_law_314 ⟨Nat.le_refl _, Nat.le_refl _⟩ (fun H locs hW => ?_)
  refine W.eq (g2 := F0 m 317 ls [.int r]) rfl ?_
  refine lv_aload_n hx hb dL_law_317 rfl (lv_at hl 2 rfl) ?_
  refine lv_aload_n hx hb dL_law_318 rfl (lv_at hl 0 rfl) ?_
  refine lv_iload_n hx hb dL_law_319 rfl (lv_at hl 3 rfl) ?_
  refine lv_iconst (v := (1 : Int32)) hx hb dL_law_320 (by decide) ?_
  refine lv_iadd hx hb dL_law_321 ?_
  refine va_sld hx hb hX hbl hbA hW.2.2 (law_ix (j := 1) hL rfl (by omega)) dL_law_322 ?_
  refine lv_aload_n hx hb dL_law_323 rfl (lv_at hl 0 rfl) ?_
  refine lv_iload_n hx hb dL_law_324 rfl (lv_at hl 3 rfl) ?_
  refine lv_iconst (v := (2 : Int32)) hx hb dL_law_325 (by decide) ?_
  refine lv_iadd hx hb dL_law_326 ?_
  refine va_sld hx hb hX hbl hbA hW.2.2 (law_ix (j := 2) hL rfl (by omega)) dL_law_327 ?_
  refine law_M (rest := [.int r]) X hW (c_X7_of (AO.ok hB) isM z2) my_X7_of kl_L_40 rfl ⟨Nat.le_of_ble_eq_true rfl, Nat.le_of_ble_eq_true rfl⟩ rfl hl.1 rfl (Nat.le_of_ble_eq_true rfl) dL_law_328 ⟨Nat.le_refl _, Nat.le_refl _⟩ (fun H locs hW => ?_)
  refine W.eq (g2 := F0 m 331 ls [.int r, .int r]) rfl ?_
  refine lv_icmp_eq (tgt := 939) hx hb dL_law_331 (by decide) (fun _ => hE _ _ _ _ hR1 hW) (fun q => absurd rfl q)
set_option maxHeartbeats 4000000 in
theorem law_at (hL : L ≤ 2048) (X : LX p s m meth c b L xs D cA sa adC adM) {Rel : Mem → Mem → Prop} (hs : S3 Rel F_X6_at F_X7_at) {i : Nat} (hi : i + 4 ≤ L) (hR : Rel wC wM) (hW : Wd s D cA adC adM wC wM H locs) (hl : lv_has ls 4 [(0, .ref b), (1, .ref (adC 0)), (2, .ref (adM 0)), (3, .int (nI i))])
    (hE : ∀ (wC wM : Mem) (H : Heap) (locs : List Loc), Rel wC wM → Wd s D cA adC adM wC wM H locs → W p l e room_1 s m #[Value.ref b] below meth c H locs 600000 7302250 (lw_Z below #[Value.ref b] s) (F0 m 939 ls [])) : W p l e room_1 s m #[Value.ref b] below meth c H locs 600000 7302250 (lw_Z below #[Value.ref b] s) (F0 m 336 ls []) := by
  have X0 := X
  obtain ⟨⟨hx, hb, hr, hml, hown, hts, hX, hbl, hlocks, hgv⟩, hK, hN, hZ, hA, hB, hAB⟩ := X0
  have hbA : ¬ AL s b := Nat.not_le.mpr hbl
  obtain ⟨r, wC1, wM1, z1, z2, hR1⟩ := hs (xs (nI i + (1 : Int32)).toNatClampNeg) (xs (nI i + (2 : Int32)).toNatClampNeg) (xs (nI i + (3 : Int32)).toNatClampNeg) wC wM hR
  refine lv_aload_n hx hb dL_law_336 rfl (lv_at hl 1 rfl) ?_
  refine lv_aload_n hx hb dL_law_337 rfl (lv_at hl 0 rfl) ?_
  refine lv_iload_n hx hb dL_law_338 rfl (lv_at hl 3 rfl) ?_
  refine lv_iconst (v := (1 : Int32)) hx hb dL_law_339 (by decide) ?_
  refine lv_iadd hx hb dL_law_340 ?_
  refine va_sld hx hb hX hbl hbA hW.2.2 (law_ix (j := 1) hL rfl (by omega)) dL_law_341 ?_
  refine lv_aload_n hx hb dL_law_342 rfl (lv_at hl 0 rfl) ?_
  refine lv_iload_n hx hb dL_law_343 rfl (lv_at hl 3 rfl) ?_
  refine lv_iconst (v := (2 : Int32)) hx hb dL_law_344 (by decide) ?_
  refine lv_iadd hx hb dL_law_345 ?_
  refine va_sld hx hb hX hbl hbA hW.2.2 (law_ix (j := 2) hL rfl (by omega)) dL_law_346 ?_
  refine lv_aload_n hx hb dL_law_347 rfl (lv_at hl 0 rfl) ?_
  refine lv_iload_n hx hb dL_law_348 rfl (lv_at hl 3 rfl) ?_
  refine lv_iconst (v := (3 : Int32)) hx hb dL_law_349 (by decide) ?_
  refine lv_iadd hx hb dL_law_350 ?_
  refine va_sld hx hb hX hbl hbA hW.2.2 (law_ix (j := 3) hL rfl (by omega)) dL_law_351 ?_
  refine law_C (rest := []) X hW (c_X6_at (AO.ok hA) isC z1) my_X6_at kl_L_41 rfl ⟨Nat.le_of_ble_eq_true rfl, Nat.le_of_ble_eq_true rfl⟩ rfl hl.1 rfl (Nat.le_of_ble_eq_true rfl) dL_law_352 ⟨Nat.le_refl _, Nat.le_refl _⟩ (fun H locs hW => ?_)
  refine W.eq (g2 := F0 m 355 ls [.int r]) rfl ?_
  refine lv_aload_n hx hb dL_law_355 rfl (lv_at hl 2 rfl) ?_
  refine lv_aload_n hx hb dL_law_356 rfl (lv_at hl 0 rfl) ?_
  refine lv_iload_n hx hb dL_law_357 rfl (lv_at hl 3 rfl) ?_
  refine lv_iconst (v := (1 : Int32)) hx hb dL_law_358 (by decide) ?_
  refine lv_iadd hx hb dL_law_359 ?_
  refine va_sld hx hb hX hbl hbA hW.2.2 (law_ix (j := 1) hL rfl (by omega)) dL_law_360 ?_
  refine lv_aload_n hx hb dL_law_361 rfl (lv_at hl 0 rfl) ?_
  refine lv_iload_n hx hb dL_law_362 rfl (lv_at hl 3 rfl) ?_
  refine lv_iconst (v := (2 : Int32)) hx hb dL_law_363 (by decide) ?_
  refine lv_iadd hx hb dL_law_364 ?_
  refine va_sld hx hb hX hbl hbA hW.2.2 (law_ix (j := 2) hL rfl (by omega)) dL_law_365 ?_
  refine lv_aload_n hx hb dL_law_366 rfl (lv_at hl 0 rfl) ?_
  refine lv_iload_n hx hb dL_law_367 rfl (lv_at hl 3 rfl) ?_
  refine lv_iconst (v := (3 : Int32)) hx hb dL_law_368 (by decide) ?_
  refine lv_iadd hx hb dL_law_369 ?_
  refine va_sld hx hb hX hbl hbA hW.2.2 (law_ix (j := 3) hL rfl (by omega)) dL_law_370 ?_
  refine law_M (rest := [.int r]) X hW (c_X7_at (AO.ok hB) isM z2) my_X7_at kl_L_44 rfl ⟨Nat.le_of_ble_eq_true rfl, Nat.le_of_ble_eq_true rfl⟩ rfl hl.1 rfl (Nat.le_of_ble_eq_true rfl) dL_law_371 ⟨Nat.le_refl _, Nat.le_refl _⟩ (fun H locs hW => ?_)
  refine W.eq (g2 := F0 m 374 ls [.int r, .int r]) rfl ?_
  refine lv_icmp_eq (tgt := 939) hx hb dL_law_374 (by decide) (fun _ => hE _ _ _ _ hR1 hW) (fun q => absurd rfl q)
set_option maxHeartbeats 4000000 in
theorem law_run (hL : L ≤ 2048) (X : LX p s m meth c b L xs D cA sa adC adM) {Rel : Mem → Mem → Prop} (hs : S2 Rel F_X6_run F_X7_run) {i : Nat} (hi : i + 4 ≤ L) (hR : Rel wC wM) (hW : Wd s D cA adC adM wC wM H locs) (hl : lv_has ls 4 [(0, .ref b), (1, .ref (adC 0)), (2, .ref (adM 0)), (3, .int (nI i))])
    (hE : ∀ (wC wM : Mem) (H : Heap) (locs : List Loc), Rel wC wM → Wd s D cA adC adM wC wM H locs → W p l e room_1 s m #[Value.ref b] below meth c H locs 600000 7302250 (lw_Z below #[Value.ref b] s) (F0 m 939 ls [])) : W p l e room_1 s m #[Value.ref b] below meth c H locs 600000 7302250 (lw_Z below #[Value.ref b] s) (F0 m 379 ls []) := by
  have X0 := X
  obtain ⟨⟨hx, hb, hr, hml, hown, hts, hX, hbl, hlocks, hgv⟩, hK, hN, hZ, hA, hB, hAB⟩ := X0
  have hbA : ¬ AL s b := Nat.not_le.mpr hbl
  obtain ⟨r, wC1, wM1, z1, z2, hR1⟩ := hs (xs (nI i + (1 : Int32)).toNatClampNeg) (xs (nI i + (2 : Int32)).toNatClampNeg) wC wM hR
  refine lv_aload_n hx hb dL_law_379 rfl (lv_at hl 1 rfl) ?_
  refine lv_aload_n hx hb dL_law_380 rfl (lv_at hl 0 rfl) ?_
  refine lv_iload_n hx hb dL_law_381 rfl (lv_at hl 3 rfl) ?_
  refine lv_iconst (v := (1 : Int32)) hx hb dL_law_382 (by decide) ?_
  refine lv_iadd hx hb dL_law_383 ?_
  refine va_sld hx hb hX hbl hbA hW.2.2 (law_ix (j := 1) hL rfl (by omega)) dL_law_384 ?_
  refine lv_aload_n hx hb dL_law_385 rfl (lv_at hl 0 rfl) ?_
  refine lv_iload_n hx hb dL_law_386 rfl (lv_at hl 3 rfl) ?_
  refine lv_iconst (v := (2 : Int32)) hx hb dL_law_387 (by decide) ?_
  refine lv_iadd hx hb dL_law_388 ?_
  refine va_sld hx hb hX hbl hbA hW.2.2 (law_ix (j := 2) hL rfl (by omega)) dL_law_389 ?_
  refine law_C (rest := []) X hW (c_X6_run (AO.ok hA) isC z1) my_X6_run kl_L_45 rfl ⟨Nat.le_of_ble_eq_true rfl, Nat.le_of_ble_eq_true rfl⟩ rfl hl.1 rfl (Nat.le_of_ble_eq_true rfl) dL_law_390 ⟨Nat.le_refl _, Nat.le_refl _⟩ (fun H locs hW => ?_)
  refine W.eq (g2 := F0 m 393 ls [.int r]) rfl ?_
  refine lv_aload_n hx hb dL_law_393 rfl (lv_at hl 2 rfl) ?_
  refine lv_aload_n hx hb dL_law_394 rfl (lv_at hl 0 rfl) ?_
  refine lv_iload_n hx hb dL_law_395 rfl (lv_at hl 3 rfl) ?_
  refine lv_iconst (v := (1 : Int32)) hx hb dL_law_396 (by decide) ?_
  refine lv_iadd hx hb dL_law_397 ?_
  refine va_sld hx hb hX hbl hbA hW.2.2 (law_ix (j := 1) hL rfl (by omega)) dL_law_398 ?_
  refine lv_aload_n hx hb dL_law_399 rfl (lv_at hl 0 rfl) ?_
  refine lv_iload_n hx hb dL_law_400 rfl (lv_at hl 3 rfl) ?_
  refine lv_iconst (v := (2 : Int32)) hx hb dL_law_401 (by decide) ?_
  refine lv_iadd hx hb dL_law_402 ?_
  refine va_sld hx hb hX hbl hbA hW.2.2 (law_ix (j := 2) hL rfl (by omega)) dL_law_403 ?_
  refine law_M (rest := [.int r]) X hW (c_X7_run (AO.ok hB) isM z2) my_X7_run kl_L_48 rfl ⟨Nat.le_of_ble_eq_true rfl, Nat.le_of_ble_eq_true rfl⟩ rfl hl.1 rfl (Nat.le_of_ble_eq_true rfl) dL_law_404 ⟨Nat.le_refl _, Nat.le_refl _⟩ (fun H locs hW => ?_)
  refine W.eq (g2 := F0 m 407 ls [.int r, .int r]) rfl ?_
  refine lv_icmp_eq (tgt := 939) hx hb dL_law_407 (by decide) (fun _ => hE _ _ _ _ hR1 hW) (fun q => absurd rfl q)
set_option maxHeartbeats 4000000 in
theorem law_seen (hL : L ≤ 2048) (X : LX p s m meth c b L xs D cA sa adC adM) {Rel : Mem → Mem → Prop} (hs : S1 Rel F_X6_seen F_X7_seen) {i : Nat} (hi : i + 4 ≤ L) (hR : Rel wC wM) (hW : Wd s D cA adC adM wC wM H locs) (hl : lv_has ls 4 [(0, .ref b), (1, .ref (adC 0)), (2, .ref (adM 0)), (3, .int (nI i))])
    (hE : ∀ (wC wM : Mem) (H : Heap) (locs : List Loc), Rel wC wM → Wd s D cA adC adM wC wM H locs → W p l e room_1 s m #[Value.ref b] below meth c H locs 600000 7302250 (lw_Z below #[Value.ref b] s) (F0 m 939 ls [])) : W p l e room_1 s m #[Value.ref b] below meth c H locs 600000 7302250 (lw_Z below #[Value.ref b] s) (F0 m 412 ls []) := by
  have X0 := X
  obtain ⟨⟨hx, hb, hr, hml, hown, hts, hX, hbl, hlocks, hgv⟩, hK, hN, hZ, hA, hB, hAB⟩ := X0
  have hbA : ¬ AL s b := Nat.not_le.mpr hbl
  obtain ⟨r, wC1, wM1, z1, z2, hR1⟩ := hs (xs (nI i + (1 : Int32)).toNatClampNeg) wC wM hR
  refine lv_aload_n hx hb dL_law_412 rfl (lv_at hl 1 rfl) ?_
  refine lv_aload_n hx hb dL_law_413 rfl (lv_at hl 0 rfl) ?_
  refine lv_iload_n hx hb dL_law_414 rfl (lv_at hl 3 rfl) ?_
  refine lv_iconst (v := (1 : Int32)) hx hb dL_law_415 (by decide) ?_
  refine lv_iadd hx hb dL_law_416 ?_
  refine va_sld hx hb hX hbl hbA hW.2.2 (law_ix (j := 1) hL rfl (by omega)) dL_law_417 ?_
  refine law_C (rest := []) X hW (c_X6_seen (AO.ok hA) isC z1) my_X6_seen kl_L_49 rfl ⟨Nat.le_of_ble_eq_true rfl, Nat.le_of_ble_eq_true rfl⟩ rfl hl.1 rfl (Nat.le_of_ble_eq_true rfl) dL_law_418 ⟨Nat.le_refl _, Nat.le_refl _⟩ (fun H locs hW => ?_)
  refine W.eq (g2 := F0 m 421 ls [.int r]) rfl ?_
  refine lv_aload_n hx hb dL_law_421 rfl (lv_at hl 2 rfl) ?_
  refine lv_aload_n hx hb dL_law_422 rfl (lv_at hl 0 rfl) ?_
  refine lv_iload_n hx hb dL_law_423 rfl (lv_at hl 3 rfl) ?_
  refine lv_iconst (v := (1 : Int32)) hx hb dL_law_424 (by decide) ?_
  refine lv_iadd hx hb dL_law_425 ?_
  refine va_sld hx hb hX hbl hbA hW.2.2 (law_ix (j := 1) hL rfl (by omega)) dL_law_426 ?_
  refine law_M (rest := [.int r]) X hW (c_X7_seen (AO.ok hB) isM z2) my_X7_seen kl_L_52 rfl ⟨Nat.le_of_ble_eq_true rfl, Nat.le_of_ble_eq_true rfl⟩ rfl hl.1 rfl (Nat.le_of_ble_eq_true rfl) dL_law_427 ⟨Nat.le_refl _, Nat.le_refl _⟩ (fun H locs hW => ?_)
  refine W.eq (g2 := F0 m 430 ls [.int r, .int r]) rfl ?_
  refine lv_icmp_eq (tgt := 939) hx hb dL_law_430 (by decide) (fun _ => hE _ _ _ _ hR1 hW) (fun q => absurd rfl q)
set_option maxHeartbeats 4000000 in
theorem law_told (hL : L ≤ 2048) (X : LX p s m meth c b L xs D cA sa adC adM) {Rel : Mem → Mem → Prop} (hs : S1 Rel F_X6_told F_X7_told) {i : Nat} (hi : i + 4 ≤ L) (hR : Rel wC wM) (hW : Wd s D cA adC adM wC wM H locs) (hl : lv_has ls 4 [(0, .ref b), (1, .ref (adC 0)), (2, .ref (adM 0)), (3, .int (nI i))])
    (hE : ∀ (wC wM : Mem) (H : Heap) (locs : List Loc), Rel wC wM → Wd s D cA adC adM wC wM H locs → W p l e room_1 s m #[Value.ref b] below meth c H locs 600000 7302250 (lw_Z below #[Value.ref b] s) (F0 m 939 ls [])) : W p l e room_1 s m #[Value.ref b] below meth c H locs 600000 7302250 (lw_Z below #[Value.ref b] s) (F0 m 435 ls []) := by
  have X0 := X
  obtain ⟨⟨hx, hb, hr, hml, hown, hts, hX, hbl, hlocks, hgv⟩, hK, hN, hZ, hA, hB, hAB⟩ := X0
  have hbA : ¬ AL s b := Nat.not_le.mpr hbl
  obtain ⟨r, wC1, wM1, z1, z2, hR1⟩ := hs (xs (nI i + (1 : Int32)).toNatClampNeg) wC wM hR
  refine lv_aload_n hx hb dL_law_435 rfl (lv_at hl 1 rfl) ?_
  refine lv_aload_n hx hb dL_law_436 rfl (lv_at hl 0 rfl) ?_
  refine lv_iload_n hx hb dL_law_437 rfl (lv_at hl 3 rfl) ?_
  refine lv_iconst (v := (1 : Int32)) hx hb dL_law_438 (by decide) ?_
  refine lv_iadd hx hb dL_law_439 ?_
  refine va_sld hx hb hX hbl hbA hW.2.2 (law_ix (j := 1) hL rfl (by omega)) dL_law_440 ?_
  refine law_C (rest := []) X hW (c_X6_told (AO.ok hA) isC z1) my_X6_told kl_L_53 rfl ⟨Nat.le_of_ble_eq_true rfl, Nat.le_of_ble_eq_true rfl⟩ rfl hl.1 rfl (Nat.le_of_ble_eq_true rfl) dL_law_441 ⟨Nat.le_refl _, Nat.le_refl _⟩ (fun H locs hW => ?_)
  refine W.eq (g2 := F0 m 444 ls [.int r]) rfl ?_
  refine lv_aload_n hx hb dL_law_444 rfl (lv_at hl 2 rfl) ?_
  refine lv_aload_n hx hb dL_law_445 rfl (lv_at hl 0 rfl) ?_
  refine lv_iload_n hx hb dL_law_446 rfl (lv_at hl 3 rfl) ?_
  refine lv_iconst (v := (1 : Int32)) hx hb dL_law_447 (by decide) ?_
  refine lv_iadd hx hb dL_law_448 ?_
  refine va_sld hx hb hX hbl hbA hW.2.2 (law_ix (j := 1) hL rfl (by omega)) dL_law_449 ?_
  refine law_M (rest := [.int r]) X hW (c_X7_told (AO.ok hB) isM z2) my_X7_told kl_L_56 rfl ⟨Nat.le_of_ble_eq_true rfl, Nat.le_of_ble_eq_true rfl⟩ rfl hl.1 rfl (Nat.le_of_ble_eq_true rfl) dL_law_450 ⟨Nat.le_refl _, Nat.le_refl _⟩ (fun H locs hW => ?_)
  refine W.eq (g2 := F0 m 453 ls [.int r, .int r]) rfl ?_
  refine lv_icmp_eq (tgt := 939) hx hb dL_law_453 (by decide) (fun _ => hE _ _ _ _ hR1 hW) (fun q => absurd rfl q)
set_option maxHeartbeats 4000000 in
theorem law_both (hL : L ≤ 2048) (X : LX p s m meth c b L xs D cA sa adC adM) {Rel : Mem → Mem → Prop} (hs : S0 Rel F_X6_both F_X7_both) {i : Nat} (hi : i + 4 ≤ L) (hR : Rel wC wM) (hW : Wd s D cA adC adM wC wM H locs) (hl : lv_has ls 4 [(0, .ref b), (1, .ref (adC 0)), (2, .ref (adM 0)), (3, .int (nI i))])
    (hE : ∀ (wC wM : Mem) (H : Heap) (locs : List Loc), Rel wC wM → Wd s D cA adC adM wC wM H locs → W p l e room_1 s m #[Value.ref b] below meth c H locs 600000 7302250 (lw_Z below #[Value.ref b] s) (F0 m 939 ls [])) : W p l e room_1 s m #[Value.ref b] below meth c H locs 600000 7302250 (lw_Z below #[Value.ref b] s) (F0 m 458 ls []) := by
  have X0 := X
  obtain ⟨⟨hx, hb, hr, hml, hown, hts, hX, hbl, hlocks, hgv⟩, hK, hN, hZ, hA, hB, hAB⟩ := X0
  have hbA : ¬ AL s b := Nat.not_le.mpr hbl
  obtain ⟨r, wC1, wM1, z1, z2, hR1⟩ := hs  wC wM hR
  refine lv_aload_n hx hb dL_law_458 rfl (lv_at hl 1 rfl) ?_
  refine law_C (rest := []) X hW (c_X6_both (AO.ok hA) isC z1) my_X6_both kl_L_57 rfl ⟨Nat.le_of_ble_eq_true rfl, Nat.le_of_ble_eq_true rfl⟩ rfl hl.1 rfl (Nat.le_of_ble_eq_true rfl) dL_law_459 ⟨Nat.le_refl _, Nat.le_refl _⟩ (fun H locs hW => ?_)
  refine W.eq (g2 := F0 m 462 ls [.int r]) rfl ?_
  refine lv_aload_n hx hb dL_law_462 rfl (lv_at hl 2 rfl) ?_
  refine law_M (rest := [.int r]) X hW (c_X7_both (AO.ok hB) isM z2) my_X7_both kl_L_60 rfl ⟨Nat.le_of_ble_eq_true rfl, Nat.le_of_ble_eq_true rfl⟩ rfl hl.1 rfl (Nat.le_of_ble_eq_true rfl) dL_law_463 ⟨Nat.le_refl _, Nat.le_refl _⟩ (fun H locs hW => ?_)
  refine W.eq (g2 := F0 m 466 ls [.int r, .int r]) rfl ?_
  refine lv_icmp_eq (tgt := 939) hx hb dL_law_466 (by decide) (fun _ => hE _ _ _ _ hR1 hW) (fun q => absurd rfl q)
set_option maxHeartbeats 4000000 in
theorem law_off (hL : L ≤ 2048) (X : LX p s m meth c b L xs D cA sa adC adM) {Rel : Mem → Mem → Prop} (hs : S1 Rel F_X6_off F_X7_off) {i : Nat} (hi : i + 4 ≤ L) (hR : Rel wC wM) (hW : Wd s D cA adC adM wC wM H locs) (hl : lv_has ls 4 [(0, .ref b), (1, .ref (adC 0)), (2, .ref (adM 0)), (3, .int (nI i))])
    (hE : ∀ (wC wM : Mem) (H : Heap) (locs : List Loc), Rel wC wM → Wd s D cA adC adM wC wM H locs → W p l e room_1 s m #[Value.ref b] below meth c H locs 600000 7302250 (lw_Z below #[Value.ref b] s) (F0 m 939 ls [])) : W p l e room_1 s m #[Value.ref b] below meth c H locs 600000 7302250 (lw_Z below #[Value.ref b] s) (F0 m 471 ls []) := by
  have X0 := X
  obtain ⟨⟨hx, hb, hr, hml, hown, hts, hX, hbl, hlocks, hgv⟩, hK, hN, hZ, hA, hB, hAB⟩ := X0
  have hbA : ¬ AL s b := Nat.not_le.mpr hbl
  obtain ⟨r, wC1, wM1, z1, z2, hR1⟩ := hs (xs (nI i + (1 : Int32)).toNatClampNeg) wC wM hR
  refine lv_aload_n hx hb dL_law_471 rfl (lv_at hl 1 rfl) ?_
  refine lv_aload_n hx hb dL_law_472 rfl (lv_at hl 0 rfl) ?_
  refine lv_iload_n hx hb dL_law_473 rfl (lv_at hl 3 rfl) ?_
  refine lv_iconst (v := (1 : Int32)) hx hb dL_law_474 (by decide) ?_
  refine lv_iadd hx hb dL_law_475 ?_
  refine va_sld hx hb hX hbl hbA hW.2.2 (law_ix (j := 1) hL rfl (by omega)) dL_law_476 ?_
  refine law_C (rest := []) X hW (c_X6_off (AO.ok hA) isC z1) my_X6_off kl_L_61 rfl ⟨Nat.le_of_ble_eq_true rfl, Nat.le_of_ble_eq_true rfl⟩ rfl hl.1 rfl (Nat.le_of_ble_eq_true rfl) dL_law_477 ⟨Nat.le_refl _, Nat.le_refl _⟩ (fun H locs hW => ?_)
  refine W.eq (g2 := F0 m 480 ls [.int r]) rfl ?_
  refine lv_aload_n hx hb dL_law_480 rfl (lv_at hl 2 rfl) ?_
  refine lv_aload_n hx hb dL_law_481 rfl (lv_at hl 0 rfl) ?_
  refine lv_iload_n hx hb dL_law_482 rfl (lv_at hl 3 rfl) ?_
  refine lv_iconst (v := (1 : Int32)) hx hb dL_law_483 (by decide) ?_
  refine lv_iadd hx hb dL_law_484 ?_
  refine va_sld hx hb hX hbl hbA hW.2.2 (law_ix (j := 1) hL rfl (by omega)) dL_law_485 ?_
  refine law_M (rest := [.int r]) X hW (c_X7_off (AO.ok hB) isM z2) my_X7_off kl_L_64 rfl ⟨Nat.le_of_ble_eq_true rfl, Nat.le_of_ble_eq_true rfl⟩ rfl hl.1 rfl (Nat.le_of_ble_eq_true rfl) dL_law_486 ⟨Nat.le_refl _, Nat.le_refl _⟩ (fun H locs hW => ?_)
  refine W.eq (g2 := F0 m 489 ls [.int r, .int r]) rfl ?_
  refine lv_icmp_eq (tgt := 939) hx hb dL_law_489 (by decide) (fun _ => hE _ _ _ _ hR1 hW) (fun q => absurd rfl q)
set_option maxHeartbeats 4000000 in
theorem law_dies (hL : L ≤ 2048) (X : LX p s m meth c b L xs D cA sa adC adM) {Rel : Mem → Mem → Prop} (hs : S1 Rel F_X6_dies F_X7_dies) {i : Nat} (hi : i + 4 ≤ L) (hR : Rel wC wM) (hW : Wd s D cA adC adM wC wM H locs) (hl : lv_has ls 4 [(0, .ref b), (1, .ref (adC 0)), (2, .ref (adM 0)), (3, .int (nI i))])
    (hE : ∀ (wC wM : Mem) (H : Heap) (locs : List Loc), Rel wC wM → Wd s D cA adC adM wC wM H locs → W p l e room_1 s m #[Value.ref b] below meth c H locs 600000 7302250 (lw_Z below #[Value.ref b] s) (F0 m 939 ls [])) : W p l e room_1 s m #[Value.ref b] below meth c H locs 600000 7302250 (lw_Z below #[Value.ref b] s) (F0 m 494 ls []) := by
  have X0 := X
  obtain ⟨⟨hx, hb, hr, hml, hown, hts, hX, hbl, hlocks, hgv⟩, hK, hN, hZ, hA, hB, hAB⟩ := X0
  have hbA : ¬ AL s b := Nat.not_le.mpr hbl
  obtain ⟨r, wC1, wM1, z1, z2, hR1⟩ := hs (xs (nI i + (1 : Int32)).toNatClampNeg) wC wM hR
  refine lv_aload_n hx hb dL_law_494 rfl (lv_at hl 1 rfl) ?_
  refine lv_aload_n hx hb dL_law_495 rfl (lv_at hl 0 rfl) ?_
  refine lv_iload_n hx hb dL_law_496 rfl (lv_at hl 3 rfl) ?_
  refine lv_iconst (v := (1 : Int32)) hx hb dL_law_497 (by decide) ?_
  refine lv_iadd hx hb dL_law_498 ?_
  refine va_sld hx hb hX hbl hbA hW.2.2 (law_ix (j := 1) hL rfl (by omega)) dL_law_499 ?_
  refine law_C (rest := []) X hW (c_X6_dies (AO.ok hA) isC z1) my_X6_dies kl_L_65 rfl ⟨Nat.le_of_ble_eq_true rfl, Nat.le_of_ble_eq_true rfl⟩ rfl hl.1 rfl (Nat.le_of_ble_eq_true rfl) dL_law_500 ⟨Nat.le_refl _, Nat.le_refl _⟩ (fun H locs hW => ?_)
  refine W.eq (g2 := F0 m 503 ls [.int r]) rfl ?_
  refine lv_aload_n hx hb dL_law_503 rfl (lv_at hl 2 rfl) ?_
  refine lv_aload_n hx hb dL_law_504 rfl (lv_at hl 0 rfl) ?_
  refine lv_iload_n hx hb dL_law_505 rfl (lv_at hl 3 rfl) ?_
  refine lv_iconst (v := (1 : Int32)) hx hb dL_law_506 (by decide) ?_
  refine lv_iadd hx hb dL_law_507 ?_
  refine va_sld hx hb hX hbl hbA hW.2.2 (law_ix (j := 1) hL rfl (by omega)) dL_law_508 ?_
  refine law_M (rest := [.int r]) X hW (c_X7_dies (AO.ok hB) isM z2) my_X7_dies kl_L_68 rfl ⟨Nat.le_of_ble_eq_true rfl, Nat.le_of_ble_eq_true rfl⟩ rfl hl.1 rfl (Nat.le_of_ble_eq_true rfl) dL_law_509 ⟨Nat.le_refl _, Nat.le_refl _⟩ (fun H locs hW => ?_)
  refine W.eq (g2 := F0 m 512 ls [.int r, .int r]) rfl ?_
  refine lv_icmp_eq (tgt := 939) hx hb dL_law_512 (by decide) (fun _ => hE _ _ _ _ hR1 hW) (fun q => absurd rfl q)
set_option maxHeartbeats 4000000 in
theorem law_event (hL : L ≤ 2048) (X : LX p s m meth c b L xs D cA sa adC adM) {Rel : Mem → Mem → Prop} (hs : S2 Rel F_X6_event F_X7_event) {i : Nat} (hi : i + 4 ≤ L) (hR : Rel wC wM) (hW : Wd s D cA adC adM wC wM H locs) (hl : lv_has ls 4 [(0, .ref b), (1, .ref (adC 0)), (2, .ref (adM 0)), (3, .int (nI i))])
    (hE : ∀ (wC wM : Mem) (H : Heap) (locs : List Loc), Rel wC wM → Wd s D cA adC adM wC wM H locs → W p l e room_1 s m #[Value.ref b] below meth c H locs 600000 7302250 (lw_Z below #[Value.ref b] s) (F0 m 939 ls [])) : W p l e room_1 s m #[Value.ref b] below meth c H locs 600000 7302250 (lw_Z below #[Value.ref b] s) (F0 m 517 ls []) := by
  have X0 := X
  obtain ⟨⟨hx, hb, hr, hml, hown, hts, hX, hbl, hlocks, hgv⟩, hK, hN, hZ, hA, hB, hAB⟩ := X0
  have hbA : ¬ AL s b := Nat.not_le.mpr hbl
  obtain ⟨r, wC1, wM1, z1, z2, hR1⟩ := hs (xs (nI i + (1 : Int32)).toNatClampNeg) (xs (nI i + (2 : Int32)).toNatClampNeg) wC wM hR
  refine lv_aload_n hx hb dL_law_517 rfl (lv_at hl 1 rfl) ?_
  refine lv_aload_n hx hb dL_law_518 rfl (lv_at hl 0 rfl) ?_
  refine lv_iload_n hx hb dL_law_519 rfl (lv_at hl 3 rfl) ?_
  refine lv_iconst (v := (1 : Int32)) hx hb dL_law_520 (by decide) ?_
  refine lv_iadd hx hb dL_law_521 ?_
  refine va_sld hx hb hX hbl hbA hW.2.2 (law_ix (j := 1) hL rfl (by omega)) dL_law_522 ?_
  refine lv_aload_n hx hb dL_law_523 rfl (lv_at hl 0 rfl) ?_
  refine lv_iload_n hx hb dL_law_524 rfl (lv_at hl 3 rfl) ?_
  refine lv_iconst (v := (2 : Int32)) hx hb dL_law_525 (by decide) ?_
  refine lv_iadd hx hb dL_law_526 ?_
  refine va_sld hx hb hX hbl hbA hW.2.2 (law_ix (j := 2) hL rfl (by omega)) dL_law_527 ?_
  refine law_C (rest := []) X hW (c_X6_event (AO.ok hA) isC z1) my_X6_event kl_L_69 rfl ⟨Nat.le_of_ble_eq_true rfl, Nat.le_of_ble_eq_true rfl⟩ rfl hl.1 rfl (Nat.le_of_ble_eq_true rfl) dL_law_528 ⟨Nat.le_refl _, Nat.le_refl _⟩ (fun H locs hW => ?_)
  refine W.eq (g2 := F0 m 531 ls [.int r]) rfl ?_
  refine lv_aload_n hx hb dL_law_531 rfl (lv_at hl 2 rfl) ?_
  refine lv_aload_n hx hb dL_law_532 rfl (lv_at hl 0 rfl) ?_
  refine lv_iload_n hx hb dL_law_533 rfl (lv_at hl 3 rfl) ?_
  refine lv_iconst (v := (1 : Int32)) hx hb dL_law_534 (by decide) ?_
  refine lv_iadd hx hb dL_law_535 ?_
  refine va_sld hx hb hX hbl hbA hW.2.2 (law_ix (j := 1) hL rfl (by omega)) dL_law_536 ?_
  refine lv_aload_n hx hb dL_law_537 rfl (lv_at hl 0 rfl) ?_
  refine lv_iload_n hx hb dL_law_538 rfl (lv_at hl 3 rfl) ?_
  refine lv_iconst (v := (2 : Int32)) hx hb dL_law_539 (by decide) ?_
  refine lv_iadd hx hb dL_law_540 ?_
  refine va_sld hx hb hX hbl hbA hW.2.2 (law_ix (j := 2) hL rfl (by omega)) dL_law_541 ?_
  refine law_M (rest := [.int r]) X hW (c_X7_event (AO.ok hB) isM z2) my_X7_event kl_L_72 rfl ⟨Nat.le_of_ble_eq_true rfl, Nat.le_of_ble_eq_true rfl⟩ rfl hl.1 rfl (Nat.le_of_ble_eq_true rfl) dL_law_542 ⟨Nat.le_refl _, Nat.le_refl _⟩ (fun H locs hW => ?_)
  refine W.eq (g2 := F0 m 545 ls [.int r, .int r]) rfl ?_
  refine lv_icmp_eq (tgt := 939) hx hb dL_law_545 (by decide) (fun _ => hE _ _ _ _ hR1 hW) (fun q => absurd rfl q)
set_option maxHeartbeats 4000000 in
theorem law_events (hL : L ≤ 2048) (X : LX p s m meth c b L xs D cA sa adC adM) {Rel : Mem → Mem → Prop} (hs : S0 Rel F_X6_events F_X7_events) {i : Nat} (hi : i + 4 ≤ L) (hR : Rel wC wM) (hW : Wd s D cA adC adM wC wM H locs) (hl : lv_has ls 4 [(0, .ref b), (1, .ref (adC 0)), (2, .ref (adM 0)), (3, .int (nI i))])
    (hE : ∀ (wC wM : Mem) (H : Heap) (locs : List Loc), Rel wC wM → Wd s D cA adC adM wC wM H locs → W p l e room_1 s m #[Value.ref b] below meth c H locs 600000 7302250 (lw_Z below #[Value.ref b] s) (F0 m 939 ls [])) : W p l e room_1 s m #[Value.ref b] below meth c H locs 600000 7302250 (lw_Z below #[Value.ref b] s) (F0 m 550 ls []) := by
  have X0 := X
  obtain ⟨⟨hx, hb, hr, hml, hown, hts, hX, hbl, hlocks, hgv⟩, hK, hN, hZ, hA, hB, hAB⟩ := X0
  have hbA : ¬ AL s b := Nat.not_le.mpr hbl
  obtain ⟨r, wC1, wM1, z1, z2, hR1⟩ := hs  wC wM hR
  refine lv_aload_n hx hb dL_law_550 rfl (lv_at hl 1 rfl) ?_
  refine law_C (rest := []) X hW (c_X6_events (AO.ok hA) isC z1) my_X6_events kl_L_73 rfl ⟨Nat.le_of_ble_eq_true rfl, Nat.le_of_ble_eq_true rfl⟩ rfl hl.1 rfl (Nat.le_of_ble_eq_true rfl) dL_law_551 ⟨Nat.le_refl _, Nat.le_refl _⟩ (fun H locs hW => ?_)
  refine W.eq (g2 := F0 m 554 ls [.int r]) rfl ?_
  refine lv_aload_n hx hb dL_law_554 rfl (lv_at hl 2 rfl) ?_
  refine law_M (rest := [.int r]) X hW (c_X7_events (AO.ok hB) isM z2) my_X7_events kl_L_76 rfl ⟨Nat.le_of_ble_eq_true rfl, Nat.le_of_ble_eq_true rfl⟩ rfl hl.1 rfl (Nat.le_of_ble_eq_true rfl) dL_law_555 ⟨Nat.le_refl _, Nat.le_refl _⟩ (fun H locs hW => ?_)
  refine W.eq (g2 := F0 m 558 ls [.int r, .int r]) rfl ?_
  refine lv_icmp_eq (tgt := 939) hx hb dL_law_558 (by decide) (fun _ => hE _ _ _ _ hR1 hW) (fun q => absurd rfl q)
set_option maxHeartbeats 4000000 in
theorem law_shift (hL : L ≤ 2048) (X : LX p s m meth c b L xs D cA sa adC adM) {Rel : Mem → Mem → Prop} (hs : S1 Rel F_X6_shift F_X7_shift) {i : Nat} (hi : i + 4 ≤ L) (hR : Rel wC wM) (hW : Wd s D cA adC adM wC wM H locs) (hl : lv_has ls 4 [(0, .ref b), (1, .ref (adC 0)), (2, .ref (adM 0)), (3, .int (nI i))])
    (hE : ∀ (wC wM : Mem) (H : Heap) (locs : List Loc), Rel wC wM → Wd s D cA adC adM wC wM H locs → W p l e room_1 s m #[Value.ref b] below meth c H locs 600000 7302250 (lw_Z below #[Value.ref b] s) (F0 m 939 ls [])) : W p l e room_1 s m #[Value.ref b] below meth c H locs 600000 7302250 (lw_Z below #[Value.ref b] s) (F0 m 563 ls []) := by
  have X0 := X
  obtain ⟨⟨hx, hb, hr, hml, hown, hts, hX, hbl, hlocks, hgv⟩, hK, hN, hZ, hA, hB, hAB⟩ := X0
  have hbA : ¬ AL s b := Nat.not_le.mpr hbl
  obtain ⟨r, wC1, wM1, z1, z2, hR1⟩ := hs (xs (nI i + (1 : Int32)).toNatClampNeg) wC wM hR
  refine lv_aload_n hx hb dL_law_563 rfl (lv_at hl 1 rfl) ?_
  refine lv_aload_n hx hb dL_law_564 rfl (lv_at hl 0 rfl) ?_
  refine lv_iload_n hx hb dL_law_565 rfl (lv_at hl 3 rfl) ?_
  refine lv_iconst (v := (1 : Int32)) hx hb dL_law_566 (by decide) ?_
  refine lv_iadd hx hb dL_law_567 ?_
  refine va_sld hx hb hX hbl hbA hW.2.2 (law_ix (j := 1) hL rfl (by omega)) dL_law_568 ?_
  refine law_C (rest := []) X hW (c_X6_shift (AO.ok hA) isC z1) my_X6_shift kl_L_77 rfl ⟨Nat.le_of_ble_eq_true rfl, Nat.le_of_ble_eq_true rfl⟩ rfl hl.1 rfl (Nat.le_of_ble_eq_true rfl) dL_law_569 ⟨Nat.le_refl _, Nat.le_refl _⟩ (fun H locs hW => ?_)
  refine W.eq (g2 := F0 m 572 ls [.int r]) rfl ?_
  refine lv_aload_n hx hb dL_law_572 rfl (lv_at hl 2 rfl) ?_
  refine lv_aload_n hx hb dL_law_573 rfl (lv_at hl 0 rfl) ?_
  refine lv_iload_n hx hb dL_law_574 rfl (lv_at hl 3 rfl) ?_
  refine lv_iconst (v := (1 : Int32)) hx hb dL_law_575 (by decide) ?_
  refine lv_iadd hx hb dL_law_576 ?_
  refine va_sld hx hb hX hbl hbA hW.2.2 (law_ix (j := 1) hL rfl (by omega)) dL_law_577 ?_
  refine law_M (rest := [.int r]) X hW (c_X7_shift (AO.ok hB) isM z2) my_X7_shift kl_L_80 rfl ⟨Nat.le_of_ble_eq_true rfl, Nat.le_of_ble_eq_true rfl⟩ rfl hl.1 rfl (Nat.le_of_ble_eq_true rfl) dL_law_578 ⟨Nat.le_refl _, Nat.le_refl _⟩ (fun H locs hW => ?_)
  refine W.eq (g2 := F0 m 581 ls [.int r, .int r]) rfl ?_
  refine lv_icmp_eq (tgt := 939) hx hb dL_law_581 (by decide) (fun _ => hE _ _ _ _ hR1 hW) (fun q => absurd rfl q)
set_option maxHeartbeats 4000000 in
theorem law_wish (hL : L ≤ 2048) (X : LX p s m meth c b L xs D cA sa adC adM) {Rel : Mem → Mem → Prop} (hs : S3 Rel F_X6_wish F_X7_wish) {i : Nat} (hi : i + 4 ≤ L) (hR : Rel wC wM) (hW : Wd s D cA adC adM wC wM H locs) (hl : lv_has ls 4 [(0, .ref b), (1, .ref (adC 0)), (2, .ref (adM 0)), (3, .int (nI i))])
    (hE : ∀ (wC wM : Mem) (H : Heap) (locs : List Loc), Rel wC wM → Wd s D cA adC adM wC wM H locs → W p l e room_1 s m #[Value.ref b] below meth c H locs 600000 7302250 (lw_Z below #[Value.ref b] s) (F0 m 939 ls [])) : W p l e room_1 s m #[Value.ref b] below meth c H locs 600000 7302250 (lw_Z below #[Value.ref b] s) (F0 m 586 ls []) := by
  have X0 := X
  obtain ⟨⟨hx, hb, hr, hml, hown, hts, hX, hbl, hlocks, hgv⟩, hK, hN, hZ, hA, hB, hAB⟩ := X0
  have hbA : ¬ AL s b := Nat.not_le.mpr hbl
  obtain ⟨r, wC1, wM1, z1, z2, hR1⟩ := hs (xs (nI i + (1 : Int32)).toNatClampNeg) (xs (nI i + (2 : Int32)).toNatClampNeg) (xs (nI i + (3 : Int32)).toNatClampNeg) wC wM hR
  refine lv_aload_n hx hb dL_law_586 rfl (lv_at hl 1 rfl) ?_
  refine lv_aload_n hx hb dL_law_587 rfl (lv_at hl 0 rfl) ?_
  refine lv_iload_n hx hb dL_law_588 rfl (lv_at hl 3 rfl) ?_
  refine lv_iconst (v := (1 : Int32)) hx hb dL_law_589 (by decide) ?_
  refine lv_iadd hx hb dL_law_590 ?_
  refine va_sld hx hb hX hbl hbA hW.2.2 (law_ix (j := 1) hL rfl (by omega)) dL_law_591 ?_
  refine lv_aload_n hx hb dL_law_592 rfl (lv_at hl 0 rfl) ?_
  refine lv_iload_n hx hb dL_law_593 rfl (lv_at hl 3 rfl) ?_
  refine lv_iconst (v := (2 : Int32)) hx hb dL_law_594 (by decide) ?_
  refine lv_iadd hx hb dL_law_595 ?_
  refine va_sld hx hb hX hbl hbA hW.2.2 (law_ix (j := 2) hL rfl (by omega)) dL_law_596 ?_
  refine lv_aload_n hx hb dL_law_597 rfl (lv_at hl 0 rfl) ?_
  refine lv_iload_n hx hb dL_law_598 rfl (lv_at hl 3 rfl) ?_
  refine lv_iconst (v := (3 : Int32)) hx hb dL_law_599 (by decide) ?_
  refine lv_iadd hx hb dL_law_600 ?_
  refine va_sld hx hb hX hbl hbA hW.2.2 (law_ix (j := 3) hL rfl (by omega)) dL_law_601 ?_
  refine law_C (rest := []) X hW (c_X6_wish (AO.ok hA) isC z1) my_X6_wish kl_L_81 rfl ⟨Nat.le_of_ble_eq_true rfl, Nat.le_of_ble_eq_true rfl⟩ rfl hl.1 rfl (Nat.le_of_ble_eq_true rfl) dL_law_602 ⟨Nat.le_refl _, Nat.le_refl _⟩ (fun H locs hW => ?_)
  refine W.eq (g2 := F0 m 605 ls [.int r]) rfl ?_
  refine lv_aload_n hx hb dL_law_605 rfl (lv_at hl 2 rfl) ?_
  refine lv_aload_n hx hb dL_law_606 rfl (lv_at hl 0 rfl) ?_
  refine lv_iload_n hx hb dL_law_607 rfl (lv_at hl 3 rfl) ?_
  refine lv_iconst (v := (1 : Int32)) hx hb dL_law_608 (by decide) ?_
  refine lv_iadd hx hb dL_law_609 ?_
  refine va_sld hx hb hX hbl hbA hW.2.2 (law_ix (j := 1) hL rfl (by omega)) dL_law_610 ?_
  refine lv_aload_n hx hb dL_law_611 rfl (lv_at hl 0 rfl) ?_
  refine lv_iload_n hx hb dL_law_612 rfl (lv_at hl 3 rfl) ?_
  refine lv_iconst (v := (2 : Int32)) hx hb dL_law_613 (by decide) ?_
  refine lv_iadd hx hb dL_law_614 ?_
  refine va_sld hx hb hX hbl hbA hW.2.2 (law_ix (j := 2) hL rfl (by omega)) dL_law_615 ?_
  refine lv_aload_n hx hb dL_law_616 rfl (lv_at hl 0 rfl) ?_
  refine lv_iload_n hx hb dL_law_617 rfl (lv_at hl 3 rfl) ?_
  refine lv_iconst (v := (3 : Int32)) hx hb dL_law_618 (by decide) ?_
  refine lv_iadd hx hb dL_law_619 ?_
  refine va_sld hx hb hX hbl hbA hW.2.2 (law_ix (j := 3) hL rfl (by omega)) dL_law_620 ?_
  refine law_M (rest := [.int r]) X hW (c_X7_wish (AO.ok hB) isM z2) my_X7_wish kl_L_84 rfl ⟨Nat.le_of_ble_eq_true rfl, Nat.le_of_ble_eq_true rfl⟩ rfl hl.1 rfl (Nat.le_of_ble_eq_true rfl) dL_law_621 ⟨Nat.le_refl _, Nat.le_refl _⟩ (fun H locs hW => ?_)
  refine W.eq (g2 := F0 m 624 ls [.int r, .int r]) rfl ?_
  refine lv_icmp_eq (tgt := 939) hx hb dL_law_624 (by decide) (fun _ => hE _ _ _ _ hR1 hW) (fun q => absurd rfl q)
set_option maxHeartbeats 4000000 in
theorem law_unwish (hL : L ≤ 2048) (X : LX p s m meth c b L xs D cA sa adC adM) {Rel : Mem → Mem → Prop} (hs : S1 Rel F_X6_unwish F_X7_unwish) {i : Nat} (hi : i + 4 ≤ L) (hR : Rel wC wM) (hW : Wd s D cA adC adM wC wM H locs) (hl : lv_has ls 4 [(0, .ref b), (1, .ref (adC 0)), (2, .ref (adM 0)), (3, .int (nI i))])
    (hE : ∀ (wC wM : Mem) (H : Heap) (locs : List Loc), Rel wC wM → Wd s D cA adC adM wC wM H locs → W p l e room_1 s m #[Value.ref b] below meth c H locs 600000 7302250 (lw_Z below #[Value.ref b] s) (F0 m 939 ls [])) : W p l e room_1 s m #[Value.ref b] below meth c H locs 600000 7302250 (lw_Z below #[Value.ref b] s) (F0 m 629 ls []) := by
  have X0 := X
  obtain ⟨⟨hx, hb, hr, hml, hown, hts, hX, hbl, hlocks, hgv⟩, hK, hN, hZ, hA, hB, hAB⟩ := X0
  have hbA : ¬ AL s b := Nat.not_le.mpr hbl
  obtain ⟨r, wC1, wM1, z1, z2, hR1⟩ := hs (xs (nI i + (1 : Int32)).toNatClampNeg) wC wM hR
  refine lv_aload_n hx hb dL_law_629 rfl (lv_at hl 1 rfl) ?_
  refine lv_aload_n hx hb dL_law_630 rfl (lv_at hl 0 rfl) ?_
  refine lv_iload_n hx hb dL_law_631 rfl (lv_at hl 3 rfl) ?_
  refine lv_iconst (v := (1 : Int32)) hx hb dL_law_632 (by decide) ?_
  refine lv_iadd hx hb dL_law_633 ?_
  refine va_sld hx hb hX hbl hbA hW.2.2 (law_ix (j := 1) hL rfl (by omega)) dL_law_634 ?_
  refine law_C (rest := []) X hW (c_X6_unwish (AO.ok hA) isC z1) my_X6_unwish kl_L_85 rfl ⟨Nat.le_of_ble_eq_true rfl, Nat.le_of_ble_eq_true rfl⟩ rfl hl.1 rfl (Nat.le_of_ble_eq_true rfl) dL_law_635 ⟨Nat.le_refl _, Nat.le_refl _⟩ (fun H locs hW => ?_)
  refine W.eq (g2 := F0 m 638 ls [.int r]) rfl ?_
  refine lv_aload_n hx hb dL_law_638 rfl (lv_at hl 2 rfl) ?_
  refine lv_aload_n hx hb dL_law_639 rfl (lv_at hl 0 rfl) ?_
  refine lv_iload_n hx hb dL_law_640 rfl (lv_at hl 3 rfl) ?_
  refine lv_iconst (v := (1 : Int32)) hx hb dL_law_641 (by decide) ?_
  refine lv_iadd hx hb dL_law_642 ?_
  refine va_sld hx hb hX hbl hbA hW.2.2 (law_ix (j := 1) hL rfl (by omega)) dL_law_643 ?_
  refine law_M (rest := [.int r]) X hW (c_X7_unwish (AO.ok hB) isM z2) my_X7_unwish kl_L_88 rfl ⟨Nat.le_of_ble_eq_true rfl, Nat.le_of_ble_eq_true rfl⟩ rfl hl.1 rfl (Nat.le_of_ble_eq_true rfl) dL_law_644 ⟨Nat.le_refl _, Nat.le_refl _⟩ (fun H locs hW => ?_)
  refine W.eq (g2 := F0 m 647 ls [.int r, .int r]) rfl ?_
  refine lv_icmp_eq (tgt := 939) hx hb dL_law_647 (by decide) (fun _ => hE _ _ _ _ hR1 hW) (fun q => absurd rfl q)
set_option maxHeartbeats 4000000 in
theorem law_wished (hL : L ≤ 2048) (X : LX p s m meth c b L xs D cA sa adC adM) {Rel : Mem → Mem → Prop} (hs : S2 Rel F_X6_wished F_X7_wished) {i : Nat} (hi : i + 4 ≤ L) (hR : Rel wC wM) (hW : Wd s D cA adC adM wC wM H locs) (hl : lv_has ls 4 [(0, .ref b), (1, .ref (adC 0)), (2, .ref (adM 0)), (3, .int (nI i))])
    (hE : ∀ (wC wM : Mem) (H : Heap) (locs : List Loc), Rel wC wM → Wd s D cA adC adM wC wM H locs → W p l e room_1 s m #[Value.ref b] below meth c H locs 600000 7302250 (lw_Z below #[Value.ref b] s) (F0 m 939 ls [])) : W p l e room_1 s m #[Value.ref b] below meth c H locs 600000 7302250 (lw_Z below #[Value.ref b] s) (F0 m 652 ls []) := by
  have X0 := X
  obtain ⟨⟨hx, hb, hr, hml, hown, hts, hX, hbl, hlocks, hgv⟩, hK, hN, hZ, hA, hB, hAB⟩ := X0
  have hbA : ¬ AL s b := Nat.not_le.mpr hbl
  obtain ⟨r, wC1, wM1, z1, z2, hR1⟩ := hs (xs (nI i + (1 : Int32)).toNatClampNeg) (xs (nI i + (2 : Int32)).toNatClampNeg) wC wM hR
  refine lv_aload_n hx hb dL_law_652 rfl (lv_at hl 1 rfl) ?_
  refine lv_aload_n hx hb dL_law_653 rfl (lv_at hl 0 rfl) ?_
  refine lv_iload_n hx hb dL_law_654 rfl (lv_at hl 3 rfl) ?_
  refine lv_iconst (v := (1 : Int32)) hx hb dL_law_655 (by decide) ?_
  refine lv_iadd hx hb dL_law_656 ?_
  refine va_sld hx hb hX hbl hbA hW.2.2 (law_ix (j := 1) hL rfl (by omega)) dL_law_657 ?_
  refine lv_aload_n hx hb dL_law_658 rfl (lv_at hl 0 rfl) ?_
  refine lv_iload_n hx hb dL_law_659 rfl (lv_at hl 3 rfl) ?_
  refine lv_iconst (v := (2 : Int32)) hx hb dL_law_660 (by decide) ?_
  refine lv_iadd hx hb dL_law_661 ?_
  refine va_sld hx hb hX hbl hbA hW.2.2 (law_ix (j := 2) hL rfl (by omega)) dL_law_662 ?_
  refine law_C (rest := []) X hW (c_X6_wished (AO.ok hA) isC z1) my_X6_wished kl_L_89 rfl ⟨Nat.le_of_ble_eq_true rfl, Nat.le_of_ble_eq_true rfl⟩ rfl hl.1 rfl (Nat.le_of_ble_eq_true rfl) dL_law_663 ⟨Nat.le_refl _, Nat.le_refl _⟩ (fun H locs hW => ?_)
  refine W.eq (g2 := F0 m 666 ls [.int r]) rfl ?_
  refine lv_aload_n hx hb dL_law_666 rfl (lv_at hl 2 rfl) ?_
  refine lv_aload_n hx hb dL_law_667 rfl (lv_at hl 0 rfl) ?_
  refine lv_iload_n hx hb dL_law_668 rfl (lv_at hl 3 rfl) ?_
  refine lv_iconst (v := (1 : Int32)) hx hb dL_law_669 (by decide) ?_
  refine lv_iadd hx hb dL_law_670 ?_
  refine va_sld hx hb hX hbl hbA hW.2.2 (law_ix (j := 1) hL rfl (by omega)) dL_law_671 ?_
  refine lv_aload_n hx hb dL_law_672 rfl (lv_at hl 0 rfl) ?_
  refine lv_iload_n hx hb dL_law_673 rfl (lv_at hl 3 rfl) ?_
  refine lv_iconst (v := (2 : Int32)) hx hb dL_law_674 (by decide) ?_
  refine lv_iadd hx hb dL_law_675 ?_
  refine va_sld hx hb hX hbl hbA hW.2.2 (law_ix (j := 2) hL rfl (by omega)) dL_law_676 ?_
  refine law_M (rest := [.int r]) X hW (c_X7_wished (AO.ok hB) isM z2) my_X7_wished kl_L_92 rfl ⟨Nat.le_of_ble_eq_true rfl, Nat.le_of_ble_eq_true rfl⟩ rfl hl.1 rfl (Nat.le_of_ble_eq_true rfl) dL_law_677 ⟨Nat.le_refl _, Nat.le_refl _⟩ (fun H locs hW => ?_)
  refine W.eq (g2 := F0 m 680 ls [.int r, .int r]) rfl ?_
  refine lv_icmp_eq (tgt := 939) hx hb dL_law_680 (by decide) (fun _ => hE _ _ _ _ hR1 hW) (fun q => absurd rfl q)
set_option maxHeartbeats 4000000 in
theorem law_steps (hL : L ≤ 2048) (X : LX p s m meth c b L xs D cA sa adC adM) {Rel : Mem → Mem → Prop} (hs : S1 Rel F_X6_steps F_X7_steps) {i : Nat} (hi : i + 4 ≤ L) (hR : Rel wC wM) (hW : Wd s D cA adC adM wC wM H locs) (hl : lv_has ls 4 [(0, .ref b), (1, .ref (adC 0)), (2, .ref (adM 0)), (3, .int (nI i))])
    (hE : ∀ (wC wM : Mem) (H : Heap) (locs : List Loc), Rel wC wM → Wd s D cA adC adM wC wM H locs → W p l e room_1 s m #[Value.ref b] below meth c H locs 600000 7302250 (lw_Z below #[Value.ref b] s) (F0 m 939 ls [])) : W p l e room_1 s m #[Value.ref b] below meth c H locs 600000 7302250 (lw_Z below #[Value.ref b] s) (F0 m 685 ls []) := by
  have X0 := X
  obtain ⟨⟨hx, hb, hr, hml, hown, hts, hX, hbl, hlocks, hgv⟩, hK, hN, hZ, hA, hB, hAB⟩ := X0
  have hbA : ¬ AL s b := Nat.not_le.mpr hbl
  obtain ⟨r, wC1, wM1, z1, z2, hR1⟩ := hs (xs (nI i + (1 : Int32)).toNatClampNeg) wC wM hR
  refine lv_aload_n hx hb dL_law_685 rfl (lv_at hl 1 rfl) ?_
  refine lv_aload_n hx hb dL_law_686 rfl (lv_at hl 0 rfl) ?_
  refine lv_iload_n hx hb dL_law_687 rfl (lv_at hl 3 rfl) ?_
  refine lv_iconst (v := (1 : Int32)) hx hb dL_law_688 (by decide) ?_
  refine lv_iadd hx hb dL_law_689 ?_
  refine va_sld hx hb hX hbl hbA hW.2.2 (law_ix (j := 1) hL rfl (by omega)) dL_law_690 ?_
  refine law_C (rest := []) X hW (c_X6_steps (AO.ok hA) isC z1) my_X6_steps kl_L_93 rfl ⟨Nat.le_of_ble_eq_true rfl, Nat.le_of_ble_eq_true rfl⟩ rfl hl.1 rfl (Nat.le_of_ble_eq_true rfl) dL_law_691 ⟨Nat.le_refl _, Nat.le_refl _⟩ (fun H locs hW => ?_)
  refine W.eq (g2 := F0 m 694 ls [.int r]) rfl ?_
  refine lv_aload_n hx hb dL_law_694 rfl (lv_at hl 2 rfl) ?_
  refine lv_aload_n hx hb dL_law_695 rfl (lv_at hl 0 rfl) ?_
  refine lv_iload_n hx hb dL_law_696 rfl (lv_at hl 3 rfl) ?_
  refine lv_iconst (v := (1 : Int32)) hx hb dL_law_697 (by decide) ?_
  refine lv_iadd hx hb dL_law_698 ?_
  refine va_sld hx hb hX hbl hbA hW.2.2 (law_ix (j := 1) hL rfl (by omega)) dL_law_699 ?_
  refine law_M (rest := [.int r]) X hW (c_X7_steps (AO.ok hB) isM z2) my_X7_steps kl_L_96 rfl ⟨Nat.le_of_ble_eq_true rfl, Nat.le_of_ble_eq_true rfl⟩ rfl hl.1 rfl (Nat.le_of_ble_eq_true rfl) dL_law_700 ⟨Nat.le_refl _, Nat.le_refl _⟩ (fun H locs hW => ?_)
  refine W.eq (g2 := F0 m 703 ls [.int r, .int r]) rfl ?_
  refine lv_icmp_eq (tgt := 939) hx hb dL_law_703 (by decide) (fun _ => hE _ _ _ _ hR1 hW) (fun q => absurd rfl q)
set_option maxHeartbeats 4000000 in
theorem law_settles (hL : L ≤ 2048) (X : LX p s m meth c b L xs D cA sa adC adM) {Rel : Mem → Mem → Prop} (hs : S1 Rel F_X6_settles F_X7_settles) {i : Nat} (hi : i + 4 ≤ L) (hR : Rel wC wM) (hW : Wd s D cA adC adM wC wM H locs) (hl : lv_has ls 4 [(0, .ref b), (1, .ref (adC 0)), (2, .ref (adM 0)), (3, .int (nI i))])
    (hE : ∀ (wC wM : Mem) (H : Heap) (locs : List Loc), Rel wC wM → Wd s D cA adC adM wC wM H locs → W p l e room_1 s m #[Value.ref b] below meth c H locs 600000 7302250 (lw_Z below #[Value.ref b] s) (F0 m 939 ls [])) : W p l e room_1 s m #[Value.ref b] below meth c H locs 600000 7302250 (lw_Z below #[Value.ref b] s) (F0 m 708 ls []) := by
  have X0 := X
  obtain ⟨⟨hx, hb, hr, hml, hown, hts, hX, hbl, hlocks, hgv⟩, hK, hN, hZ, hA, hB, hAB⟩ := X0
  have hbA : ¬ AL s b := Nat.not_le.mpr hbl
  obtain ⟨r, wC1, wM1, z1, z2, hR1⟩ := hs (xs (nI i + (1 : Int32)).toNatClampNeg) wC wM hR
  refine lv_aload_n hx hb dL_law_708 rfl (lv_at hl 1 rfl) ?_
  refine lv_aload_n hx hb dL_law_709 rfl (lv_at hl 0 rfl) ?_
  refine lv_iload_n hx hb dL_law_710 rfl (lv_at hl 3 rfl) ?_
  refine lv_iconst (v := (1 : Int32)) hx hb dL_law_711 (by decide) ?_
  refine lv_iadd hx hb dL_law_712 ?_
  refine va_sld hx hb hX hbl hbA hW.2.2 (law_ix (j := 1) hL rfl (by omega)) dL_law_713 ?_
  refine law_C (rest := []) X hW (c_X6_settles (AO.ok hA) isC z1) my_X6_settles kl_L_97 rfl ⟨Nat.le_of_ble_eq_true rfl, Nat.le_of_ble_eq_true rfl⟩ rfl hl.1 rfl (Nat.le_of_ble_eq_true rfl) dL_law_714 ⟨Nat.le_refl _, Nat.le_refl _⟩ (fun H locs hW => ?_)
  refine W.eq (g2 := F0 m 717 ls [.int r]) rfl ?_
  refine lv_aload_n hx hb dL_law_717 rfl (lv_at hl 2 rfl) ?_
  refine lv_aload_n hx hb dL_law_718 rfl (lv_at hl 0 rfl) ?_
  refine lv_iload_n hx hb dL_law_719 rfl (lv_at hl 3 rfl) ?_
  refine lv_iconst (v := (1 : Int32)) hx hb dL_law_720 (by decide) ?_
  refine lv_iadd hx hb dL_law_721 ?_
  refine va_sld hx hb hX hbl hbA hW.2.2 (law_ix (j := 1) hL rfl (by omega)) dL_law_722 ?_
  refine law_M (rest := [.int r]) X hW (c_X7_settles (AO.ok hB) isM z2) my_X7_settles kl_L_100 rfl ⟨Nat.le_of_ble_eq_true rfl, Nat.le_of_ble_eq_true rfl⟩ rfl hl.1 rfl (Nat.le_of_ble_eq_true rfl) dL_law_723 ⟨Nat.le_refl _, Nat.le_refl _⟩ (fun H locs hW => ?_)
  refine W.eq (g2 := F0 m 726 ls [.int r, .int r]) rfl ?_
  refine lv_icmp_eq (tgt := 939) hx hb dL_law_726 (by decide) (fun _ => hE _ _ _ _ hR1 hW) (fun q => absurd rfl q)
set_option maxHeartbeats 4000000 in
theorem law_tunes (hL : L ≤ 2048) (X : LX p s m meth c b L xs D cA sa adC adM) {Rel : Mem → Mem → Prop} (hs : S1 Rel F_X6_tunes F_X7_tunes) {i : Nat} (hi : i + 4 ≤ L) (hR : Rel wC wM) (hW : Wd s D cA adC adM wC wM H locs) (hl : lv_has ls 4 [(0, .ref b), (1, .ref (adC 0)), (2, .ref (adM 0)), (3, .int (nI i))])
    (hE : ∀ (wC wM : Mem) (H : Heap) (locs : List Loc), Rel wC wM → Wd s D cA adC adM wC wM H locs → W p l e room_1 s m #[Value.ref b] below meth c H locs 600000 7302250 (lw_Z below #[Value.ref b] s) (F0 m 939 ls [])) : W p l e room_1 s m #[Value.ref b] below meth c H locs 600000 7302250 (lw_Z below #[Value.ref b] s) (F0 m 731 ls []) := by
  have X0 := X
  obtain ⟨⟨hx, hb, hr, hml, hown, hts, hX, hbl, hlocks, hgv⟩, hK, hN, hZ, hA, hB, hAB⟩ := X0
  have hbA : ¬ AL s b := Nat.not_le.mpr hbl
  obtain ⟨r, wC1, wM1, z1, z2, hR1⟩ := hs (xs (nI i + (1 : Int32)).toNatClampNeg) wC wM hR
  refine lv_aload_n hx hb dL_law_731 rfl (lv_at hl 1 rfl) ?_
  refine lv_aload_n hx hb dL_law_732 rfl (lv_at hl 0 rfl) ?_
  refine lv_iload_n hx hb dL_law_733 rfl (lv_at hl 3 rfl) ?_
  refine lv_iconst (v := (1 : Int32)) hx hb dL_law_734 (by decide) ?_
  refine lv_iadd hx hb dL_law_735 ?_
  refine va_sld hx hb hX hbl hbA hW.2.2 (law_ix (j := 1) hL rfl (by omega)) dL_law_736 ?_
  refine law_C (rest := []) X hW (c_X6_tunes (AO.ok hA) isC z1) my_X6_tunes kl_L_101 rfl ⟨Nat.le_of_ble_eq_true rfl, Nat.le_of_ble_eq_true rfl⟩ rfl hl.1 rfl (Nat.le_of_ble_eq_true rfl) dL_law_737 ⟨Nat.le_refl _, Nat.le_refl _⟩ (fun H locs hW => ?_)
  refine W.eq (g2 := F0 m 740 ls [.int r]) rfl ?_
  refine lv_aload_n hx hb dL_law_740 rfl (lv_at hl 2 rfl) ?_
  refine lv_aload_n hx hb dL_law_741 rfl (lv_at hl 0 rfl) ?_
  refine lv_iload_n hx hb dL_law_742 rfl (lv_at hl 3 rfl) ?_
  refine lv_iconst (v := (1 : Int32)) hx hb dL_law_743 (by decide) ?_
  refine lv_iadd hx hb dL_law_744 ?_
  refine va_sld hx hb hX hbl hbA hW.2.2 (law_ix (j := 1) hL rfl (by omega)) dL_law_745 ?_
  refine law_M (rest := [.int r]) X hW (c_X7_tunes (AO.ok hB) isM z2) my_X7_tunes kl_L_104 rfl ⟨Nat.le_of_ble_eq_true rfl, Nat.le_of_ble_eq_true rfl⟩ rfl hl.1 rfl (Nat.le_of_ble_eq_true rfl) dL_law_746 ⟨Nat.le_refl _, Nat.le_refl _⟩ (fun H locs hW => ?_)
  refine W.eq (g2 := F0 m 749 ls [.int r, .int r]) rfl ?_
  refine lv_icmp_eq (tgt := 939) hx hb dL_law_749 (by decide) (fun _ => hE _ _ _ _ hR1 hW) (fun q => absurd rfl q)
set_option maxHeartbeats 4000000 in
theorem law_state (hL : L ≤ 2048) (X : LX p s m meth c b L xs D cA sa adC adM) {Rel : Mem → Mem → Prop} (hs : S2 Rel F_X6_state F_X7_state) {i : Nat} (hi : i + 4 ≤ L) (hR : Rel wC wM) (hW : Wd s D cA adC adM wC wM H locs) (hl : lv_has ls 4 [(0, .ref b), (1, .ref (adC 0)), (2, .ref (adM 0)), (3, .int (nI i))])
    (hE : ∀ (wC wM : Mem) (H : Heap) (locs : List Loc), Rel wC wM → Wd s D cA adC adM wC wM H locs → W p l e room_1 s m #[Value.ref b] below meth c H locs 600000 7302250 (lw_Z below #[Value.ref b] s) (F0 m 939 ls [])) : W p l e room_1 s m #[Value.ref b] below meth c H locs 600000 7302250 (lw_Z below #[Value.ref b] s) (F0 m 754 ls []) := by
  have X0 := X
  obtain ⟨⟨hx, hb, hr, hml, hown, hts, hX, hbl, hlocks, hgv⟩, hK, hN, hZ, hA, hB, hAB⟩ := X0
  have hbA : ¬ AL s b := Nat.not_le.mpr hbl
  obtain ⟨r, wC1, wM1, z1, z2, hR1⟩ := hs (xs (nI i + (1 : Int32)).toNatClampNeg) (xs (nI i + (2 : Int32)).toNatClampNeg) wC wM hR
  refine lv_aload_n hx hb dL_law_754 rfl (lv_at hl 1 rfl) ?_
  refine lv_aload_n hx hb dL_law_755 rfl (lv_at hl 0 rfl) ?_
  refine lv_iload_n hx hb dL_law_756 rfl (lv_at hl 3 rfl) ?_
  refine lv_iconst (v := (1 : Int32)) hx hb dL_law_757 (by decide) ?_
  refine lv_iadd hx hb dL_law_758 ?_
  refine va_sld hx hb hX hbl hbA hW.2.2 (law_ix (j := 1) hL rfl (by omega)) dL_law_759 ?_
  refine lv_aload_n hx hb dL_law_760 rfl (lv_at hl 0 rfl) ?_
  refine lv_iload_n hx hb dL_law_761 rfl (lv_at hl 3 rfl) ?_
  refine lv_iconst (v := (2 : Int32)) hx hb dL_law_762 (by decide) ?_
  refine lv_iadd hx hb dL_law_763 ?_
  refine va_sld hx hb hX hbl hbA hW.2.2 (law_ix (j := 2) hL rfl (by omega)) dL_law_764 ?_
  refine law_C (rest := []) X hW (c_X6_state (AO.ok hA) isC z1) my_X6_state kl_L_105 rfl ⟨Nat.le_of_ble_eq_true rfl, Nat.le_of_ble_eq_true rfl⟩ rfl hl.1 rfl (Nat.le_of_ble_eq_true rfl) dL_law_765 ⟨Nat.le_refl _, Nat.le_refl _⟩ (fun H locs hW => ?_)
  refine W.eq (g2 := F0 m 768 ls [.int r]) rfl ?_
  refine lv_aload_n hx hb dL_law_768 rfl (lv_at hl 2 rfl) ?_
  refine lv_aload_n hx hb dL_law_769 rfl (lv_at hl 0 rfl) ?_
  refine lv_iload_n hx hb dL_law_770 rfl (lv_at hl 3 rfl) ?_
  refine lv_iconst (v := (1 : Int32)) hx hb dL_law_771 (by decide) ?_
  refine lv_iadd hx hb dL_law_772 ?_
  refine va_sld hx hb hX hbl hbA hW.2.2 (law_ix (j := 1) hL rfl (by omega)) dL_law_773 ?_
  refine lv_aload_n hx hb dL_law_774 rfl (lv_at hl 0 rfl) ?_
  refine lv_iload_n hx hb dL_law_775 rfl (lv_at hl 3 rfl) ?_
  refine lv_iconst (v := (2 : Int32)) hx hb dL_law_776 (by decide) ?_
  refine lv_iadd hx hb dL_law_777 ?_
  refine va_sld hx hb hX hbl hbA hW.2.2 (law_ix (j := 2) hL rfl (by omega)) dL_law_778 ?_
  refine law_M (rest := [.int r]) X hW (c_X7_state (AO.ok hB) isM z2) my_X7_state kl_L_108 rfl ⟨Nat.le_of_ble_eq_true rfl, Nat.le_of_ble_eq_true rfl⟩ rfl hl.1 rfl (Nat.le_of_ble_eq_true rfl) dL_law_779 ⟨Nat.le_refl _, Nat.le_refl _⟩ (fun H locs hW => ?_)
  refine W.eq (g2 := F0 m 782 ls [.int r, .int r]) rfl ?_
  refine lv_icmp_eq (tgt := 939) hx hb dL_law_782 (by decide) (fun _ => hE _ _ _ _ hR1 hW) (fun q => absurd rfl q)
set_option maxHeartbeats 4000000 in
theorem law_memory (hL : L ≤ 2048) (X : LX p s m meth c b L xs D cA sa adC adM) {Rel : Mem → Mem → Prop} (hs : S2 Rel F_X6_memory F_X7_memory) {i : Nat} (hi : i + 4 ≤ L) (hR : Rel wC wM) (hW : Wd s D cA adC adM wC wM H locs) (hl : lv_has ls 4 [(0, .ref b), (1, .ref (adC 0)), (2, .ref (adM 0)), (3, .int (nI i))])
    (hE : ∀ (wC wM : Mem) (H : Heap) (locs : List Loc), Rel wC wM → Wd s D cA adC adM wC wM H locs → W p l e room_1 s m #[Value.ref b] below meth c H locs 600000 7302250 (lw_Z below #[Value.ref b] s) (F0 m 939 ls [])) : W p l e room_1 s m #[Value.ref b] below meth c H locs 600000 7302250 (lw_Z below #[Value.ref b] s) (F0 m 787 ls []) := by
  have X0 := X
  obtain ⟨⟨hx, hb, hr, hml, hown, hts, hX, hbl, hlocks, hgv⟩, hK, hN, hZ, hA, hB, hAB⟩ := X0
  have hbA : ¬ AL s b := Nat.not_le.mpr hbl
  obtain ⟨r, wC1, wM1, z1, z2, hR1⟩ := hs (xs (nI i + (1 : Int32)).toNatClampNeg) (xs (nI i + (2 : Int32)).toNatClampNeg) wC wM hR
  refine lv_aload_n hx hb dL_law_787 rfl (lv_at hl 1 rfl) ?_
  refine lv_aload_n hx hb dL_law_788 rfl (lv_at hl 0 rfl) ?_
  refine lv_iload_n hx hb dL_law_789 rfl (lv_at hl 3 rfl) ?_
  refine lv_iconst (v := (1 : Int32)) hx hb dL_law_790 (by decide) ?_
  refine lv_iadd hx hb dL_law_791 ?_
  refine va_sld hx hb hX hbl hbA hW.2.2 (law_ix (j := 1) hL rfl (by omega)) dL_law_792 ?_
  refine lv_aload_n hx hb dL_law_793 rfl (lv_at hl 0 rfl) ?_
  refine lv_iload_n hx hb dL_law_794 rfl (lv_at hl 3 rfl) ?_
  refine lv_iconst (v := (2 : Int32)) hx hb dL_law_795 (by decide) ?_
  refine lv_iadd hx hb dL_law_796 ?_
  refine va_sld hx hb hX hbl hbA hW.2.2 (law_ix (j := 2) hL rfl (by omega)) dL_law_797 ?_
  refine law_C (rest := []) X hW (c_X6_memory (AO.ok hA) isC z1) my_X6_memory kl_L_109 rfl ⟨Nat.le_of_ble_eq_true rfl, Nat.le_of_ble_eq_true rfl⟩ rfl hl.1 rfl (Nat.le_of_ble_eq_true rfl) dL_law_798 ⟨Nat.le_refl _, Nat.le_refl _⟩ (fun H locs hW => ?_)
  refine W.eq (g2 := F0 m 801 ls [.int r]) rfl ?_
  refine lv_aload_n hx hb dL_law_801 rfl (lv_at hl 2 rfl) ?_
  refine lv_aload_n hx hb dL_law_802 rfl (lv_at hl 0 rfl) ?_
  refine lv_iload_n hx hb dL_law_803 rfl (lv_at hl 3 rfl) ?_
  refine lv_iconst (v := (1 : Int32)) hx hb dL_law_804 (by decide) ?_
  refine lv_iadd hx hb dL_law_805 ?_
  refine va_sld hx hb hX hbl hbA hW.2.2 (law_ix (j := 1) hL rfl (by omega)) dL_law_806 ?_
  refine lv_aload_n hx hb dL_law_807 rfl (lv_at hl 0 rfl) ?_
  refine lv_iload_n hx hb dL_law_808 rfl (lv_at hl 3 rfl) ?_
  refine lv_iconst (v := (2 : Int32)) hx hb dL_law_809 (by decide) ?_
  refine lv_iadd hx hb dL_law_810 ?_
  refine va_sld hx hb hX hbl hbA hW.2.2 (law_ix (j := 2) hL rfl (by omega)) dL_law_811 ?_
  refine law_M (rest := [.int r]) X hW (c_X7_memory (AO.ok hB) isM z2) my_X7_memory kl_L_112 rfl ⟨Nat.le_of_ble_eq_true rfl, Nat.le_of_ble_eq_true rfl⟩ rfl hl.1 rfl (Nat.le_of_ble_eq_true rfl) dL_law_812 ⟨Nat.le_refl _, Nat.le_refl _⟩ (fun H locs hW => ?_)
  refine W.eq (g2 := F0 m 815 ls [.int r, .int r]) rfl ?_
  refine lv_icmp_eq (tgt := 939) hx hb dL_law_815 (by decide) (fun _ => hE _ _ _ _ hR1 hW) (fun q => absurd rfl q)
set_option maxHeartbeats 4000000 in
theorem law_over (hL : L ≤ 2048) (X : LX p s m meth c b L xs D cA sa adC adM) {Rel : Mem → Mem → Prop} (hs : S2 Rel F_X6_over F_X7_over) {i : Nat} (hi : i + 4 ≤ L) (hR : Rel wC wM) (hW : Wd s D cA adC adM wC wM H locs) (hl : lv_has ls 4 [(0, .ref b), (1, .ref (adC 0)), (2, .ref (adM 0)), (3, .int (nI i))])
    (hE : ∀ (wC wM : Mem) (H : Heap) (locs : List Loc), Rel wC wM → Wd s D cA adC adM wC wM H locs → W p l e room_1 s m #[Value.ref b] below meth c H locs 600000 7302250 (lw_Z below #[Value.ref b] s) (F0 m 939 ls [])) : W p l e room_1 s m #[Value.ref b] below meth c H locs 600000 7302250 (lw_Z below #[Value.ref b] s) (F0 m 820 ls []) := by
  have X0 := X
  obtain ⟨⟨hx, hb, hr, hml, hown, hts, hX, hbl, hlocks, hgv⟩, hK, hN, hZ, hA, hB, hAB⟩ := X0
  have hbA : ¬ AL s b := Nat.not_le.mpr hbl
  obtain ⟨r, wC1, wM1, z1, z2, hR1⟩ := hs (xs (nI i + (1 : Int32)).toNatClampNeg) (xs (nI i + (2 : Int32)).toNatClampNeg) wC wM hR
  refine lv_aload_n hx hb dL_law_820 rfl (lv_at hl 1 rfl) ?_
  refine lv_aload_n hx hb dL_law_821 rfl (lv_at hl 0 rfl) ?_
  refine lv_iload_n hx hb dL_law_822 rfl (lv_at hl 3 rfl) ?_
  refine lv_iconst (v := (1 : Int32)) hx hb dL_law_823 (by decide) ?_
  refine lv_iadd hx hb dL_law_824 ?_
  refine va_sld hx hb hX hbl hbA hW.2.2 (law_ix (j := 1) hL rfl (by omega)) dL_law_825 ?_
  refine lv_aload_n hx hb dL_law_826 rfl (lv_at hl 0 rfl) ?_
  refine lv_iload_n hx hb dL_law_827 rfl (lv_at hl 3 rfl) ?_
  refine lv_iconst (v := (2 : Int32)) hx hb dL_law_828 (by decide) ?_
  refine lv_iadd hx hb dL_law_829 ?_
  refine va_sld hx hb hX hbl hbA hW.2.2 (law_ix (j := 2) hL rfl (by omega)) dL_law_830 ?_
  refine law_C (rest := []) X hW (c_X6_over (AO.ok hA) isC z1) my_X6_over kl_L_113 rfl ⟨Nat.le_of_ble_eq_true rfl, Nat.le_of_ble_eq_true rfl⟩ rfl hl.1 rfl (Nat.le_of_ble_eq_true rfl) dL_law_831 ⟨Nat.le_refl _, Nat.le_refl _⟩ (fun H locs hW => ?_)
  refine W.eq (g2 := F0 m 834 ls [.int r]) rfl ?_
  refine lv_aload_n hx hb dL_law_834 rfl (lv_at hl 2 rfl) ?_
  refine lv_aload_n hx hb dL_law_835 rfl (lv_at hl 0 rfl) ?_
  refine lv_iload_n hx hb dL_law_836 rfl (lv_at hl 3 rfl) ?_
  refine lv_iconst (v := (1 : Int32)) hx hb dL_law_837 (by decide) ?_
  refine lv_iadd hx hb dL_law_838 ?_
  refine va_sld hx hb hX hbl hbA hW.2.2 (law_ix (j := 1) hL rfl (by omega)) dL_law_839 ?_
  refine lv_aload_n hx hb dL_law_840 rfl (lv_at hl 0 rfl) ?_
  refine lv_iload_n hx hb dL_law_841 rfl (lv_at hl 3 rfl) ?_
  refine lv_iconst (v := (2 : Int32)) hx hb dL_law_842 (by decide) ?_
  refine lv_iadd hx hb dL_law_843 ?_
  refine va_sld hx hb hX hbl hbA hW.2.2 (law_ix (j := 2) hL rfl (by omega)) dL_law_844 ?_
  refine law_M (rest := [.int r]) X hW (c_X7_over (AO.ok hB) isM z2) my_X7_over kl_L_116 rfl ⟨Nat.le_of_ble_eq_true rfl, Nat.le_of_ble_eq_true rfl⟩ rfl hl.1 rfl (Nat.le_of_ble_eq_true rfl) dL_law_845 ⟨Nat.le_refl _, Nat.le_refl _⟩ (fun H locs hW => ?_)
  refine W.eq (g2 := F0 m 848 ls [.int r, .int r]) rfl ?_
  refine lv_icmp_eq (tgt := 939) hx hb dL_law_848 (by decide) (fun _ => hE _ _ _ _ hR1 hW) (fun q => absurd rfl q)
set_option maxHeartbeats 4000000 in
theorem law_type (hL : L ≤ 2048) (X : LX p s m meth c b L xs D cA sa adC adM) {Rel : Mem → Mem → Prop} (hs : S1 Rel F_X6_type F_X7_type) {i : Nat} (hi : i + 4 ≤ L) (hR : Rel wC wM) (hW : Wd s D cA adC adM wC wM H locs) (hl : lv_has ls 4 [(0, .ref b), (1, .ref (adC 0)), (2, .ref (adM 0)), (3, .int (nI i))])
    (hE : ∀ (wC wM : Mem) (H : Heap) (locs : List Loc), Rel wC wM → Wd s D cA adC adM wC wM H locs → W p l e room_1 s m #[Value.ref b] below meth c H locs 600000 7302250 (lw_Z below #[Value.ref b] s) (F0 m 939 ls [])) : W p l e room_1 s m #[Value.ref b] below meth c H locs 600000 7302250 (lw_Z below #[Value.ref b] s) (F0 m 853 ls []) := by
  have X0 := X
  obtain ⟨⟨hx, hb, hr, hml, hown, hts, hX, hbl, hlocks, hgv⟩, hK, hN, hZ, hA, hB, hAB⟩ := X0
  have hbA : ¬ AL s b := Nat.not_le.mpr hbl
  obtain ⟨r, wC1, wM1, z1, z2, hR1⟩ := hs (xs (nI i + (1 : Int32)).toNatClampNeg) wC wM hR
  refine lv_aload_n hx hb dL_law_853 rfl (lv_at hl 1 rfl) ?_
  refine lv_aload_n hx hb dL_law_854 rfl (lv_at hl 0 rfl) ?_
  refine lv_iload_n hx hb dL_law_855 rfl (lv_at hl 3 rfl) ?_
  refine lv_iconst (v := (1 : Int32)) hx hb dL_law_856 (by decide) ?_
  refine lv_iadd hx hb dL_law_857 ?_
  refine va_sld hx hb hX hbl hbA hW.2.2 (law_ix (j := 1) hL rfl (by omega)) dL_law_858 ?_
  refine law_C (rest := []) X hW (c_X6_type (AO.ok hA) isC z1) my_X6_type kl_L_117 rfl ⟨Nat.le_of_ble_eq_true rfl, Nat.le_of_ble_eq_true rfl⟩ rfl hl.1 rfl (Nat.le_of_ble_eq_true rfl) dL_law_859 ⟨Nat.le_refl _, Nat.le_refl _⟩ (fun H locs hW => ?_)
  refine W.eq (g2 := F0 m 862 ls [.int r]) rfl ?_
  refine lv_aload_n hx hb dL_law_862 rfl (lv_at hl 2 rfl) ?_
  refine lv_aload_n hx hb dL_law_863 rfl (lv_at hl 0 rfl) ?_
  refine lv_iload_n hx hb dL_law_864 rfl (lv_at hl 3 rfl) ?_
  refine lv_iconst (v := (1 : Int32)) hx hb dL_law_865 (by decide) ?_
  refine lv_iadd hx hb dL_law_866 ?_
  refine va_sld hx hb hX hbl hbA hW.2.2 (law_ix (j := 1) hL rfl (by omega)) dL_law_867 ?_
  refine law_M (rest := [.int r]) X hW (c_X7_type (AO.ok hB) isM z2) my_X7_type kl_L_120 rfl ⟨Nat.le_of_ble_eq_true rfl, Nat.le_of_ble_eq_true rfl⟩ rfl hl.1 rfl (Nat.le_of_ble_eq_true rfl) dL_law_868 ⟨Nat.le_refl _, Nat.le_refl _⟩ (fun H locs hW => ?_)
  refine W.eq (g2 := F0 m 871 ls [.int r, .int r]) rfl ?_
  refine lv_icmp_eq (tgt := 939) hx hb dL_law_871 (by decide) (fun _ => hE _ _ _ _ hR1 hW) (fun q => absurd rfl q)
set_option maxHeartbeats 4000000 in
theorem law_clear (hL : L ≤ 2048) (X : LX p s m meth c b L xs D cA sa adC adM) {Rel : Mem → Mem → Prop} (hs : S0 Rel F_X6_clear F_X7_clear) {i : Nat} (hi : i + 4 ≤ L) (hR : Rel wC wM) (hW : Wd s D cA adC adM wC wM H locs) (hl : lv_has ls 4 [(0, .ref b), (1, .ref (adC 0)), (2, .ref (adM 0)), (3, .int (nI i))])
    (hE : ∀ (wC wM : Mem) (H : Heap) (locs : List Loc), Rel wC wM → Wd s D cA adC adM wC wM H locs → W p l e room_1 s m #[Value.ref b] below meth c H locs 600000 7302250 (lw_Z below #[Value.ref b] s) (F0 m 939 ls [])) : W p l e room_1 s m #[Value.ref b] below meth c H locs 600000 7302250 (lw_Z below #[Value.ref b] s) (F0 m 876 ls []) := by
  have X0 := X
  obtain ⟨⟨hx, hb, hr, hml, hown, hts, hX, hbl, hlocks, hgv⟩, hK, hN, hZ, hA, hB, hAB⟩ := X0
  have hbA : ¬ AL s b := Nat.not_le.mpr hbl
  obtain ⟨r, wC1, wM1, z1, z2, hR1⟩ := hs  wC wM hR
  refine lv_aload_n hx hb dL_law_876 rfl (lv_at hl 1 rfl) ?_
  refine law_C (rest := []) X hW (c_X6_clear (AO.ok hA) isC z1) my_X6_clear kl_L_121 rfl ⟨Nat.le_of_ble_eq_true rfl, Nat.le_of_ble_eq_true rfl⟩ rfl hl.1 rfl (Nat.le_of_ble_eq_true rfl) dL_law_877 ⟨Nat.le_refl _, Nat.le_refl _⟩ (fun H locs hW => ?_)
  refine W.eq (g2 := F0 m 880 ls [.int r]) rfl ?_
  refine lv_aload_n hx hb dL_law_880 rfl (lv_at hl 2 rfl) ?_
  refine law_M (rest := [.int r]) X hW (c_X7_clear (AO.ok hB) isM z2) my_X7_clear kl_L_124 rfl ⟨Nat.le_of_ble_eq_true rfl, Nat.le_of_ble_eq_true rfl⟩ rfl hl.1 rfl (Nat.le_of_ble_eq_true rfl) dL_law_881 ⟨Nat.le_refl _, Nat.le_refl _⟩ (fun H locs hW => ?_)
  refine W.eq (g2 := F0 m 884 ls [.int r, .int r]) rfl ?_
  refine lv_icmp_eq (tgt := 939) hx hb dL_law_884 (by decide) (fun _ => hE _ _ _ _ hR1 hW) (fun q => absurd rfl q)
set_option maxHeartbeats 4000000 in
theorem law_reads (hL : L ≤ 2048) (X : LX p s m meth c b L xs D cA sa adC adM) {Rel : Mem → Mem → Prop} (hs : S0 Rel F_X6_reads F_X7_reads) {i : Nat} (hi : i + 4 ≤ L) (hR : Rel wC wM) (hW : Wd s D cA adC adM wC wM H locs) (hl : lv_has ls 4 [(0, .ref b), (1, .ref (adC 0)), (2, .ref (adM 0)), (3, .int (nI i))])
    (hE : ∀ (wC wM : Mem) (H : Heap) (locs : List Loc), Rel wC wM → Wd s D cA adC adM wC wM H locs → W p l e room_1 s m #[Value.ref b] below meth c H locs 600000 7302250 (lw_Z below #[Value.ref b] s) (F0 m 939 ls [])) : W p l e room_1 s m #[Value.ref b] below meth c H locs 600000 7302250 (lw_Z below #[Value.ref b] s) (F0 m 889 ls []) := by
  have X0 := X
  obtain ⟨⟨hx, hb, hr, hml, hown, hts, hX, hbl, hlocks, hgv⟩, hK, hN, hZ, hA, hB, hAB⟩ := X0
  have hbA : ¬ AL s b := Nat.not_le.mpr hbl
  obtain ⟨r, wC1, wM1, z1, z2, hR1⟩ := hs  wC wM hR
  refine lv_aload_n hx hb dL_law_889 rfl (lv_at hl 1 rfl) ?_
  refine law_C (rest := []) X hW (c_X6_reads (AO.ok hA) isC z1) my_X6_reads kl_L_125 rfl ⟨Nat.le_of_ble_eq_true rfl, Nat.le_of_ble_eq_true rfl⟩ rfl hl.1 rfl (Nat.le_of_ble_eq_true rfl) dL_law_890 ⟨Nat.le_refl _, Nat.le_refl _⟩ (fun H locs hW => ?_)
  refine W.eq (g2 := F0 m 893 ls [.int r]) rfl ?_
  refine lv_aload_n hx hb dL_law_893 rfl (lv_at hl 2 rfl) ?_
  refine law_M (rest := [.int r]) X hW (c_X7_reads (AO.ok hB) isM z2) my_X7_reads kl_L_128 rfl ⟨Nat.le_of_ble_eq_true rfl, Nat.le_of_ble_eq_true rfl⟩ rfl hl.1 rfl (Nat.le_of_ble_eq_true rfl) dL_law_894 ⟨Nat.le_refl _, Nat.le_refl _⟩ (fun H locs hW => ?_)
  refine W.eq (g2 := F0 m 897 ls [.int r, .int r]) rfl ?_
  refine lv_icmp_eq (tgt := 939) hx hb dL_law_897 (by decide) (fun _ => hE _ _ _ _ hR1 hW) (fun q => absurd rfl q)
set_option maxHeartbeats 4000000 in
theorem law_count (hL : L ≤ 2048) (X : LX p s m meth c b L xs D cA sa adC adM) {Rel : Mem → Mem → Prop} (hs : S1 Rel F_X6_count F_X7_count) {i : Nat} (hi : i + 4 ≤ L) (hR : Rel wC wM) (hW : Wd s D cA adC adM wC wM H locs) (hl : lv_has ls 4 [(0, .ref b), (1, .ref (adC 0)), (2, .ref (adM 0)), (3, .int (nI i))])
    (hE : ∀ (wC wM : Mem) (H : Heap) (locs : List Loc), Rel wC wM → Wd s D cA adC adM wC wM H locs → W p l e room_1 s m #[Value.ref b] below meth c H locs 600000 7302250 (lw_Z below #[Value.ref b] s) (F0 m 939 ls [])) : W p l e room_1 s m #[Value.ref b] below meth c H locs 600000 7302250 (lw_Z below #[Value.ref b] s) (F0 m 902 ls []) := by
  have X0 := X
  obtain ⟨⟨hx, hb, hr, hml, hown, hts, hX, hbl, hlocks, hgv⟩, hK, hN, hZ, hA, hB, hAB⟩ := X0
  have hbA : ¬ AL s b := Nat.not_le.mpr hbl
  obtain ⟨r, wC1, wM1, z1, z2, hR1⟩ := hs (xs (nI i + (1 : Int32)).toNatClampNeg) wC wM hR
  refine lv_aload_n hx hb dL_law_902 rfl (lv_at hl 1 rfl) ?_
  refine lv_aload_n hx hb dL_law_903 rfl (lv_at hl 0 rfl) ?_
  refine lv_iload_n hx hb dL_law_904 rfl (lv_at hl 3 rfl) ?_
  refine lv_iconst (v := (1 : Int32)) hx hb dL_law_905 (by decide) ?_
  refine lv_iadd hx hb dL_law_906 ?_
  refine va_sld hx hb hX hbl hbA hW.2.2 (law_ix (j := 1) hL rfl (by omega)) dL_law_907 ?_
  refine law_C (rest := []) X hW (c_X6_count (AO.ok hA) isC z1) my_X6_count kl_L_129 rfl ⟨Nat.le_of_ble_eq_true rfl, Nat.le_of_ble_eq_true rfl⟩ rfl hl.1 rfl (Nat.le_of_ble_eq_true rfl) dL_law_908 ⟨Nat.le_refl _, Nat.le_refl _⟩ (fun H locs hW => ?_)
  refine W.eq (g2 := F0 m 911 ls [.int r]) rfl ?_
  refine lv_aload_n hx hb dL_law_911 rfl (lv_at hl 2 rfl) ?_
  refine lv_aload_n hx hb dL_law_912 rfl (lv_at hl 0 rfl) ?_
  refine lv_iload_n hx hb dL_law_913 rfl (lv_at hl 3 rfl) ?_
  refine lv_iconst (v := (1 : Int32)) hx hb dL_law_914 (by decide) ?_
  refine lv_iadd hx hb dL_law_915 ?_
  refine va_sld hx hb hX hbl hbA hW.2.2 (law_ix (j := 1) hL rfl (by omega)) dL_law_916 ?_
  refine law_M (rest := [.int r]) X hW (c_X7_count (AO.ok hB) isM z2) my_X7_count kl_L_132 rfl ⟨Nat.le_of_ble_eq_true rfl, Nat.le_of_ble_eq_true rfl⟩ rfl hl.1 rfl (Nat.le_of_ble_eq_true rfl) dL_law_917 ⟨Nat.le_refl _, Nat.le_refl _⟩ (fun H locs hW => ?_)
  refine W.eq (g2 := F0 m 920 ls [.int r, .int r]) rfl ?_
  refine lv_icmp_eq (tgt := 939) hx hb dL_law_920 (by decide) (fun _ => hE _ _ _ _ hR1 hW) (fun q => absurd rfl q)
set_option maxHeartbeats 4000000 in
theorem law_digest (hL : L ≤ 2048) (X : LX p s m meth c b L xs D cA sa adC adM) {Rel : Mem → Mem → Prop} (hs : SL Rel F_X6_digest F_X7_digest) {i : Nat} (hi : i + 4 ≤ L) (hR : Rel wC wM) (hW : Wd s D cA adC adM wC wM H locs) (hl : lv_has ls 4 [(0, .ref b), (1, .ref (adC 0)), (2, .ref (adM 0)), (3, .int (nI i))])
    (hE : ∀ (wC wM : Mem) (H : Heap) (locs : List Loc), Rel wC wM → Wd s D cA adC adM wC wM H locs → W p l e room_1 s m #[Value.ref b] below meth c H locs 600000 7302250 (lw_Z below #[Value.ref b] s) (F0 m 939 ls [])) : W p l e room_1 s m #[Value.ref b] below meth c H locs 600000 7302250 (lw_Z below #[Value.ref b] s) (F0 m 925 ls []) := by
  have X0 := X
  obtain ⟨⟨hx, hb, hr, hml, hown, hts, hX, hbl, hlocks, hgv⟩, hK, hN, hZ, hA, hB, hAB⟩ := X0
  have hbA : ¬ AL s b := Nat.not_le.mpr hbl
  obtain ⟨r, wC1, wM1, z1, z2, hR1⟩ := hs  wC wM hR
  refine lv_aload_n hx hb dL_law_925 rfl (lv_at hl 1 rfl) ?_
  refine law_C (rest := []) X hW (c_X6_digest (AO.ok hA) isC z1) my_X6_digest kl_L_133 rfl ⟨Nat.le_of_ble_eq_true rfl, Nat.le_of_ble_eq_true rfl⟩ rfl hl.1 rfl (Nat.le_of_ble_eq_true rfl) dL_law_926 ⟨Nat.le_refl _, Nat.le_refl _⟩ (fun H locs hW => ?_)
  refine W.eq (g2 := F0 m 929 ls [.long r]) rfl ?_
  refine lv_aload_n hx hb dL_law_929 rfl (lv_at hl 2 rfl) ?_
  refine law_M (rest := [.long r]) X hW (c_X7_digest (AO.ok hB) isM z2) my_X7_digest kl_L_137 rfl ⟨Nat.le_of_ble_eq_true rfl, Nat.le_of_ble_eq_true rfl⟩ rfl hl.1 rfl (Nat.le_of_ble_eq_true rfl) dL_law_930 ⟨Nat.le_refl _, Nat.le_refl _⟩ (fun H locs hW => ?_)
  refine W.eq (g2 := F0 m 933 ls [.long r, .long r]) rfl ?_
  refine W.lcmp hx hb dL_law_933 ?_
  refine lv_if_eq (tgt := 939) hx hb dL_law_934 (by decide) (fun _ => hE _ _ _ _ hR1 hW) (fun q => absurd (by simp [lg_cmp]) q)
set_option maxHeartbeats 8000000 in
theorem law_loop (hL : L ≤ 2048) (X : LX p s m meth c b L xs D cA sa adC adM) {Rel : Mem → Mem → Prop} (hs : Sim Rel) : ∀ (n i : Nat), i ≤ 4096 → L + 1 ≤ i + n → ∀ (wC wM : Mem) (H : Heap) (locs : List Loc) (ls : Array Slot), Rel wC wM → Wd s D cA adC adM wC wM H locs → lv_has ls 4 [(0, .ref b), (1, .ref (adC 0)), (2, .ref (adM 0)), (3, .int (nI i))] → W p l e room_1 s m #[Value.ref b] below meth c H locs 600000 7302250 (lw_Z below #[Value.ref b] s) (F0 m 18 ls []) := by
  have X0 := X
  obtain ⟨⟨hx, hb, hr, hml, hown, hts, hX, hbl, hlocks, hgv⟩, hK, hN, hZ, hA, hB, hAB⟩ := X0
  have hbA : ¬ AL s b := Nat.not_le.mpr hbl
  intro n
  induction n with
  | zero =>
    intro i hi hn wC wM H locs ls hR hW hl
    refine lv_iload_n hx hb dL_law_18 rfl (lv_at hl 3 rfl) ?_
    refine lv_aload_n hx hb dL_law_19 rfl (lv_at hl 0 rfl) ?_
    refine va_slen hx hb hX hbl hbA hW.2.2 dL_law_20 ?_
    refine lv_iconst (v := (4 : Int32)) hx hb dL_law_21 (by decide) ?_
    refine lv_isub hx hb dL_law_22 ?_
    refine lv_icmp_gt (tgt := 945) hx hb dL_law_23 (by decide) (fun q => ?_) (fun q => absurd (law_end hL hi q) (by omega))
    refine lv_iconst (v := 1) hx hb dL_law_945 (by decide) ?_
    refine va_forget (fun q hq => hW.2.2.2.2 q hq) ?_
    exact lw_ret hx hb hr hlocks dL_law_946
  | succ n ih =>
    intro i hi hn wC wM H locs ls hR hW hl
    refine lv_iload_n hx hb dL_law_18 rfl (lv_at hl 3 rfl) ?_
    refine lv_aload_n hx hb dL_law_19 rfl (lv_at hl 0 rfl) ?_
    refine va_slen hx hb hX hbl hbA hW.2.2 dL_law_20 ?_
    refine lv_iconst (v := (4 : Int32)) hx hb dL_law_21 (by decide) ?_
    refine lv_isub hx hb dL_law_22 ?_
    refine lv_icmp_gt (tgt := 945) hx hb dL_law_23 (by decide) (fun q => ?_) (fun q => ?_)
    · refine lv_iconst (v := 1) hx hb dL_law_945 (by decide) ?_
      refine va_forget (fun q hq => hW.2.2.2.2 q hq) ?_
      exact lw_ret hx hb hr hlocks dL_law_946
    · have h4 := law_end hL hi q
      have hE : ∀ (wC wM : Mem) (H : Heap) (locs : List Loc), Rel wC wM → Wd s D cA adC adM wC wM H locs → W p l e room_1 s m #[Value.ref b] below meth c H locs 600000 7302250 (lw_Z below #[Value.ref b] s) (F0 m 939 ls []) := by
        intro wC wM H locs hR hW
        refine lv_iinc (v := nI (i + 4)) (lv' := [(3, .int (nI (i + 4))), (0, .ref b), (1, .ref (adC 0)), (2, .ref (adM 0))]) hx hb dL_law_939 hl (k := 3) rfl (nI_pl i 4) (by decide) rfl (fun ls hl => ?_)
        refine lv_goto (tgt := 18) hx hb dL_law_942 (by decide) ?_
        exact ih (i + 4) (by omega) (by omega) wC wM H locs ls hR hW (lv_sub hl [1, 2, 3, 0] rfl)
      refine lv_aload_n hx hb dL_law_26 rfl (lv_at hl 0 rfl) ?_
      refine lv_iload_n hx hb dL_law_27 rfl (lv_at hl 3 rfl) ?_
      refine va_sld hx hb hX hbl hbA hW.2.2 (vp_in_nI (by omega) (by omega)) dL_law_28 ?_
      refine lv_bipush (v := (31 : Int32)) hx hb dL_law_29 (by decide) ?_
      refine lv_iand hx hb dL_law_31 ?_
      refine lv_topi (fun x ex => ?_)
      by_cases c0 : x = 0
      · refine lv_tableIn (tgt := 168) hx hb dL_law_32 (by rw [c0]; decide) (by rw [c0]; decide) (by rw [c0]; rfl) (by decide) ?_
        exact law_sets hL X (hs.1) h4 hR hW hl hE
      by_cases c1 : x = 1
      · refine lv_tableIn (tgt := 201) hx hb dL_law_32 (by rw [c1]; decide) (by rw [c1]; decide) (by rw [c1]; rfl) (by decide) ?_
        exact law_leg hL X (hs.2.1) h4 hR hW hl hE
      by_cases c2 : x = 2
      · refine lv_tableIn (tgt := 244) hx hb dL_law_32 (by rw [c2]; decide) (by rw [c2]; decide) (by rw [c2]; rfl) (by decide) ?_
        exact law_anew hL X (hs.2.2.1) h4 hR hW hl hE
      by_cases c3 : x = 3
      · refine lv_tableIn (tgt := 257) hx hb dL_law_32 (by rw [c3]; decide) (by rw [c3]; decide) (by rw [c3]; rfl) (by decide) ?_
        exact law_draw hL X (hs.2.2.2.1) h4 hR hW hl hE
      by_cases c4 : x = 4
      · refine lv_tableIn (tgt := 280) hx hb dL_law_32 (by rw [c4]; decide) (by rw [c4]; decide) (by rw [c4]; rfl) (by decide) ?_
        exact law_plan hL X (hs.2.2.2.2.1) h4 hR hW hl hE
      by_cases c5 : x = 5
      · refine lv_tableIn (tgt := 303) hx hb dL_law_32 (by rw [c5]; decide) (by rw [c5]; decide) (by rw [c5]; rfl) (by decide) ?_
        exact law_of hL X (hs.2.2.2.2.2.1) h4 hR hW hl hE
      by_cases c6 : x = 6
      · refine lv_tableIn (tgt := 336) hx hb dL_law_32 (by rw [c6]; decide) (by rw [c6]; decide) (by rw [c6]; rfl) (by decide) ?_
        exact law_at hL X (hs.2.2.2.2.2.2.1) h4 hR hW hl hE
      by_cases c7 : x = 7
      · refine lv_tableIn (tgt := 379) hx hb dL_law_32 (by rw [c7]; decide) (by rw [c7]; decide) (by rw [c7]; rfl) (by decide) ?_
        exact law_run hL X (hs.2.2.2.2.2.2.2.1) h4 hR hW hl hE
      by_cases c8 : x = 8
      · refine lv_tableIn (tgt := 412) hx hb dL_law_32 (by rw [c8]; decide) (by rw [c8]; decide) (by rw [c8]; rfl) (by decide) ?_
        exact law_seen hL X (hs.2.2.2.2.2.2.2.2.1) h4 hR hW hl hE
      by_cases c9 : x = 9
      · refine lv_tableIn (tgt := 435) hx hb dL_law_32 (by rw [c9]; decide) (by rw [c9]; decide) (by rw [c9]; rfl) (by decide) ?_
        exact law_told hL X (hs.2.2.2.2.2.2.2.2.2.1) h4 hR hW hl hE
      by_cases c10 : x = 10
      · refine lv_tableIn (tgt := 458) hx hb dL_law_32 (by rw [c10]; decide) (by rw [c10]; decide) (by rw [c10]; rfl) (by decide) ?_
        exact law_both hL X (hs.2.2.2.2.2.2.2.2.2.2.1) h4 hR hW hl hE
      by_cases c11 : x = 11
      · refine lv_tableIn (tgt := 471) hx hb dL_law_32 (by rw [c11]; decide) (by rw [c11]; decide) (by rw [c11]; rfl) (by decide) ?_
        exact law_off hL X (hs.2.2.2.2.2.2.2.2.2.2.2.1) h4 hR hW hl hE
      by_cases c12 : x = 12
      · refine lv_tableIn (tgt := 494) hx hb dL_law_32 (by rw [c12]; decide) (by rw [c12]; decide) (by rw [c12]; rfl) (by decide) ?_
        exact law_dies hL X (hs.2.2.2.2.2.2.2.2.2.2.2.2.1) h4 hR hW hl hE
      by_cases c13 : x = 13
      · refine lv_tableIn (tgt := 517) hx hb dL_law_32 (by rw [c13]; decide) (by rw [c13]; decide) (by rw [c13]; rfl) (by decide) ?_
        exact law_event hL X (hs.2.2.2.2.2.2.2.2.2.2.2.2.2.1) h4 hR hW hl hE
      by_cases c14 : x = 14
      · refine lv_tableIn (tgt := 550) hx hb dL_law_32 (by rw [c14]; decide) (by rw [c14]; decide) (by rw [c14]; rfl) (by decide) ?_
        exact law_events hL X (hs.2.2.2.2.2.2.2.2.2.2.2.2.2.2.1) h4 hR hW hl hE
      by_cases c15 : x = 15
      · refine lv_tableIn (tgt := 563) hx hb dL_law_32 (by rw [c15]; decide) (by rw [c15]; decide) (by rw [c15]; rfl) (by decide) ?_
        exact law_shift hL X (hs.2.2.2.2.2.2.2.2.2.2.2.2.2.2.2.1) h4 hR hW hl hE
      by_cases c16 : x = 16
      · refine lv_tableIn (tgt := 586) hx hb dL_law_32 (by rw [c16]; decide) (by rw [c16]; decide) (by rw [c16]; rfl) (by decide) ?_
        exact law_wish hL X (hs.2.2.2.2.2.2.2.2.2.2.2.2.2.2.2.2.1) h4 hR hW hl hE
      by_cases c17 : x = 17
      · refine lv_tableIn (tgt := 629) hx hb dL_law_32 (by rw [c17]; decide) (by rw [c17]; decide) (by rw [c17]; rfl) (by decide) ?_
        exact law_unwish hL X (hs.2.2.2.2.2.2.2.2.2.2.2.2.2.2.2.2.2.1) h4 hR hW hl hE
      by_cases c18 : x = 18
      · refine lv_tableIn (tgt := 652) hx hb dL_law_32 (by rw [c18]; decide) (by rw [c18]; decide) (by rw [c18]; rfl) (by decide) ?_
        exact law_wished hL X (hs.2.2.2.2.2.2.2.2.2.2.2.2.2.2.2.2.2.2.1) h4 hR hW hl hE
      by_cases c19 : x = 19
      · refine lv_tableIn (tgt := 685) hx hb dL_law_32 (by rw [c19]; decide) (by rw [c19]; decide) (by rw [c19]; rfl) (by decide) ?_
        exact law_steps hL X (hs.2.2.2.2.2.2.2.2.2.2.2.2.2.2.2.2.2.2.2.1) h4 hR hW hl hE
      by_cases c20 : x = 20
      · refine lv_tableIn (tgt := 708) hx hb dL_law_32 (by rw [c20]; decide) (by rw [c20]; decide) (by rw [c20]; rfl) (by decide) ?_
        exact law_settles hL X (hs.2.2.2.2.2.2.2.2.2.2.2.2.2.2.2.2.2.2.2.2.1) h4 hR hW hl hE
      by_cases c21 : x = 21
      · refine lv_tableIn (tgt := 731) hx hb dL_law_32 (by rw [c21]; decide) (by rw [c21]; decide) (by rw [c21]; rfl) (by decide) ?_
        exact law_tunes hL X (hs.2.2.2.2.2.2.2.2.2.2.2.2.2.2.2.2.2.2.2.2.2.1) h4 hR hW hl hE
      by_cases c22 : x = 22
      · refine lv_tableIn (tgt := 754) hx hb dL_law_32 (by rw [c22]; decide) (by rw [c22]; decide) (by rw [c22]; rfl) (by decide) ?_
        exact law_state hL X (hs.2.2.2.2.2.2.2.2.2.2.2.2.2.2.2.2.2.2.2.2.2.2.1) h4 hR hW hl hE
      by_cases c23 : x = 23
      · refine lv_tableIn (tgt := 787) hx hb dL_law_32 (by rw [c23]; decide) (by rw [c23]; decide) (by rw [c23]; rfl) (by decide) ?_
        exact law_memory hL X (hs.2.2.2.2.2.2.2.2.2.2.2.2.2.2.2.2.2.2.2.2.2.2.2.1) h4 hR hW hl hE
      by_cases c24 : x = 24
      · refine lv_tableIn (tgt := 820) hx hb dL_law_32 (by rw [c24]; decide) (by rw [c24]; decide) (by rw [c24]; rfl) (by decide) ?_
        exact law_over hL X (hs.2.2.2.2.2.2.2.2.2.2.2.2.2.2.2.2.2.2.2.2.2.2.2.2.1) h4 hR hW hl hE
      by_cases c25 : x = 25
      · refine lv_tableIn (tgt := 853) hx hb dL_law_32 (by rw [c25]; decide) (by rw [c25]; decide) (by rw [c25]; rfl) (by decide) ?_
        exact law_type hL X (hs.2.2.2.2.2.2.2.2.2.2.2.2.2.2.2.2.2.2.2.2.2.2.2.2.2.1) h4 hR hW hl hE
      by_cases c26 : x = 26
      · refine lv_tableIn (tgt := 876) hx hb dL_law_32 (by rw [c26]; decide) (by rw [c26]; decide) (by rw [c26]; rfl) (by decide) ?_
        exact law_clear hL X (hs.2.2.2.2.2.2.2.2.2.2.2.2.2.2.2.2.2.2.2.2.2.2.2.2.2.2.1) h4 hR hW hl hE
      by_cases c27 : x = 27
      · refine lv_tableIn (tgt := 889) hx hb dL_law_32 (by rw [c27]; decide) (by rw [c27]; decide) (by rw [c27]; rfl) (by decide) ?_
        exact law_reads hL X (hs.2.2.2.2.2.2.2.2.2.2.2.2.2.2.2.2.2.2.2.2.2.2.2.2.2.2.2.1) h4 hR hW hl hE
      by_cases c28 : x = 28
      · refine lv_tableIn (tgt := 902) hx hb dL_law_32 (by rw [c28]; decide) (by rw [c28]; decide) (by rw [c28]; rfl) (by decide) ?_
        exact law_count hL X (hs.2.2.2.2.2.2.2.2.2.2.2.2.2.2.2.2.2.2.2.2.2.2.2.2.2.2.2.2.1) h4 hR hW hl hE
      by_cases c29 : x = 29
      · refine lv_tableIn (tgt := 925) hx hb dL_law_32 (by rw [c29]; decide) (by rw [c29]; decide) (by rw [c29]; rfl) (by decide) ?_
        exact law_digest hL X (hs.2.2.2.2.2.2.2.2.2.2.2.2.2.2.2.2.2.2.2.2.2.2.2.2.2.2.2.2.2) h4 hR hW hl hE
      refine lv_tableOut (tgt := 939) hx hb dL_law_32 (by have q0 := lv_neT (a := 0) c0 (by decide); have q1 := lv_neT (a := 1) c1 (by decide); have q2 := lv_neT (a := 2) c2 (by decide); have q3 := lv_neT (a := 3) c3 (by decide); have q4 := lv_neT (a := 4) c4 (by decide); have q5 := lv_neT (a := 5) c5 (by decide); have q6 := lv_neT (a := 6) c6 (by decide); have q7 := lv_neT (a := 7) c7 (by decide); have q8 := lv_neT (a := 8) c8 (by decide); have q9 := lv_neT (a := 9) c9 (by decide); have q10 := lv_neT (a := 10) c10 (by decide); have q11 := lv_neT (a := 11) c11 (by decide); have q12 := lv_neT (a := 12) c12 (by decide); have q13 := lv_neT (a := 13) c13 (by decide); have q14 := lv_neT (a := 14) c14 (by decide); have q15 := lv_neT (a := 15) c15 (by decide); have q16 := lv_neT (a := 16) c16 (by decide); have q17 := lv_neT (a := 17) c17 (by decide); have q18 := lv_neT (a := 18) c18 (by decide); have q19 := lv_neT (a := 19) c19 (by decide); have q20 := lv_neT (a := 20) c20 (by decide); have q21 := lv_neT (a := 21) c21 (by decide); have q22 := lv_neT (a := 22) c22 (by decide); have q23 := lv_neT (a := 23) c23 (by decide); have q24 := lv_neT (a := 24) c24 (by decide); have q25 := lv_neT (a := 25) c25 (by decide); have q26 := lv_neT (a := 26) c26 (by decide); have q27 := lv_neT (a := 27) c27 (by decide); have q28 := lv_neT (a := 28) c28 (by decide); have q29 := lv_neT (a := 29) c29 (by decide); omega) (by decide) ?_
      exact hE wC wM H locs hR hW
end LW
