/-! THE MEMORY PICTURE: every cell of an object's world has a number i; w i k is the int in slot k of cell i; what refers to what is fixed (the shape). -/
abbrev Mem : Type := Nat → Nat → Int32
abbrev Shp : Type := Nat ⊕ (Nat × List (Option Nat))
def mst (w : Mem) (i k : Nat) (v : Int32) : Mem := fun j => if j = i then upd (w i) k v else w j
def fvs (ad : Nat → Nat) (g : Nat → Int32) : Nat → List (Option Nat) → List Value
  | _, [] => []
  | k, none :: r => .int (g k) :: fvs ad g (k + 1) r
  | k, some j :: r => .ref (ad j) :: fvs ad g (k + 1) r
theorem fvs_len (ad : Nat → Nat) (g : Nat → Int32) : ∀ (fk : List (Option Nat)) (b : Nat), (fvs ad g b fk).length = fk.length
  | [], _ => rfl
  | none :: r, b => by simp [fvs, fvs_len ad g r]
  | some j :: r, b => by simp [fvs, fvs_len ad g r]
theorem fvs_int (ad : Nat → Nat) (g : Nat → Int32) : ∀ (fk : List (Option Nat)) (b k : Nat), fk[k]? = some none → (fvs ad g b fk)[k]? = some (.int (g (b + k)))
  | [], _, k, h => by simp at h
  | none :: r, b, 0, _ => by simp [fvs]
  | some j :: r, b, 0, h => by simp at h
  | none :: r, b, k + 1, h => by
    have h' : r[k]? = some none := by simpa using h
    have := fvs_int ad g r (b + 1) k h'
    simpa [fvs, Nat.add_assoc, Nat.add_comm 1 k] using this
  | some j :: r, b, k + 1, h => by
    have h' : r[k]? = some none := by simpa using h
    have := fvs_int ad g r (b + 1) k h'
    simpa [fvs, Nat.add_assoc, Nat.add_comm 1 k] using this
theorem fvs_ref (ad : Nat → Nat) (g : Nat → Int32) {j : Nat} : ∀ (fk : List (Option Nat)) (b k : Nat), fk[k]? = some (some j) → (fvs ad g b fk)[k]? = some (.ref (ad j))
  | [], _, k, h => by simp at h
  | none :: r, b, 0, h => by simp at h
  | some j' :: r, b, 0, h => by
    have h' : j' = j := by simpa using h
    simp [fvs, h']
  | none :: r, b, k + 1, h => by
    have h' : r[k]? = some (some j) := by simpa using h
    simpa [fvs] using fvs_ref ad g r (b + 1) k h'
  | some j' :: r, b, k + 1, h => by
    have h' : r[k]? = some (some j) := by simpa using h
    simpa [fvs] using fvs_ref ad g r (b + 1) k h'
theorem fvs_congr (ad : Nat → Nat) {g g' : Nat → Int32} : ∀ (fk : List (Option Nat)) (b : Nat), (∀ k, b ≤ k → g k = g' k) → fvs ad g b fk = fvs ad g' b fk
  | [], _, _ => rfl
  | none :: r, b, h => by simp only [fvs]; rw [h b (Nat.le_refl b), fvs_congr ad r (b + 1) (fun k hk => h k (by omega))]
  | some j :: r, b, h => by simp only [fvs]; rw [fvs_congr ad r (b + 1) (fun k hk => h k (by omega))]
theorem fvs_set (ad : Nat → Nat) (g : Nat → Int32) (v : Int32) : ∀ (fk : List (Option Nat)) (b k : Nat), fk[k]? = some none → (fvs ad g b fk).set k (.int v) = fvs ad (upd g (b + k) v) b fk
  | [], _, k, h => by simp at h
  | none :: r, b, 0, _ => by
    have : fvs ad g (b + 1) r = fvs ad (upd g (b + 0) v) (b + 1) r := fvs_congr ad r (b + 1) (fun k hk => by simp only [upd]; rw [if_neg (by omega)])
    simp only [fvs, List.set_cons_zero, this]
    congr 1
    simp [upd]
  | some j :: r, b, 0, h => by simp at h
  | none :: r, b, k + 1, h => by
    have h' : r[k]? = some none := by simpa using h
    have e : b + (k + 1) = (b + 1) + k := by omega
    simp only [fvs, List.set_cons_succ, fvs_set ad g v r (b + 1) k h', e]
    congr 1
    simp only [upd]
    rw [if_neg (by omega)]
  | some j :: r, b, k + 1, h => by
    have h' : r[k]? = some none := by simpa using h
    have e : b + (k + 1) = (b + 1) + k := by omega
    simp only [fvs, List.set_cons_succ, fvs_set ad g v r (b + 1) k h', e]
/-- what the kit's world says of cell i -/
def cE (sh : Nat → Shp) (ad : Nat → Nat) (cA : ClassId) (w : Mem) (i : Nat) : va_E := match sh i with
  | .inl n => .inl (cA, n, .inl (w i))
  | .inr q => .inr (q.1, fvs ad (w i) 0 q.2)
def wsO (n : Nat) (sh : Nat → Shp) (ad : Nat → Nat) (cA : ClassId) (w : Mem) : va_W := (List.range n).map (fun i => (ad i, cE sh ad cA w i))
theorem wsO_get {n : Nat} {sh : Nat → Shp} {ad : Nat → Nat} {cA : ClassId} {w : Mem} {i : Nat} (h : i < n) : (wsO n sh ad cA w)[i]? = some (ad i, cE sh ad cA w i) := by
  simp [wsO, h]
theorem cE_other {sh : Nat → Shp} {ad : Nat → Nat} {cA : ClassId} {w : Mem} {i j k : Nat} {v : Int32} (h : j ≠ i) : cE sh ad cA (mst w i k v) j = cE sh ad cA w j := by
  have e : (mst w i k v) j = w j := by simp [mst, h]
  simp only [cE, e]
theorem wsO_up {n : Nat} {sh : Nat → Shp} {ad : Nat → Nat} {cA : ClassId} {w w' : Mem} {i : Nat} {E : va_E} (h : i < n) (hE : cE sh ad cA w' i = E) (ho : ∀ j, j ≠ i → w' j = w j) : (wsO n sh ad cA w).set i (ad i, E) = wsO n sh ad cA w' := by
  apply List.ext_getElem?
  intro j
  by_cases hj : j = i
  · subst hj
    rw [wsO_get h, List.getElem?_set_self (by simpa [wsO] using h), hE]
  · rw [List.getElem?_set_ne (Ne.symm hj)]
    by_cases hn : j < n
    · rw [wsO_get hn, wsO_get hn]
      simp only [cE, ho j hj]
    · simp [wsO, hn]
theorem mst_self (w : Mem) (i k : Nat) (v : Int32) : mst w i k v i = upd (w i) k v := by simp [mst]
theorem mst_ne (w : Mem) {i j : Nat} (k : Nat) (v : Int32) (h : j ≠ i) : mst w i k v j = w j := by simp [mst, h]
def AdOk (n : Nat) (ad : Nat → Nat) (A : Nat → Prop) : Prop := (∀ i j, i < n → j < n → ad i = ad j → i = j) ∧ ∀ i, i < n → A (ad i)
theorem AdOk.D {n : Nat} {ad : Nat → Nat} {A : Nat → Prop} (h : AdOk n ad A) (sh : Nat → Shp) (cA : ClassId) (w : Mem) : va_D A (wsO n sh ad cA w) := by
  have key : ∀ (k : Nat) (q : Nat × va_E), (wsO n sh ad cA w)[k]? = some q → k < n ∧ q.1 = ad k := by
    intro k q hk
    by_cases hn : k < n
    · rw [wsO_get hn] at hk
      cases hk
      exact ⟨hn, rfl⟩
    · simp [wsO, hn] at hk
  refine ⟨fun i j p q hi hj e => ?_, fun k q hk => ?_⟩
  · obtain ⟨h1, e1⟩ := key i p hi
    obtain ⟨h2, e2⟩ := key j q hj
    exact h.1 i j h1 h2 (by rw [← e1, ← e2]; exact e)
  · obtain ⟨h1, e1⟩ := key k q hk
    rw [e1]
    exact h.2 k h1
/-! the words: all good words of the tables, for every method -/
def gT : List Cond := lw_tbl.filter goodWord
def wsy (y : MethodName) (cc : ByteArray) (mL : Nat) (rt : Option FieldType) : List Cond := Cond.code y cc mL rt :: gT
theorem gT_in {y : MethodName} {cc : ByteArray} {mL : Nat} {rt : Option FieldType} (h : Cond.code y cc mL rt ∈ gT) : GoodIn gT (wsy y cc mL rt) := by
  intro w hw
  rcases List.mem_cons.mp hw with rfl | hw
  · exact ⟨h, good_of_word (List.mem_filter.mp h).2⟩
  · exact ⟨hw, good_of_word (List.mem_filter.mp hw).2⟩
theorem tin (i : Nat) {w : Cond} (h : tables_1[i]? = some w) (g : goodWord w = true) : w ∈ gT := List.mem_filter.mpr ⟨List.mem_append_right _ (List.mem_of_getElem? h), g⟩
theorem tsl (i : Nat) {w : Cond} (h : (k2_sels lw_privs)[i]? = some w) (g : goodWord w = true) : w ∈ gT := List.mem_filter.mpr ⟨List.mem_append_left _ (List.mem_of_getElem? h), g⟩
/-- the classes whose objects the worlds hold -/
abbrev classes : List vw_C := [(RX0, TX0, 8), (RX1, TX1, 9), (RX2, TX2, 2), (RX3, TX3, 6), (RX4, TX4, 3), (RX5, TX5, 5), (RX6, TX6, 8), (RX7, TX7, 37)]
/-! links into a nest mate's private members: they go from state to state by themselves -/
def NM : List (String × Nat × MethodName × String) := [("DriveTicks$Drive", 38, yX1_init, "DriveTicks"), ("DriveTicks$Table", 46, yX6_pulledWithin, "DriveTicks"), ("DriveTicks", 21, yX2_init, "DriveTicks"), ("DriveTicks", 37, yX3_init, "DriveTicks"), ("DriveTicks$Shifts", 11, yX2_init, "DriveTicks"), ("DriveTicks", 47, yX5_init, "DriveTicks"),
  ("DriveTicks$Plan", 35, yX6_greatestOf, "DriveTicks"), ("DriveTicks$Plan", 39, yX6_leastOf, "DriveTicks"), ("DriveTicks$Plan", 52, yX6_pulledWithin, "DriveTicks"), ("DriveTicks$Table", 36, yX6_within, "DriveTicks"), ("DriveTicks$Shifts", 45, yX6_within, "DriveTicks"), ("DriveTicks$Drive", 100, yX6_isLeg, "DriveTicks"),
  ("DriveTicks$Drive", 104, yX6_greatestOf, "DriveTicks"), ("DriveTicks$Drive", 108, yX6_leastOf, "DriveTicks"), ("DriveTicks$Drive", 111, yX6_pulledWithin, "DriveTicks"), ("DriveTicks$Text", 48, yX6_isLeg, "DriveTicks"), ("DriveTicks$Text", 76, yX6_within, "DriveTicks")]
def Nst (U : State) : Prop := (∀ q ∈ NM, va_Nw (.methodLinkNest q.1 q.2.1 q.2.2.1 q.2.2.2) U) ∧ va_Nw (.fieldLinkNest "DriveTicks$Drive" 46 "DriveTicks" "SETTING_AT_FIRST" "[I" "DriveTicks") U ∧ va_Nw (.fieldLinkNest "DriveTicks$Runs" 35 "DriveTicks" "LEG_TOLD" "[I" "DriveTicks") U
theorem Nst.warm {s U : State} (hW : s.WarmedH U.vm) (h : Nst s) : Nst U := ⟨fun q hq => va_Nw.warmM hW (h.1 q hq), va_Nw.warmF hW h.2.1, va_Nw.warmF hW h.2.2⟩
theorem Nst.same {s U : State} (hv : s.vm = U.vm) (h : Nst s) : Nst U := ⟨fun q hq => va_Nw.same rfl hv (h.1 q hq), va_Nw.same rfl hv h.2.1, va_Nw.same rfl hv h.2.2⟩
/-! the static rows of ints, outside of all worlds -/
def snm (k : Nat) : String := match k with
  | 0 => "SETTING_AT_FIRST"
  | 1 => "SETTING_LEAST"
  | 2 => "SETTING_MOST"
  | _ => "LEG_TOLD"
def sln (k : Nat) : Nat := match k with
  | 3 => 8
  | _ => 7
def sct (k : Nat) : Nat → Int32 := fun j => match k with
  | 0 => ([48, 2, 1, 4, 8, 4, 0] : List Int32).getD j 0
  | 1 => ([12, 0, 0, 1, 0, 0, 0] : List Int32).getD j 0
  | 2 => ([96, 5, 1, 20, 20, 20, 1] : List Int32).getD j 0
  | _ => ([-1, 0, 1, 2, 2, 1, 0, -1] : List Int32).getD j 0
def Stt (A : Nat → Prop) (sa : Nat → Nat) (U : State) : Prop := ∀ k, k < 4 → va_Z "DriveTicks" (snm k) "[I" (.ref (sa k)) A U U.heap ∧ va_T .int (sa k) (sln k) (fun j => .int (sct k j)) A U U.heap
theorem Stt.go {A : Nat → Prop} {sa : Nat → Nat} {s U : State} {H : Heap} {locs : List Loc} (hvm : s.vm.Alike U.vm) (hh : U.heap = H) (hS : va_S A s.heap H locs) (h : Stt A sa s) : Stt A sa U := by
  intro k hk
  obtain ⟨h1, h2⟩ := h k hk
  subst hh
  exact ⟨va_Z.moved hvm (va_Z.kept h1 (fun a g1 g2 => hS.2.1 a g1 g2)), va_T.moved hvm (va_T.kept h2 (fun a g1 g2 => hS.2.1 a g1 g2))⟩
theorem Stt.same {A : Nat → Prop} {sa : Nat → Nat} {s U : State} (hvm : s.vm.Alike U.vm) (hh : U.heap = s.heap) (h : Stt A sa s) : Stt A sa U := h.go (locs := []) hvm hh va_S.rf
/-! contracts -/
def PcC (n : Nat) (sh : Nat → Shp) (D : va_G) (cA : ClassId) (ad : Nat → Nat) (A : Nat → Prop) (sa : Nat → Nat) (w : Mem) (as : List Value) : Array Value → State → Prop := va_Pc as (fun U => va_P D classes (wsO n sh ad cA w) U.heap ∧ va_K D classes [(cA, .int)] U ∧ Nst U ∧ Stt A sa U)
def QcC (n : Nat) (sh : Nat → Shp) (D : va_G) (cA : ClassId) (ad : Nat → Nat) (A : Nat → Prop) (r : Option Value) (w' : Mem) : Array Value → State → Outcome → State → Prop := fun _ st oc t => oc = .returned r ∧ va_P D classes (wsO n sh ad cA w') t.heap ∧ va_F A st t
abbrev Ctr (l : Launch) (n : Nat) (sh : Nat → Shp) (D : va_G) (cA : ClassId) (ad : Nat → Nat) (A : Nat → Prop) (sa : Nat → Nat) (y : MethodName) (cc : ByteArray) (mL : Nat) (rt : Option FieldType) (fr lo : Nat) (as : List Value) (w : Mem) (r : Option Value) (w' : Mem) : Prop :=
  Met l y (wsy y cc mL rt) ({ frames := fr, cells := 0, slots := 0, locals := lo }) (PcC n sh D cA ad A sa w as) (QcC n sh D cA ad A r w') 0 0 A
def QM (n : Nat) (sh : Nat → Shp) (D : va_G) (cA : ClassId) (ad : Nat → Nat) (A : Nat → Prop) (below : List Frame) (args : Array Value) (s : State) (r : Option Value) (w' : Mem) : State → Prop := MQ below (QcC n sh D cA ad A r w') args s 0 0 A
/-- what holds all through a method's body -/
def Mx (n : Nat) (D : va_G) (cA : ClassId) (ad : Nat → Nat) (A : Nat → Prop) (sa : Nat → Nat) (p : Program) (s : State) (m : MethodId) (args : Array Value) (meth : Method) (c : Code) (own : String) (cc : ByteArray) (mL : Nat) (rt : Option FieldType) : Prop :=
  p.tables.exec = Jvm.exec ∧ c.code = cc ∧ meth.sig.returnType = rt ∧ c.maxLocals = mL ∧ s.vm.findClass own = some m.cls ∧ (∀ w ∈ gT, w.before args s = true) ∧ meth.locks = false ∧ va_K D classes [(cA, .int)] s ∧ Nst s ∧ Stt A sa s ∧ AdOk n ad A
def Iv (n : Nat) (sh : Nat → Shp) (D : va_G) (cA : ClassId) (ad : Nat → Nat) (A : Nat → Prop) (H0 : Heap) (w : Mem) (H : Heap) (locs : List Loc) : Prop := va_P D classes (wsO n sh ad cA w) H ∧ va_S A H0 H locs
theorem m_enter {l : Launch} {n : Nat} {sh : Nat → Shp} {D : va_G} {cA : ClassId} {ad : Nat → Nat} {A : Nat → Prop} {sa : Nat → Nat} {y : MethodName} {cc : ByteArray} {mL : Nat} {rt : Option FieldType} {fr lo : Nat} {as : List Value} {w : Mem} {r : Option Value} {w' : Mem} (hA : AdOk n ad A) (hy : plainName y.cls = true) (hlen : (lg_sl as).length ≤ mL)
    (body : ∀ (p : Program) (e : Env) (s : State) (m : MethodId) (args : Array Value) (below : List Frame) (meth : Method) (c : Code) (ls : Array Slot), Mx n D cA ad A sa p s m args meth c y.cls cc mL rt → Iv n sh D cA ad A s.heap w s.heap [] → lv_has ls mL (lv_args 0 as) → W p l e ({ frames := fr, cells := 0, slots := 0, locals := lo }) s m args below meth c s.heap [] 0 0 (QM n sh D cA ad A below args s r w') (F0 m 0 ls [])) :
    Ctr l n sh D cA ad A sa y cc mL rt fr lo as w r w' := by
  refine Met.ofW (cc := cc) (maxL := mL) (ret := rt) hy rfl ?_
  intro p e s m args below meth c s₁ B hml hv
  obtain ⟨rfl, hP, hK, hN, hZ⟩ := hv
  have hl := lv_entry as (n := mL) hlen
  rw [lg_entry_eq]
  generalize (lg_sl as ++ List.replicate (mL - (lg_sl as).length) Slot.unset).toArray = ls at hl ⊢
  exact body p e s m as.toArray below meth c ls ⟨B.exec, B.bytes, B.returns, hml, findClass_of_methodNamed B.named, fun w hw => atoms_spec (ws := wsy y cc mL rt) B.pre w (List.mem_cons_of_mem _ hw), B.notSynchronized, hK, hN, hZ, hA⟩ ⟨hP, va_S.rf⟩ hl
section MR
variable {n : Nat} {sh : Nat → Shp} {D : va_G} {cA : ClassId} {ad : Nat → Nat} {A : Nat → Prop} {sa : Nat → Nat} {own : String} {mL : Nat} {rt : Option FieldType} {w : Mem}
variable {p : Program} {l : Launch} {e : Env} {R : Room} {s : State} {m : MethodId} {args : Array Value} {below : List Frame} {meth : Method} {c : Code} {H : Heap} {locs : List Loc} {cells slots : Nat} {Q : State → Prop} {cc : ByteArray} {pc : Nat} {ls : Array Slot} {rest : List Value}
/-- getfield of an int -/
theorem m_getI (G : Mx n D cA ad A sa p s m args meth c own cc mL rt) (hI : Iv n sh D cA ad A s.heap w H locs) {C ref : String} {T : u_T} {N ci k i index : Nat} {fk : List (Option Nat)} (hin : ∀ w ∈ u_ws C T N, w ∈ gT) (hc : classes[ci]? = some (C, T, N)) (hk : k < N) (hl : Cond.fieldLink own index ref (T k).2.1 (T k).2.2.1 ∈ gT) (hr : (T k).1 = ref)
    (hi : i < n) (hs : sh i = .inr (ci, fk)) (hf : fk[k]? = some none) (hd : decode cc pc = .ok (.getfield index, 3))
    (kk : W p l e R s m args below meth c H locs cells slots Q (F0 m (pc + 3) ls (.int (w i k) :: rest))) : W p l e R s m args below meth c H locs cells slots Q (F0 m pc ls (.ref (ad i) :: rest)) := by
  obtain ⟨hx, hb, -, -, hown, hg, -, hK, -, -, -⟩ := G
  have he : (wsO n sh ad cA w)[i]? = some (ad i, .inr (ci, fvs ad (w i) 0 fk)) := by rw [wsO_get hi]; simp only [cE, hs]
  exact va_get hx hb hg hin hown hK hI.1 i he hc k hk (hg _ hl) (fun x h => by rw [← hr]; exact h) (by rw [fvs_int ad (w i) fk 0 k hf, Nat.zero_add]) hd kk
/-- getfield of a reference -/
theorem m_getR (G : Mx n D cA ad A sa p s m args meth c own cc mL rt) (hI : Iv n sh D cA ad A s.heap w H locs) {C ref : String} {T : u_T} {N ci k i j index : Nat} {fk : List (Option Nat)} (hin : ∀ w ∈ u_ws C T N, w ∈ gT) (hc : classes[ci]? = some (C, T, N)) (hk : k < N) (hl : Cond.fieldLink own index ref (T k).2.1 (T k).2.2.1 ∈ gT) (hr : (T k).1 = ref)
    (hi : i < n) (hs : sh i = .inr (ci, fk)) (hf : fk[k]? = some (some j)) (hd : decode cc pc = .ok (.getfield index, 3))
    (kk : W p l e R s m args below meth c H locs cells slots Q (F0 m (pc + 3) ls (.ref (ad j) :: rest))) : W p l e R s m args below meth c H locs cells slots Q (F0 m pc ls (.ref (ad i) :: rest)) := by
  obtain ⟨hx, hb, -, -, hown, hg, -, hK, -, -, -⟩ := G
  have he : (wsO n sh ad cA w)[i]? = some (ad i, .inr (ci, fvs ad (w i) 0 fk)) := by rw [wsO_get hi]; simp only [cE, hs]
  exact va_get hx hb hg hin hown hK hI.1 i he hc k hk (hg _ hl) (fun x h => by rw [← hr]; exact h) (fvs_ref ad (w i) fk 0 k hf) hd kk
/-- putfield of an int (or a boolean that is 0 or 1) -/
theorem m_put (G : Mx n D cA ad A sa p s m args meth c own cc mL rt) (hI : Iv n sh D cA ad A s.heap w H locs) {C ref : String} {T : u_T} {N ci k i index : Nat} {fk : List (Option Nat)} {ty : FieldType} {ty0 : Nat → FieldType} (hin : ∀ w ∈ u_ws C T N, w ∈ gT) (hty : ∀ k, k < N → parseFieldDescriptor (T k).2.2.1 = some (ty0 k)) (hnm : ∀ a, a < N → ∀ b, b < N → a ≠ b → (T a).2.1 ≠ (T b).2.1) (hc : classes[ci]? = some (C, T, N)) (hk : k < N) (hl : Cond.fieldLink own index ref (T k).2.1 (T k).2.2.1 ∈ gT) (hr : (T k).1 = ref) (hfin : (T k).2.2.2 = false) (hpd : parseFieldDescriptor (T k).2.2.1 = some ty)
    (hi : i < n) (hs : sh i = .inr (ci, fk)) (hf : fk[k]? = some none) {v : Int32} (hn : narrow ty (.int v) = .int v) (hfit : fits ty (.int v) = true) (hd : decode cc pc = .ok (.putfield index, 3))
    (kk : ∀ (H1 : Heap) (locs1 : List Loc), Iv n sh D cA ad A s.heap (mst w i k v) H1 locs1 → W p l e R s m args below meth c H1 locs1 cells slots Q (F0 m (pc + 3) ls rest)) : W p l e R s m args below meth c H locs cells slots Q (F0 m pc ls (.int v :: .ref (ad i) :: rest)) := by
  obtain ⟨hx, hb, -, -, hown, hg, -, hK, -, -, hA⟩ := G
  have he : (wsO n sh ad cA w)[i]? = some (ad i, .inr (ci, fvs ad (w i) 0 fk)) := by rw [wsO_get hi]; simp only [cE, hs]
  have hlt : k < (fvs ad (w i) 0 fk).length := by rw [fvs_len]; exact (List.getElem?_eq_some_iff.mp hf).1
  refine va_put hx hb hg hin ty0 hty hnm hown hK hI.1 (hA.D sh cA w) hI.2 i he hc k hk (hg _ hl) (fun x h => by rw [← hr]; exact h) hfin hpd hn hfit hlt hd (fun H1 locs1 hP hD hS => ?_)
  refine kk H1 locs1 ⟨?_, hS⟩
  rw [wsO_up (w' := mst w i k v) hi (by simp only [cE, hs, mst_self]; rw [fvs_set ad (w i) v fk 0 k hf, Nat.zero_add]) (fun j hj => mst_ne w k v hj)] at hP
  exact hP
/-- iaload, iastore on a row of the world -/
theorem m_ald (G : Mx n D cA ad A sa p s m args meth c own cc mL rt) (hI : Iv n sh D cA ad A s.heap w H locs) {i len : Nat} {j : Int32} (hi : i < n) (hs : sh i = .inl len) (hj : vp_in j len) (hd : decode cc pc = .ok (.iaload, 1))
    (kk : W p l e R s m args below meth c H locs cells slots Q (F0 m (pc + 1) ls (.int (w i j.toNatClampNeg) :: rest))) : W p l e R s m args below meth c H locs cells slots Q (F0 m pc ls (.int j :: .ref (ad i) :: rest)) := by
  obtain ⟨hx, hb, -, -, hown, hg, -, hK, -, -, -⟩ := G
  have he : (wsO n sh ad cA w)[i]? = some (ad i, .inl (cA, len, .inl (w i))) := by rw [wsO_get hi]; simp only [cE, hs]
  exact va_iald hx hb hK hI.1 i 0 he rfl hj hd kk
theorem m_ast (G : Mx n D cA ad A sa p s m args meth c own cc mL rt) (hI : Iv n sh D cA ad A s.heap w H locs) {i len : Nat} {j v : Int32} (hi : i < n) (hs : sh i = .inl len) (hj : vp_in j len) (hd : decode cc pc = .ok (.iastore, 1))
    (kk : ∀ (H1 : Heap) (locs1 : List Loc), Iv n sh D cA ad A s.heap (mst w i j.toNatClampNeg v) H1 locs1 → W p l e R s m args below meth c H1 locs1 cells slots Q (F0 m (pc + 1) ls rest)) : W p l e R s m args below meth c H locs cells slots Q (F0 m pc ls (.int v :: .int j :: .ref (ad i) :: rest)) := by
  obtain ⟨hx, hb, -, -, hown, hg, -, hK, -, -, hA⟩ := G
  have he : (wsO n sh ad cA w)[i]? = some (ad i, .inl (cA, len, .inl (w i))) := by rw [wsO_get hi]; simp only [cE, hs]
  refine va_iast hx hb hK hI.1 (hA.D sh cA w) hI.2 i 0 he rfl hj hd (fun H1 locs1 hP hD hS => ?_)
  refine kk H1 locs1 ⟨?_, hS⟩
  rw [wsO_up (w' := mst w i j.toNatClampNeg v) hi (by simp only [cE, hs, mst_self]) (fun j' hj' => mst_ne w j.toNatClampNeg v hj')] at hP
  exact hP
/-- the static rows -/
theorem m_gets (G : Mx n D cA ad A sa p s m args meth c own cc mL rt) (hI : Iv n sh D cA ad A s.heap w H locs) (k : Nat) (hk : k < 4) {index : Nat} (hl : Cond.fieldLink own index "DriveTicks" (snm k) "[I" ∈ gT) (hd : decode cc pc = .ok (.getstatic index, 3))
    (kk : W p l e R s m args below meth c H locs cells slots Q (F0 m (pc + 3) ls (.ref (sa k) :: rest))) : W p l e R s m args below meth c H locs cells slots Q (F0 m pc ls rest) := by
  obtain ⟨hx, hb, -, -, hown, hg, -, hK, -, hZ, -⟩ := G
  exact va_gets hx hb (hZ k hk).1 hI.2 hown (hg _ hl) (fun _ h => h) hd kk
theorem m_getsN (G : Mx n D cA ad A sa p s m args meth c own cc mL rt) (hI : Iv n sh D cA ad A s.heap w H locs) (k : Nat) (hk : k < 4) {index : Nat} {host : String} (hl : Nst s → va_Nw (.fieldLinkNest own index "DriveTicks" (snm k) "[I" host) s) (hd : decode cc pc = .ok (.getstatic index, 3))
    (kk : W p l e R s m args below meth c H locs cells slots Q (F0 m (pc + 3) ls (.ref (sa k) :: rest))) : W p l e R s m args below meth c H locs cells slots Q (F0 m pc ls rest) := by
  obtain ⟨hx, hb, -, -, hown, hg, -, hK, hN, hZ, -⟩ := G
  exact va_getsN hx hb (hZ k hk).1 hI.2 hown (va_Nw.use rfl (hl hN)) (fun _ h => h) hd kk
theorem m_sald (G : Mx n D cA ad A sa p s m args meth c own cc mL rt) (hI : Iv n sh D cA ad A s.heap w H locs) (k : Nat) (hk : k < 4) {j : Int32} (hj : vp_in j (sln k)) (hd : decode cc pc = .ok (.iaload, 1))
    (kk : W p l e R s m args below meth c H locs cells slots Q (F0 m (pc + 1) ls (.int (sct k j.toNatClampNeg) :: rest))) : W p l e R s m args below meth c H locs cells slots Q (F0 m pc ls (.int j :: .ref (sa k) :: rest)) := by
  obtain ⟨hx, hb, -, -, hown, hg, -, hK, -, hZ, -⟩ := G
  exact va_ti hx hb (hZ k hk).2 hI.2 hj rfl hd kk
/-- ends -/
theorem m_iret (G : Mx n D cA ad A sa p s m args meth c own cc mL rt) (hI : Iv n sh D cA ad A s.heap w H locs) {v : Int32} (hrt : rt = some .int) (hd : decode cc pc = .ok (.ireturn, 1)) : W p l e R s m args below meth c H locs 0 0 (QM n sh D cA ad A below args s (some (.int v)) w) (F0 m pc ls [.int v]) := by
  obtain ⟨hx, hb, hr, -, hown, hg, hlocks, hK, -, -, -⟩ := G
  subst hrt
  exact W.iret hx hb hr (fun t ht hW => ⟨rfl, by rw [ht]; exact hI.1, hI.2.F ht⟩) hI.2.2.2 hd hlocks
theorem m_zret (G : Mx n D cA ad A sa p s m args meth c own cc mL rt) (hI : Iv n sh D cA ad A s.heap w H locs) {v : Int32} (hrt : rt = some .boolean) (hn : narrow .boolean (.int v) = .int v) (hd : decode cc pc = .ok (.ireturn, 1)) : W p l e R s m args below meth c H locs 0 0 (QM n sh D cA ad A below args s (some (.int v)) w) (F0 m pc ls [.int v]) := by
  obtain ⟨hx, hb, hr, -, hown, hg, hlocks, hK, -, -, -⟩ := G
  subst hrt
  exact W.zret hx hb hr hn (fun t ht hW => ⟨rfl, by rw [ht]; exact hI.1, hI.2.F ht⟩) hI.2.2.2 hd hlocks
theorem m_lret (G : Mx n D cA ad A sa p s m args meth c own cc mL rt) (hI : Iv n sh D cA ad A s.heap w H locs) {v : Int64} (hrt : rt = some .long) (hd : decode cc pc = .ok (.lreturn, 1)) : W p l e R s m args below meth c H locs 0 0 (QM n sh D cA ad A below args s (some (.long v)) w) (F0 m pc ls [.long v]) := by
  obtain ⟨hx, hb, hr, -, hown, hg, hlocks, hK, -, -, -⟩ := G
  subst hrt
  exact W.lret hx hb hr (fun t ht hW => ⟨rfl, by rw [ht]; exact hI.1, hI.2.F ht⟩) hI.2.2.2 hd hlocks
theorem m_vret (G : Mx n D cA ad A sa p s m args meth c own cc mL rt) (hI : Iv n sh D cA ad A s.heap w H locs) (hrt : rt = none) (hd : decode cc pc = .ok (.return_, 1)) : W p l e R s m args below meth c H locs 0 0 (QM n sh D cA ad A below args s none w) (F0 m pc ls []) := by
  obtain ⟨hx, hb, hr, -, hown, hg, hlocks, hK, -, -, -⟩ := G
  subst hrt
  exact W.vret hx hb hr (fun t ht hW => ⟨rfl, by rw [ht]; exact hI.1, hI.2.F ht⟩) hI.2.2.2 hd hlocks
theorem m_aret (G : Mx n D cA ad A sa p s m args meth c own cc mL rt) (hI : Iv n sh D cA ad A s.heap w H locs) {q : Nat} {nm : String} (hrt : rt = some (.object nm)) (hd : decode cc pc = .ok (.areturn, 1)) : W p l e R s m args below meth c H locs 0 0 (QM n sh D cA ad A below args s (some (.ref q)) w) (F0 m pc ls [.ref q]) := by
  obtain ⟨hx, hb, hr, -, hown, hg, hlocks, hK, -, -, -⟩ := G
  subst hrt
  exact W.aret hx hb hr (Or.inl ⟨_, rfl⟩) (Or.inr ⟨_, rfl⟩) (fun t ht hW => ⟨rfl, by rw [ht]; exact hI.1, hI.2.F ht⟩) hI.2.2.2 hd hlocks
/-- behind a call -/
theorem m_back {r : Option Value} {w1 : Mem} {a : Array Value} {st0 : List Value} (hr : va_Run p l e R s m args below meth c H locs 0 0 0 0 (F0 m pc ls st0) rest (QcC n sh D cA ad A r w1 a) A) (hI : Iv n sh D cA ad A s.heap w H locs)
    (kk : ∀ (H1 : Heap) (locs1 : List Loc), Iv n sh D cA ad A s.heap w1 H1 locs1 → W p l e R s m args below meth c H1 locs1 0 0 Q (F0 m (pc + 3) ls (r.toList ++ rest))) : W p l e R s m args below meth c H locs 0 0 Q (F0 m pc ls st0) := by
  have hS := hI.2
  intro T hT X
  obtain ⟨v, st₀, t, T', L, h0, X', hL, e1, e2, ⟨hv, hp, hz, hk⟩, st⟩ := hr T hT X
  cases hv
  rw [h0] at hz hk
  obtain ⟨t2, a1, b1⟩ := kk T'.heap (locs ++ L) ⟨by rw [e1]; exact hp, Nat.le_trans hS.1 (by rw [e1]; exact hz), fun q h1 h2 => by rw [e1, hk q (Nat.lt_of_lt_of_le h1 hS.1) h2]; exact hS.2.1 q h1 h2, fun q hq => by
      rcases List.mem_append.mp hq with h | h
      · exact hS.2.2 q h
      · exact hL q h⟩ T' rfl X'
  exact ⟨t2, st t2 a1, b1⟩
theorem PcC.blind {as : List Value} : FrameBlind (PcC n sh D cA ad A sa w as) := fun a U g mk q => by
  obtain ⟨q0, qP, qK, qN, qS⟩ := q
  exact ⟨q0, qP, va_K.moved (u := U) (U := U.calling g mk a) (Vm.Alike.refl U.vm) qK, qN.same rfl, qS.same (U := U.calling g mk a) (Vm.Alike.refl U.vm) rfl⟩
theorem PcC.at (G : Mx n D cA ad A sa p s m args meth c own cc mL rt) (hI : Iv n sh D cA ad A s.heap w H locs) (as : List Value) : ∀ U : State, U.heap = H → s.WarmedH U.vm → PcC n sh D cA ad A sa w as as.toArray U := by
  obtain ⟨hx, hb, hr, -, hown, hg, hlocks, hK, hN, hZ, -⟩ := G
  exact fun U hU hW => ⟨rfl, by rw [hU]; exact hI.1, va_K.moved hW.alike hK, hN.warm hW, hZ.go hW.alike hU hI.2⟩
/-- what the tables say of a method, by its words -/
def MV (y : MethodName) (cc : ByteArray) (mL : Nat) (rt : Option FieldType) (na : Nat) : Prop := Cond.code y cc mL rt ∈ gT ∧ Cond.instanceMethod y ∈ gT ∧ Cond.selects y.cls y y ∈ gT ∧ Cond.initialized y.cls ∈ gT ∧ y.cls ≠ "java/lang/invoke/MethodHandle" ∧ y.cls ≠ "java/lang/invoke/VarHandle" ∧ (parseMethodDescriptor y.desc).map (fun d => d.parameters.length) = some na
def MS (y : MethodName) (cc : ByteArray) (mL : Nat) (rt : Option FieldType) (na : Nat) : Prop := Cond.code y cc mL rt ∈ gT ∧ Cond.static y ∈ gT ∧ Cond.initialized y.cls ∈ gT ∧ y.cls ≠ "java/lang/invoke/MethodHandle" ∧ y.cls ≠ "java/lang/invoke/VarHandle" ∧ (parseMethodDescriptor y.desc).map (fun d => d.parameters.length) = some na
variable {y : MethodName} {bytes : ByteArray} {mL' fr lo na index i ci : Nat} {rt' : Option FieldType} {As : List Value} {r : Option Value} {w1 : Mem} {fk : List (Option Nat)} {T : u_T} {N : Nat} {st0 : List Value}
theorem m_callV (G : Mx n D cA ad A sa p s m args meth c own cc mL rt) (hI : Iv n sh D cA ad A s.heap w H locs) (hM : Ctr l n sh D cA ad A sa y bytes mL' rt' fr lo (.ref (ad i) :: As) w r w1) (my : MV y bytes mL' rt' na) (hl : Cond.methodLink own index y ∈ gT) (hi : i < n) (hs : sh i = .inr (ci, fk)) (hc : classes[ci]? = some (y.cls, T, N))
    (hR : fr + 1 ≤ R.frames ∧ 8 + (mL' + 11) + lo ≤ R.locals) (hn : As.length = na) (hsz : ls.size = mL) (hst : st0 = As.reverse ++ .ref (ad i) :: rest) (hW : (rest.map fun v => v.category).sum ≤ 8) (hd : decode cc pc = .ok (.invokevirtual index, 3))
    (kk : ∀ (H1 : Heap) (locs1 : List Loc), Iv n sh D cA ad A s.heap w1 H1 locs1 → W p l e R s m args below meth c H1 locs1 0 0 Q (F0 m (pc + 3) ls (r.toList ++ rest))) : W p l e R s m args below meth c H locs 0 0 Q (F0 m pc ls st0) := by
  have G' := G
  obtain ⟨hx, hb, hr, hml, hown, hg, hlocks, hK, hN, hZ, -⟩ := G'
  have he : (wsO n sh ad cA w)[i]? = some (ad i, .inr (ci, fvs ad (w i) 0 fk)) := by rw [wsO_get hi]; simp only [cE, hs]
  subst hst
  refine m_back (va_runV (b := ad i) (As := As) (rest := rest) (C := y.cls) (Ts := gT) ⟨hx, hb, hml, hown, hg⟩ hM ⟨callB_of na hg (gT_in my.1) rfl rfl rfl (hg _ my.2.2.2.1) (hg _ hl) my.2.2.2.2 hR, hg _ my.2.1, hg _ my.2.2.1⟩ ⟨PcC.blind, va_recv hK hI.1 hc he, PcC.at G hI _⟩ rfl hn hsz rfl (lv_room hW) hd ⟨Nat.zero_le _, Nat.zero_le _⟩) hI kk
theorem m_callS (G : Mx n D cA ad A sa p s m args meth c own cc mL rt) (hI : Iv n sh D cA ad A s.heap w H locs) (hM : Ctr l n sh D cA ad A sa y bytes mL' rt' fr lo As w r w1) (my : MS y bytes mL' rt' na) (hl : Cond.methodLink own index y ∈ gT)
    (hR : fr + 1 ≤ R.frames ∧ 8 + (mL' + 11) + lo ≤ R.locals) (hn : As.length = na) (hsz : ls.size = mL) (hst : st0 = As.reverse ++ rest) (hW : (rest.map fun v => v.category).sum ≤ 8) (hd : decode cc pc = .ok (.invokestatic index, 3))
    (kk : ∀ (H1 : Heap) (locs1 : List Loc), Iv n sh D cA ad A s.heap w1 H1 locs1 → W p l e R s m args below meth c H1 locs1 0 0 Q (F0 m (pc + 3) ls (r.toList ++ rest))) : W p l e R s m args below meth c H locs 0 0 Q (F0 m pc ls st0) := by
  have G' := G
  obtain ⟨hx, hb, hr, hml, hown, hg, hlocks, hK, hN, hZ, -⟩ := G'
  subst hst
  refine m_back (va_runS (As := As) (rest := rest) (Ts := gT) ⟨hx, hb, hml, hown, hg⟩ hM ⟨callB_of na hg (gT_in my.1) rfl rfl rfl (hg _ my.2.2.1) (hg _ hl) my.2.2.2 hR, hg _ my.2.1⟩ ⟨PcC.blind, PcC.at G hI _⟩ rfl hn hsz rfl (lv_room hW) hd ⟨Nat.zero_le _, Nat.zero_le _⟩) hI kk
theorem m_callSN (G : Mx n D cA ad A sa p s m args meth c own cc mL rt) (hI : Iv n sh D cA ad A s.heap w H locs) (hM : Ctr l n sh D cA ad A sa y bytes mL' rt' fr lo As w r w1) (my : MS y bytes mL' rt' na) {host : String} (hl : (own, index, y, host) ∈ NM)
    (hR : fr + 1 ≤ R.frames ∧ 8 + (mL' + 11) + lo ≤ R.locals) (hn : As.length = na) (hsz : ls.size = mL) (hst : st0 = As.reverse ++ rest) (hW : (rest.map fun v => v.category).sum ≤ 8) (hd : decode cc pc = .ok (.invokestatic index, 3))
    (kk : ∀ (H1 : Heap) (locs1 : List Loc), Iv n sh D cA ad A s.heap w1 H1 locs1 → W p l e R s m args below meth c H1 locs1 0 0 Q (F0 m (pc + 3) ls (r.toList ++ rest))) : W p l e R s m args below meth c H locs 0 0 Q (F0 m pc ls st0) := by
  have G' := G
  obtain ⟨hx, hb, hr, hml, hown, hg, hlocks, hK, hN, hZ, -⟩ := G'
  subst hst
  refine m_back (va_runSN (As := As) (rest := rest) (Ts := gT) ⟨hx, hb, hml, hown, hg⟩ hM ⟨va_cnB na hg (gT_in my.1) rfl rfl rfl (hN.1 _ hl) (hg _ my.2.2.1) my.2.2.2 hR, hg _ my.2.1, trivial⟩ ⟨PcC.blind, PcC.at G hI _⟩ rfl hn hsz rfl (lv_room hW) hd ⟨Nat.zero_le _, Nat.zero_le _⟩) hI kk
end MR
/-! the walk's own forms -/
def gd {β : Type} (b : Bool) (k : Option β) : Option β := match b with
  | true => k
  | false => none
theorem gd_some {β : Type} {b : Bool} {k : Option β} {x : β} (h : gd b k = some x) : b = true ∧ k = some x := by
  cases b
  · cases h
  · exact ⟨rfl, h⟩
def bd {α β : Type} (o : Option (α × Mem)) (f : α → Mem → Option β) : Option β := match o with
  | some q => f q.1 q.2
  | none => none
theorem bd_some {α β : Type} {o : Option (α × Mem)} {f : α → Mem → Option β} {x : β} (h : bd o f = some x) : ∃ a w, o = some (a, w) ∧ f a w = some x := by
  match o, h with
  | some (a, w), h => exact ⟨a, w, rfl, h⟩
def lt {α β : Type} (a : α) (f : α → Option β) : Option β := f a
theorem lt_some {α β : Type} {a : α} {f : α → Option β} {x : β} (h : lt a f = some x) : ∃ b, b = a ∧ f b = some x := ⟨a, rfl, h⟩
def jn {κ β : Type} (k : κ) (g : κ → Option β) : Option β := g k
theorem jn_some {κ β : Type} {k : κ} {g : κ → Option β} {x : β} (h : jn k g = some x) : ∃ k', k' = k ∧ g k' = some x := ⟨k, rfl, h⟩
def inb (j : Int32) (n : Nat) : Bool := !(decide (j < 0)) && !(decide (n ≤ j.toNatClampNeg))
theorem inb_in {j : Int32} {n : Nat} (h : inb j n = true) : vp_in j n := by
  simp only [inb, Bool.and_eq_true, Bool.not_eq_true', decide_eq_false_iff_not] at h
  rintro (q | q)
  · exact h.1 q
  · exact h.2 q
def bz (v : Int32) : Bool := decide (v = 0) || decide (v = 1)
theorem bz_narrow {v : Int32} (h : bz v = true) : narrow .boolean (.int v) = .int v := by
  simp only [bz, Bool.or_eq_true, decide_eq_true_eq] at h
  rcases h with rfl | rfl <;> rfl
def nz (v : Int32) : Bool := !(decide (v = 0))
theorem nz_ne {v : Int32} (h : nz v = true) : ¬ v = 0 := by simpa [nz] using h
def nzl (v : Int64) : Bool := !(decide (v = 0))
theorem nzl_ne {v : Int64} (h : nzl v = true) : ¬ v = 0 := by simpa [nzl] using h
