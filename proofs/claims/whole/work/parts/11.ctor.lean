/-! constructors: worlds that grow -/
def KA (h0 sz : Nat) : Nat → Prop := fun q => q = h0 ∨ sz ≤ q
def KPc (D : va_G) (cA : ClassId) (sa : Nat → Nat) (h0 sz ci : Nat) (fs : List Value) (as : List Value) : Array Value → State → Prop := va_Pc (.ref h0 :: as) (fun U => U.heap.size = sz ∧ va_P D classes [(h0, .inr (ci, fs))] U.heap ∧ va_K D classes [(cA, .int)] U ∧ Nst U ∧ Stt (KA h0 sz) sa U)
def KQc (D : va_G) (cA : ClassId) (h0 sz k : Nat) (sh : Nat → Shp) (w0 : Mem) : Array Value → State → Outcome → State → Prop := fun _ st oc t => oc = .returned none ∧ (∃ ad : Nat → Nat, ad 0 = h0 ∧ va_P D classes (wsO k sh ad cA w0) t.heap ∧ AdOk k ad (KA h0 sz)) ∧ va_F (KA h0 sz) st t
abbrev KMet (l : Launch) (D : va_G) (cA : ClassId) (sa : Nat → Nat) (h0 sz ci : Nat) (fs : List Value) (y : MethodName) (cc : ByteArray) (mL fr lo mc ms : Nat) (as : List Value) (k : Nat) (sh : Nat → Shp) (w0 : Mem) : Prop :=
  Met l y (wsy y cc mL none) ({ frames := fr, cells := mc, slots := ms, locals := lo }) (KPc D cA sa h0 sz ci fs as) (KQc D cA h0 sz k sh w0) mc ms (KA h0 sz)
def Kx (D : va_G) (cA : ClassId) (sa : Nat → Nat) (A : Nat → Prop) (p : Program) (s : State) (m : MethodId) (args : Array Value) (meth : Method) (c : Code) (own : String) (cc : ByteArray) (mL : Nat) : Prop :=
  p.tables.exec = Jvm.exec ∧ c.code = cc ∧ c.maxLocals = mL ∧ s.vm.findClass own = some m.cls ∧ (∀ w ∈ gT, w.before args s = true) ∧ va_K D classes [(cA, .int)] s ∧ Nst s ∧ Stt A sa s ∧ ∀ q, s.heap.size ≤ q → A q
def MI (y : MethodName) (cc : ByteArray) (mL na : Nat) : Prop := Cond.code y cc mL none ∈ gT ∧ Cond.instanceMethod y ∈ gT ∧ Cond.initialized y.cls ∈ gT ∧ y.cls ≠ "java/lang/invoke/MethodHandle" ∧ y.cls ≠ "java/lang/invoke/VarHandle" ∧ (parseMethodDescriptor y.desc).map (fun d => d.parameters.length) = some na
theorem va_D.ad {n : Nat} {sh : Nat → Shp} {ad : Nat → Nat} {cA : ClassId} {w : Mem} {A : Nat → Prop} (h : va_D A (wsO n sh ad cA w)) : AdOk n ad A := ⟨fun i j hi hj e => h.1 i j _ _ (wsO_get hi) (wsO_get hj) e, fun i hi => h.2 i _ (wsO_get hi)⟩
section KR
variable {p : Program} {l : Launch} {e : Env} {R : Room} {s : State} {m : MethodId} {args : Array Value} {below : List Frame} {meth : Method} {c : Code} {H : Heap} {locs : List Loc} {cells slots : Nat} {Q : State → Prop} {cc : ByteArray} {pc : Nat} {ls : Array Slot} {rest : List Value}
variable {D : va_G} {cA : ClassId} {sa : Nat → Nat} {A : Nat → Prop} {own : String} {mL : Nat} {ws : va_W}
theorem k_enter {h0 sz ci : Nat} {fs : List Value} {y : MethodName} {fr lo mc ms : Nat} {as : List Value} {k : Nat} {sh : Nat → Shp} {w0 : Mem} (hy : plainName y.cls = true) (hlen : (lg_sl (.ref h0 :: as)).length ≤ mL)
    (body : ∀ (p : Program) (e : Env) (s : State) (m : MethodId) (args : Array Value) (below : List Frame) (meth : Method) (c : Code) (ls : Array Slot), s.heap.size = sz → Kx D cA sa (KA h0 s.heap.size) p s m args meth c y.cls cc mL → meth.sig.returnType = none → meth.locks = false → meth.name = y.name → va_P D classes [(h0, .inr (ci, fs))] s.heap → va_D (KA h0 s.heap.size) [(h0, .inr (ci, fs))] → lv_has ls mL (lv_args 0 (.ref h0 :: as)) → W p l e ({ frames := fr, cells := mc, slots := ms, locals := lo }) s m args below meth c s.heap [] 0 0 (MQ below (KQc D cA h0 s.heap.size k sh w0) args s mc ms (KA h0 s.heap.size)) (F0 m 0 ls [])) :
    KMet l D cA sa h0 sz ci fs y cc mL fr lo mc ms as k sh w0 := by
  refine Met.ofW (cc := cc) (maxL := mL) (ret := none) hy rfl ?_
  intro p e s m args below meth c s₁ B hml hv
  obtain ⟨rfl, hsz, hP, hK, hN, hZ⟩ := hv
  subst hsz
  have hl := lv_entry (.ref h0 :: as) (n := mL) hlen
  rw [lg_entry_eq]
  generalize (lg_sl (.ref h0 :: as) ++ List.replicate (mL - (lg_sl (.ref h0 :: as)).length) Slot.unset).toArray = ls at hl ⊢
  refine body p e s m _ below meth c ls rfl ⟨B.exec, B.bytes, hml, findClass_of_methodNamed B.named, fun w hw => atoms_spec (ws := wsy y cc mL none) B.pre w (List.mem_cons_of_mem _ hw), hK, hN, hZ, fun q h => Or.inr h⟩ B.returns B.notSynchronized (name_of_methodNamed B.named B.method).1 hP ⟨fun i j p q hi hj _ => ?_, fun k q hk => ?_⟩ hl
  · have a1 := (List.getElem?_eq_some_iff.mp hi).1
    have a2 := (List.getElem?_eq_some_iff.mp hj).1
    simp at a1 a2
    omega
  · have a1 := (List.getElem?_eq_some_iff.mp hk).1
    simp at a1
    subst a1
    cases hk
    exact Or.inl rfl
/-- Object's own constructor -/
theorem k_obj (G : Kx D cA sa A p s m args meth c own cc mL) {idx a : Nat} (hl : Cond.methodLink own idx Lib.objectInit ∈ gT) (h1 : Cond.instanceMethod Lib.objectInit ∈ gT) (h2 : Cond.code Lib.objectInit ⟨#[0xb1]⟩ 1 none ∈ gT) (hsz : ls.size = mL) (hd : decode cc pc = .ok (.invokespecial idx, 3)) (hf : 1 ≤ R.frames) (hlo : 12 ≤ R.locals)
    (kk : W p l e R s m args below meth c H locs cells slots Q (F0 m (pc + 3) ls [])) : W p l e R s m args below meth c H locs cells slots Q (F0 m pc ls [.ref a]) := by
  obtain ⟨hx, hb, hml, hown, hg, -⟩ := G
  exact W.objInit hx hb hown (hg _ hl) (hg _ h1) (hg _ h2) rfl (by rw [hml]; exact hsz) rfl hd hf (by show 2 * 0 + 0 + 12 ≤ R.locals; omega) kk
/-- a new row of ints -/
theorem k_newa (G : Kx D cA sa A p s m args meth c own cc mL) (hw : Cond.arrayClass .int ∈ gT) (hP : va_P D classes ws H) (hD : va_D A ws) (hS : va_S A s.heap H locs) {n : Int32} {N : Nat} (hn : ¬ n < 0) (hN : n.toNatClampNeg = N) (hb4 : N * 4 ≤ 536870912) (hcells : cells + 1 ≤ R.cells) (hslots : slots + N ≤ R.slots) (hd : decode cc pc = .ok (.newarray .int, 2))
    (kk : ∀ (q : Nat) (H1 : Heap), va_P D classes (ws ++ [(q, .inl (cA, N, .inl (fun _ => 0)))]) H1 → va_D A (ws ++ [(q, .inl (cA, N, .inl (fun _ => 0)))]) → va_S A s.heap H1 locs →
      W p l e R s m args below meth c H1 locs (cells + 1) (slots + N) Q (F0 m (pc + 2) ls (.ref q :: rest))) : W p l e R s m args below meth c H locs cells slots Q (F0 m pc ls (.int n :: rest)) := by
  obtain ⟨hx, hb, hml, hown, hg, hK, hNs, hZ, hA⟩ := G
  refine va_newaK (atype := .int) hx hb (hg _ hw) rfl hd rfl hn hN hb4 hcells hslots rfl fun H1 cA' e1 z1 o1 hAr hNm => ?_
  have hcA : cA' = cA := by
    have h2 : s.vm.findClass ("[" ++ (FieldType.int).toString) = some cA := (hK.2 0 (cA, .int) rfl).2
    exact Option.some.inj (hNm.symm.trans h2)
  subst hcA
  have hk : ∀ (k : Nat) (x : Nat × va_E), ws[k]? = some x → H1[x.1]? = H[x.1]? := fun k x hx => o1 x.1 ((hP k x hx).lt)
  refine kk H.size H1 ((hP.kept hk).app (fun k x hx => ?_)) (hD.push hP rfl (hA _ hS.1)) ⟨Nat.le_trans hS.1 (by omega), fun x h1 h2 => (o1 x (Nat.lt_of_lt_of_le h1 hS.1)).trans (hS.2.1 x h1 h2), hS.2.2⟩
  have hz : k < 1 := (List.getElem?_eq_some_iff.mp hx).1
  rw [show k = 0 by omega] at hx
  cases hx
  exact e1
/-- a new object -/
theorem k_new (G : Kx D cA sa A p s m args meth c own cc mL) {C : String} {T : u_T} {N ci index : Nat} (hin : ∀ w ∈ u_ws C T N, w ∈ gT) (ty : Nat → FieldType) (hty : ∀ k, k < N → parseFieldDescriptor (T k).2.2.1 = some (ty k)) (hcl : Cond.classLink own index C ∈ gT) (hinst : Cond.instantiable C N ∈ gT) (hini : Cond.initialized C ∈ gT) (hc : classes[ci]? = some (C, T, N)) {fs : List Value} (hfs : ∀ j, j < N → defaultValue (ty j) = vp_V fs j)
    (hP : va_P D classes ws H) (hD : va_D A ws) (hS : va_S A s.heap H locs) (hcells : cells + 1 ≤ R.cells) (hslots : slots + N ≤ R.slots) (hd : decode cc pc = .ok (.new index, 3))
    (kk : ∀ (q : Nat) (H1 : Heap), va_P D classes (ws ++ [(q, .inr (ci, fs))]) H1 → va_D A (ws ++ [(q, .inr (ci, fs))]) → va_S A s.heap H1 locs →
      W p l e R s m args below meth c H1 locs (cells + 1) (slots + N) Q (F0 m (pc + 3) ls (.ref q :: rest))) : W p l e R s m args below meth c H locs cells slots Q (F0 m pc ls rest) := by
  obtain ⟨hx, hb, hml, hown, hg, hK, hNs, hZ, hA⟩ := G
  exact va_new hx hb hg hin ty hty hown (hg _ hcl) (hg _ hinst) (hg _ hini) hK hP hD hS hA hc hfs hcells hslots hd kk
/-- a final field of the object that is made: it heads the world -/
theorem k_put (G : Kx D cA sa A p s m args meth c own cc mL) (hin2 : meth.name = "<init>") {C ref : String} {T : u_T} {N ci k index h0 : Nat} {fs : List Value} {ty : FieldType} {ty0 : Nat → FieldType} {v : Value} (hin : ∀ w ∈ u_ws C T N, w ∈ gT) (hty : ∀ k, k < N → parseFieldDescriptor (T k).2.2.1 = some (ty0 k)) (hnm : ∀ a, a < N → ∀ b, b < N → a ≠ b → (T a).2.1 ≠ (T b).2.1) (hc : classes[ci]? = some (C, T, N)) (hk : k < N) (hl : Cond.fieldLink own index ref (T k).2.1 (T k).2.2.1 ∈ gT) (hr : (T k).1 = ref) (hdecl : (T k).1 = own) (hfin : (T k).2.2.2 = true) (hpd : parseFieldDescriptor (T k).2.2.1 = some ty) (hn : narrow ty v = v) (hfit : fits ty v = true) (hlen : k < fs.length)
    (hP : va_P D classes ((h0, .inr (ci, fs)) :: ws) H) (hD : va_D A ((h0, .inr (ci, fs)) :: ws)) (hS : va_S A s.heap H locs) (hd : decode cc pc = .ok (.putfield index, 3))
    (kk : ∀ (H1 : Heap) (locs1 : List Loc), va_P D classes ((h0, .inr (ci, fs.set k v)) :: ws) H1 → va_D A ((h0, .inr (ci, fs.set k v)) :: ws) → va_S A s.heap H1 locs1 → W p l e R s m args below meth c H1 locs1 cells slots Q (F0 m (pc + 3) ls rest)) : W p l e R s m args below meth c H locs cells slots Q (F0 m pc ls (v :: .ref h0 :: rest)) := by
  obtain ⟨hx, hb, hml, hown, hg, hK, hNs, hZ, hA⟩ := G
  exact va_putF hx hb hg hin ty0 hty hnm hown hK hP hD hS 0 rfl hc k hk (hg _ hl) (fun x h => by rw [← hr]; exact h) hfin hin2 hdecl hpd hn hfit hlen hd kk
/-- a constructor of what was made last -/
theorem k_after {q ci mc ms k : Nat} {fs : List Value} {sh : Nat → Shp} {w0 : Mem} {a : Array Value} {st0 : List Value} (hP : va_P D classes (ws ++ [(q, .inr (ci, fs))]) H) (hD : va_D A (ws ++ [(q, .inr (ci, fs))])) (hS : va_S A s.heap H locs) (hA : ∀ q, s.heap.size ≤ q → A q) (hr : va_Run p l e R s m args below meth c H locs cells slots mc ms (F0 m pc ls st0) rest (KQc D cA q H.size k sh w0 a) (KA q H.size))
    (kk : ∀ (ad : Nat → Nat) (H1 : Heap) (locs1 : List Loc), ad 0 = q → va_P D classes (ws ++ wsO k sh ad cA w0) H1 → va_D A (ws ++ wsO k sh ad cA w0) → va_S A s.heap H1 locs1 → W p l e R s m args below meth c H1 locs1 (cells + mc) (slots + ms) Q (F0 m (pc + 3) ls rest)) : W p l e R s m args below meth c H locs cells slots Q (F0 m pc ls st0) := by
  have hq : (ws ++ [(q, Sum.inr (ci, fs))])[ws.length]? = some (q, (.inr (ci, fs) : va_E)) := by simp
  have hAq : ∀ x, KA q H.size x → A x := by
    rintro x (rfl | h)
    · exact hD.2 _ _ hq
    · exact hA x (Nat.le_trans hS.1 h)
  have hne : ∀ (i : Nat) (x : Nat × va_E), ws[i]? = some x → x.1 < H.size ∧ x.1 ≠ q := by
    intro i x hx
    have hil : i < ws.length := (List.getElem?_eq_some_iff.mp hx).1
    have hx' : (ws ++ [(q, Sum.inr (ci, fs))])[i]? = some x := by rw [List.getElem?_append_left hil]; exact hx
    refine ⟨(hP i x hx').lt, fun e => ?_⟩
    have := hD.1 i ws.length x _ hx' hq e
    omega
  intro T hT X
  obtain ⟨v, st₀, t, T', L, h0, X', hL, e1, e2, ⟨hv, ⟨ad, had, hp, hok⟩, hz, hk⟩, st⟩ := hr T hT X
  cases hv
  rw [h0] at hz hk
  have hkeep : ∀ (i : Nat) (x : Nat × va_E), ws[i]? = some x → T'.heap[x.1]? = H[x.1]? := fun i x hx => by
    rw [e1]
    refine hk x.1 (hne i x hx).1 ?_
    rintro (h | h)
    · exact (hne i x hx).2 h
    · have := (hne i x hx).1
      omega
  have hPw : va_P D classes ws H := fun i x hx => hP i x (by rw [List.getElem?_append_left (List.getElem?_eq_some_iff.mp hx).1]; exact hx)
  have hDw : va_D A ws := ⟨fun i j x y hi hj => hD.1 i j x y (by rw [List.getElem?_append_left (List.getElem?_eq_some_iff.mp hi).1]; exact hi) (by rw [List.getElem?_append_left (List.getElem?_eq_some_iff.mp hj).1]; exact hj), fun i x hx => hD.2 i x (by rw [List.getElem?_append_left (List.getElem?_eq_some_iff.mp hx).1]; exact hx)⟩
  have hDn : va_D (KA q H.size) (wsO k sh ad cA w0) := hok.D sh cA w0
  obtain ⟨t2, a1, b1⟩ := kk ad T'.heap (locs ++ L) had ((hPw.kept hkeep).app (by rw [e1]; exact hp)) (hDw.app (hDn.weaken (fun _ x _ h => hAq _ h)) (fun i j x y hi hj e => by
      rcases hDn.2 j y hj with h | h
      · exact (hne i x hi).2 (e.trans h)
      · have := (hne i x hi).1
        omega)) ⟨Nat.le_trans hS.1 (by rw [e1]; exact hz), fun x h1 h2 => by rw [e1, hk x (Nat.lt_of_lt_of_le h1 hS.1) (fun z => h2 (hAq x z))]; exact hS.2.1 x h1 h2, fun x hx => by
      rcases List.mem_append.mp hx with h | h
      · exact hS.2.2 x h
      · exact hAq _ (hL x h)⟩ T' rfl X'
  exact ⟨t2, st t2 a1, b1⟩
theorem k_pre {q ci : Nat} {fs : List Value} (G : Kx D cA sa A p s m args meth c own cc mL) (hP : va_P D classes (ws ++ [(q, .inr (ci, fs))]) H) (hD : va_D A (ws ++ [(q, .inr (ci, fs))])) (hS : va_S A s.heap H locs) (as : List Value) : PreS s H (KPc D cA sa q H.size ci fs as) (.ref q :: as) := by
  obtain ⟨hx, hb, hml, hown, hg, hK, hNs, hZ, hA⟩ := G
  have hq : (ws ++ [(q, Sum.inr (ci, fs))])[ws.length]? = some (q, (.inr (ci, fs) : va_E)) := by simp
  refine ⟨fun a U g mk h => ?_, fun U hU hW => ⟨rfl, by rw [hU], ?_, va_K.moved hW.alike hK, hNs.warm hW, (hZ.go hW.alike hU hS).sub ?_⟩⟩
  · obtain ⟨q0, q1, qP, qK, qN, qS⟩ := h
    exact ⟨q0, q1, qP, va_K.moved (u := U) (U := U.calling g mk a) (Vm.Alike.refl U.vm) qK, qN.same rfl, qS.same (U := U.calling g mk a) (Vm.Alike.refl U.vm) rfl⟩
  · rw [hU]
    intro i x hx
    have hi : i < 1 := (List.getElem?_eq_some_iff.mp hx).1
    rw [show i = 0 by omega] at hx
    cases hx
    exact hP _ _ hq
  · rintro x (rfl | h)
    · exact hD.2 _ _ hq
    · exact hA x (Nat.le_trans hS.1 h)
variable {y : MethodName} {bytes : ByteArray} {mL' fr lo na index : Nat} {As : List Value} {st0 : List Value} {q ci mc ms k : Nat} {fs : List Value} {sh : Nat → Shp} {w0 : Mem}
theorem k_ctor (G : Kx D cA sa A p s m args meth c own cc mL) (hP : va_P D classes (ws ++ [(q, .inr (ci, fs))]) H) (hD : va_D A (ws ++ [(q, .inr (ci, fs))])) (hS : va_S A s.heap H locs) (hM : KMet l D cA sa q H.size ci fs y bytes mL' fr lo mc ms As k sh w0) (my : MI y bytes mL' na) (hy : y.name = "<init>") (hl : Cond.methodLink own index y ∈ gT)
    (hR : fr + 1 ≤ R.frames ∧ 8 + (mL' + 11) + lo ≤ R.locals) (hn : As.length = na) (hsz : ls.size = mL) (hst : st0 = As.reverse ++ .ref q :: rest) (hW : (rest.map fun v => v.category).sum ≤ 8) (hd : decode cc pc = .ok (.invokespecial index, 3)) (hf : cells + mc ≤ R.cells ∧ slots + ms ≤ R.slots)
    (kk : ∀ (ad : Nat → Nat) (H1 : Heap) (locs1 : List Loc), ad 0 = q → va_P D classes (ws ++ wsO k sh ad cA w0) H1 → va_D A (ws ++ wsO k sh ad cA w0) → va_S A s.heap H1 locs1 → W p l e R s m args below meth c H1 locs1 (cells + mc) (slots + ms) Q (F0 m (pc + 3) ls rest)) : W p l e R s m args below meth c H locs cells slots Q (F0 m pc ls st0) := by
  have G' := G
  obtain ⟨hx, hb, hml, hown, hg, hK, hNs, hZ, hA⟩ := G'
  subst hst
  exact k_after hP hD hS hA (va_runI (As := As) (rest := rest) (Ts := gT) ⟨hx, hb, hml, hown, hg⟩ hM ⟨callB_of na hg (gT_in my.1) rfl rfl rfl (hg _ my.2.2.1) (hg _ hl) my.2.2.2 hR, hy, hg _ my.2.1⟩ (k_pre G hP hD hS As) rfl hn hsz rfl (lv_room hW) hd hf) kk
theorem k_ctorN (G : Kx D cA sa A p s m args meth c own cc mL) (hP : va_P D classes (ws ++ [(q, .inr (ci, fs))]) H) (hD : va_D A (ws ++ [(q, .inr (ci, fs))])) (hS : va_S A s.heap H locs) (hM : KMet l D cA sa q H.size ci fs y bytes mL' fr lo mc ms As k sh w0) (my : MI y bytes mL' na) (hy : y.name = "<init>") {host : String} (hl : (own, index, y, host) ∈ NM)
    (hR : fr + 1 ≤ R.frames ∧ 8 + (mL' + 11) + lo ≤ R.locals) (hn : As.length = na) (hsz : ls.size = mL) (hst : st0 = As.reverse ++ .ref q :: rest) (hW : (rest.map fun v => v.category).sum ≤ 8) (hd : decode cc pc = .ok (.invokespecial index, 3)) (hf : cells + mc ≤ R.cells ∧ slots + ms ≤ R.slots)
    (kk : ∀ (ad : Nat → Nat) (H1 : Heap) (locs1 : List Loc), ad 0 = q → va_P D classes (ws ++ wsO k sh ad cA w0) H1 → va_D A (ws ++ wsO k sh ad cA w0) → va_S A s.heap H1 locs1 → W p l e R s m args below meth c H1 locs1 (cells + mc) (slots + ms) Q (F0 m (pc + 3) ls rest)) : W p l e R s m args below meth c H locs cells slots Q (F0 m pc ls st0) := by
  have G' := G
  obtain ⟨hx, hb, hml, hown, hg, hK, hNs, hZ, hA⟩ := G'
  subst hst
  exact k_after hP hD hS hA (va_runIN (As := As) (rest := rest) (Ts := gT) ⟨hx, hb, hml, hown, hg⟩ hM ⟨va_cnB na hg (gT_in my.1) rfl rfl rfl (hNs.1 _ hl) (hg _ my.2.2.1) my.2.2.2 hR, hy, hg _ my.2.1⟩ (k_pre G hP hD hS As) rfl hn hsz rfl (lv_room hW) hd hf) kk
/-- a method of the whole object that is made, which makes nothing -/
theorem k_callV {n : Nat} {ad : Nat → Nat} {w w1 : Mem} {fk : List (Option Nat)} {T : u_T} {N : Nat} (G : Kx D cA sa A p s m args meth c own cc mL) (hP : va_P D classes (wsO n sh ad cA w) H) (hS : va_S A s.heap H locs) (hAd : AdOk n ad A) (hM : Ctr l n sh D cA ad A sa y bytes mL' none fr lo [.ref (ad 0)] w none w1) (my : MV y bytes mL' none 0) (hl : Cond.methodLink own index y ∈ gT) (hi : 0 < n) (hs : sh 0 = .inr (ci, fk)) (hc : classes[ci]? = some (y.cls, T, N))
    (hR : fr + 1 ≤ R.frames ∧ 8 + (mL' + 11) + lo ≤ R.locals) (hsz : ls.size = mL) (hd : decode cc pc = .ok (.invokevirtual index, 3)) (hf : cells ≤ R.cells ∧ slots ≤ R.slots)
    (kk : ∀ (H1 : Heap) (locs1 : List Loc), va_P D classes (wsO n sh ad cA w1) H1 → va_S A s.heap H1 locs1 → W p l e R s m args below meth c H1 locs1 cells slots Q (F0 m (pc + 3) ls [])) : W p l e R s m args below meth c H locs cells slots Q (F0 m pc ls [.ref (ad 0)]) := by
  have G' := G
  obtain ⟨hx, hb, hml, hown, hg, hK, hNs, hZ, hA⟩ := G'
  have he : (wsO n sh ad cA w)[0]? = some (ad 0, .inr (ci, fvs ad (w 0) 0 fk)) := by rw [wsO_get hi]; simp only [cE, hs]
  have hr := va_runV (p := p) (l := l) (e := e) (R := R) (below := below) (meth := meth) (H := H) (locs := locs) (cells := cells) (slots := slots) (g := F0 m pc ls [.ref (ad 0)]) (b := ad 0) (As := []) (rest := []) (C := y.cls) (Ts := gT) ⟨hx, hb, hml, hown, hg⟩ hM ⟨callB_of 0 hg (gT_in my.1) rfl rfl rfl (hg _ my.2.2.2.1) (hg _ hl) my.2.2.2.2 hR, hg _ my.2.1, hg _ my.2.2.1⟩ ⟨PcC.blind, va_recv hK hP hc he, fun U hU hW => ⟨rfl, by rw [hU]; exact hP, va_K.moved hW.alike hK, hNs.warm hW, hZ.go hW.alike hU hS⟩⟩ rfl rfl hsz rfl (lv_room (Nat.le_of_ble_eq_true rfl)) hd hf
  intro T hT X
  obtain ⟨v, st₀, t, T', L, h0, X', hL, e1, e2, ⟨hv, hp, hz, hk⟩, st⟩ := hr T hT X
  cases hv
  rw [h0] at hz hk
  obtain ⟨t2, a1, b1⟩ := kk T'.heap (locs ++ L) (by rw [e1]; exact hp) ⟨Nat.le_trans hS.1 (by rw [e1]; exact hz), fun q h1 h2 => by rw [e1, hk q (Nat.lt_of_lt_of_le h1 hS.1) h2]; exact hS.2.1 q h1 h2, fun q hq => by
      rcases List.mem_append.mp hq with h | h
      · exact hS.2.2 q h
      · exact hL q h⟩ T' rfl X'
  exact ⟨t2, st t2 a1, b1⟩
theorem k_ret {h0 : Nat} {ad : Nat → Nat} (G : Kx D cA sa (KA h0 s.heap.size) p s m args meth c own cc mL) (hr : meth.sig.returnType = none) (hlocks : meth.locks = false) (had : ad 0 = h0) (hP : va_P D classes (wsO k sh ad cA w0) H) (hD : va_D (KA h0 s.heap.size) (wsO k sh ad cA w0)) (hS : va_S (KA h0 s.heap.size) s.heap H locs) (hd : decode cc pc = .ok (.return_, 1)) :
    W p l e R s m args below meth c H locs cells slots (MQ below (KQc D cA h0 s.heap.size k sh w0) args s cells slots (KA h0 s.heap.size)) (F0 m pc ls []) := by
  obtain ⟨hx, hb, hml, hown, hg, hK, hNs, hZ, hA⟩ := G
  exact W.vret hx hb hr (fun t ht hW => ⟨rfl, ⟨ad, had, by rw [ht]; exact hP, hD.ad⟩, hS.F ht⟩) hS.2.2 hd hlocks
end KR
