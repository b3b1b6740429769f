/-! rows with names of their own for what is pushed -/
def ix (j : Int32) : Nat := j.toNatClampNeg
def irm (x y : Int32) : Int32 := x - x / y * y
def lrm (x y : Int64) : Int64 := x - x / y * y
def imax (x y : Int32) : Int32 := if x < y then y else x
def imin (x y : Int32) : Int32 := if y < x then y else x
def iabs (x : Int32) : Int32 := if 0 ≤ x then x else 0 - x
def ushr (x y : Int32) : Int32 := (x.toUInt32 >>> (y.toUInt32 &&& Int32.toUInt32 31)).toInt32
def mcp (w : Mem) (f : Nat → Int32) (sp a1 dp n : Nat) : Mem := fun j => if j = a1 then va_cpy f (w a1) sp dp n else w j
def cpok (sp dp n : Int32) (L0 L1 : Nat) : Bool := !(decide (sp < 0)) && (!(decide (dp < 0)) && (!(decide (n < 0)) && (decide (ix sp + ix n ≤ L0) && decide (ix dp + ix n ≤ L1))))
theorem cpok_spec {sp dp n : Int32} {L0 L1 : Nat} (h : cpok sp dp n L0 L1 = true) : ¬ sp < 0 ∧ ¬ dp < 0 ∧ ¬ n < 0 ∧ sp.toNatClampNeg + n.toNatClampNeg ≤ L0 ∧ dp.toNatClampNeg + n.toNatClampNeg ≤ L1 := by
  simp only [cpok, ix, Bool.and_eq_true, Bool.not_eq_true', decide_eq_false_iff_not] at h
  exact ⟨h.1, h.2.1, h.2.2.1, of_decide_eq_true h.2.2.2.1, of_decide_eq_true h.2.2.2.2⟩
section VCT
variable {p : Program} {l : Launch} {e : Env} {R : Room} {s : State} {m : MethodId} {args : Array Value} {below : List Frame} {meth : Method} {c : Code} {H : Heap} {locs : List Loc} {cells slots : Nat} {Q : State → Prop}
variable {cc : ByteArray} {pc : Nat} {ls : Array Slot} {rest : List Value} {D : va_G} {cl : List vw_C} {A : Nat → Prop} {a : Nat} {tys : List (ClassId × FieldType)} {ws : va_W} {H0 : Heap}
/-- System.arraycopy out of a static row (the kit's va_copyx, turned to va_T) -/
theorem va_copyT {cc : ByteArray} (hexec : p.tables.exec = Jvm.exec) (hb : c.code = cc) (hml : c.maxLocals = ls.size) {own : String} {index : Nat} (hown : s.vm.findClass own = some m.cls) (hlink : (Cond.methodLink own index arraycopyName).before args s = true) (hnat : (Cond.native arraycopyName).before args s = true) (hstat : (Cond.static arraycopyName).before args s = true) (hini : (Cond.initialized "java/lang/System").before args s = true)
    (hK : va_K D cl tys s) (hP : va_P D cl ws H) (hD : va_D A ws) (hS : va_S A s.heap H locs) {b0 n0 : Nat} {f : Nat → Int32} (hX : va_T .int b0 n0 (fun j => .int (f j)) A s s.heap) (q1 t1 : Nat) {c1 : ClassId} {n1 : Nat} {g : Nat → Int32} (ha1 : ws[q1]? = some (a, .inl (c1, n1, .inl g))) (ht1 : tys[t1]? = some (c1, .int))
    {sp dp n : Int32} (h1 : ¬ sp < 0) (h2 : ¬ dp < 0) (h3 : ¬ n < 0) (h4 : sp.toNatClampNeg + n.toNatClampNeg ≤ n0) (h5 : dp.toNatClampNeg + n.toNatClampNeg ≤ n1)
    (hframes : 1 ≤ R.frames) (hlocals : (rest.map fun v => v.category).sum + (nativeFrameWords "java/lang/System" "arraycopy" 5 + 11) ≤ R.locals) (hdg : decode cc pc = .ok (.invokestatic index, 3))
    (kk : ∀ (H1 : Heap) (locs1 : List Loc), va_P D cl (ws.set q1 (a, .inl (c1, n1, .inl (va_cpy f g sp.toNatClampNeg dp.toNatClampNeg n.toNatClampNeg)))) H1 → va_D A (ws.set q1 (a, .inl (c1, n1, .inl (va_cpy f g sp.toNatClampNeg dp.toNatClampNeg n.toNatClampNeg)))) → va_S A s.heap H1 locs1 → W p l e R s m args below meth c H1 locs1 cells slots Q (F0 m (pc + 3) ls rest)) : W p l e R s m args below meth c H locs cells slots Q (F0 m pc ls (.int n :: .int dp :: .ref a :: .int sp :: .ref b0 :: rest)) := by
  have nn : ∀ z : Int32, ¬ z < 0 → z.toInt = (z.toNatClampNeg : Int) := by
    intro z hz
    have hz0 : (0 : Int) ≤ z.toInt := by
      have := Int32.not_lt.mp hz
      simpa using Int32.le_iff_toInt_le.mp this
    show z.toInt = ((z.toInt.toNat : Nat) : Int)
    omega
  intro T hT X
  obtain ⟨scr, hs1, hs2, hs3, hs4, -, hs5, hbA⟩ := hX
  have hbl : b0 < s.heap.size := (Array.getElem?_eq_some_iff.mp hs1).1
  have hc0 : H[b0]? = some scr := by rw [hS.2.1 b0 hbl hbA]; exact hs1
  have hc1 : H[a]? = some (vp_cell c1 (n1, .inl g)) := hP q1 _ ha1
  obtain ⟨hs6, k0, hk0, cm0, hkk0⟩ := hs2
  obtain ⟨-, k1, hk1, cm1, hkk1⟩ := (hK.2 t1 _ ht1).1 n1 (fun j => .int (g j))
  obtain ⟨vm', X', step⟩ := X.arraycopy hexec hown hlink hnat hstat hini (src := b0) (dst := a) (cs := scr) (cd := vp_cell c1 (n1, .inl g)) (srcPos := sp) (destPos := dp) (n := n) (by rw [hT]; exact hc0) (by rw [hT]; exact hc1)
    hs6 (fun _ h => by cases h) hs3 (fun h => by cases h) hk0 hk1 hkk0 hkk1 (by simp [refKind]) h1 h2 h3
    (by rw [nn sp h1, nn n h3]; omega)
    (by rw [nn dp h2, nn n h3]; show ¬ _ > ((arrV c1 n1 (fun j => .int (g j))).slots.size : Int); rw [arrV_size]; omega)
    (fun vm₁ _ i hi => by
      have e : scr.slots.getD (sp.toNatClampNeg + i) .null = .int (f (sp.toNatClampNeg + i)) := by
        rw [Array.getD_eq_getD_getElem?, hs5 _ (by omega)]
        rfl
      refine ⟨?_, ?_⟩
      · rw [e]
        rfl
      · rw [e]
        exact trivial)
    (g := F0 m pc ls (.int n :: .int dp :: .ref a :: .int sp :: .ref b0 :: rest)) rfl (by rw [hml]) (rest := rest) rfl (by rw [hb]; exact hdg) hframes (by show 2 * 0 + _ + _ ≤ _; omega)
  have e1 : copied scr (vp_cell c1 (n1, .inl g)) sp dp n = vp_cell c1 (n1, .inl (va_cpy f g sp.toNatClampNeg dp.toNatClampNeg n.toNatClampNeg)) := va_copiedX (fun z => .int z) scr c1 f g hs5 h4
  rw [e1] at X' step
  have hl : a < H.size := (Array.getElem?_eq_some_iff.mp hc1).1
  have hheap : ((T.setVm vm').setCell a (vp_cell c1 (n1, .inl (va_cpy f g sp.toNatClampNeg dp.toNatClampNeg n.toNatClampNeg)))).heap = H.setIfInBounds a (vp_cell c1 (n1, .inl (va_cpy f g sp.toNatClampNeg dp.toNatClampNeg n.toNatClampNeg))) := by rw [← hT]; rfl
  have oq : ∀ q : Nat, q ≠ a → (H.setIfInBounds a (vp_cell c1 (n1, .inl (va_cpy f g sp.toNatClampNeg dp.toNatClampNeg n.toNatClampNeg))))[q]? = H[q]? := fun q hq => by simp [Array.getElem?_setIfInBounds, Ne.symm hq]
  obtain ⟨t, a1, b1⟩ := kk _ _ (hP.set hD ha1 (show (H.setIfInBounds a _)[a]? = some _ by simp [Array.getElem?_setIfInBounds, hl]) oq) (hD.set ha1) ⟨by simp; exact hS.1, fun q g1 g2 => by
      rw [oq q (fun e => g2 (by rw [e]; exact hD.2 q1 _ ha1))]
      exact hS.2.1 q g1 g2, fun q hq => by
      rcases List.mem_append.mp hq with h | h
      · exact hS.2.2 q h
      · obtain ⟨z, -, hz⟩ := List.mem_map.mp h
        rw [← hz]
        exact hD.2 q1 _ ha1⟩ _ hheap X'
  exact ⟨t, step t a1, b1⟩
end VCT
section NR
variable {n : Nat} {sh : Nat → Shp} {D : va_G} {cA : ClassId} {ad : Nat → Nat} {A : Nat → Prop} {sa : Nat → Nat} {own : String} {mL : Nat} {rt : Option FieldType} {w : Mem}
variable {p : Program} {l : Launch} {e : Env} {R : Room} {s : State} {m : MethodId} {args : Array Value} {below : List Frame} {meth : Method} {c : Code} {H : Heap} {locs : List Loc} {Q : State → Prop} {cc : ByteArray} {pc : Nat} {ls : Array Slot} {rest : List Value}
theorem n_ald (G : Mx n D cA ad A sa p s m args meth c own cc mL rt) (hI : Iv n sh D cA ad A s.heap w H locs) {a L : Nat} {j : Int32} (ha : isAr n sh a L) (hj : inb j L = true) (hd : decode cc pc = .ok (.iaload, 1))
    (kk : W p l e R s m args below meth c H locs 0 0 Q (F0 m (pc + 1) ls (.int (w a (ix j)) :: rest))) : W p l e R s m args below meth c H locs 0 0 Q (F0 m pc ls (.int j :: .ref (ad a) :: rest)) := m_ald G hI ha.1 ha.2 (inb_in hj) hd kk
theorem n_ast (G : Mx n D cA ad A sa p s m args meth c own cc mL rt) (hI : Iv n sh D cA ad A s.heap w H locs) {a L : Nat} {j v : Int32} (ha : isAr n sh a L) (hj : inb j L = true) (hd : decode cc pc = .ok (.iastore, 1))
    (kk : ∀ (H1 : Heap) (locs1 : List Loc), Iv n sh D cA ad A s.heap (mst w a (ix j) v) H1 locs1 → W p l e R s m args below meth c H1 locs1 0 0 Q (F0 m (pc + 1) ls rest)) : W p l e R s m args below meth c H locs 0 0 Q (F0 m pc ls (.int v :: .int j :: .ref (ad a) :: rest)) := m_ast G hI ha.1 ha.2 (inb_in hj) hd kk
theorem n_sald (G : Mx n D cA ad A sa p s m args meth c own cc mL rt) (hI : Iv n sh D cA ad A s.heap w H locs) (k : Nat) (hk : k < 4) {j : Int32} (hj : inb j (sln k) = true) (hd : decode cc pc = .ok (.iaload, 1))
    (kk : W p l e R s m args below meth c H locs 0 0 Q (F0 m (pc + 1) ls (.int (sct k (ix j)) :: rest))) : W p l e R s m args below meth c H locs 0 0 Q (F0 m pc ls (.int j :: .ref (sa k) :: rest)) := m_sald G hI k hk (inb_in hj) hd kk
theorem n_idiv (G : Mx n D cA ad A sa p s m args meth c own cc mL rt) {x y : Int32} (hne : nz y = true) (hd : decode cc pc = .ok (.idiv, 1)) (kk : W p l e R s m args below meth c H locs 0 0 Q (F0 m (pc + 1) ls (.int (x / y) :: rest))) : W p l e R s m args below meth c H locs 0 0 Q (F0 m pc ls (.int y :: .int x :: rest)) := lv_idiv G.1 G.2.1 hd (nz_ne hne) kk
theorem n_irem (G : Mx n D cA ad A sa p s m args meth c own cc mL rt) {x y : Int32} (hne : nz y = true) (hd : decode cc pc = .ok (.irem, 1)) (kk : W p l e R s m args below meth c H locs 0 0 Q (F0 m (pc + 1) ls (.int (irm x y) :: rest))) : W p l e R s m args below meth c H locs 0 0 Q (F0 m pc ls (.int y :: .int x :: rest)) := lv_irem G.1 G.2.1 hd (nz_ne hne) kk
theorem n_ldiv (G : Mx n D cA ad A sa p s m args meth c own cc mL rt) {x y : Int64} (hne : nzl y = true) (hd : decode cc pc = .ok (.ldiv, 1)) (kk : W p l e R s m args below meth c H locs 0 0 Q (F0 m (pc + 1) ls (.long (x / y) :: rest))) : W p l e R s m args below meth c H locs 0 0 Q (F0 m pc ls (.long y :: .long x :: rest)) := lv_ldiv G.1 G.2.1 hd (nzl_ne hne) kk
theorem n_lrem (G : Mx n D cA ad A sa p s m args meth c own cc mL rt) {x y : Int64} (hne : nzl y = true) (hd : decode cc pc = .ok (.lrem, 1)) (kk : W p l e R s m args below meth c H locs 0 0 Q (F0 m (pc + 1) ls (.long (lrm x y) :: rest))) : W p l e R s m args below meth c H locs 0 0 Q (F0 m pc ls (.long y :: .long x :: rest)) := lv_lrem G.1 G.2.1 hd (nzl_ne hne) kk
theorem n_ushr (G : Mx n D cA ad A sa p s m args meth c own cc mL rt) {x y : Int32} (hd : decode cc pc = .ok (.iushr, 1)) (kk : W p l e R s m args below meth c H locs 0 0 Q (F0 m (pc + 1) ls (.int (ushr x y) :: rest))) : W p l e R s m args below meth c H locs 0 0 Q (F0 m pc ls (.int y :: .int x :: rest)) := lv_iushr G.1 G.2.1 hd rfl kk
theorem n_max (G : Mx n D cA ad A sa p s m args meth c own cc mL rt) {index : Nat} {x y : Int32} (hl : Cond.methodLink own index Lib.Math.max.name ∈ gT) (hf : 1 ≤ R.frames) (hlo : (rest.map fun v => v.category).sum + 13 ≤ R.locals) (hsz : ls.size = mL) (hd : decode cc pc = .ok (.invokestatic index, 3)) (kk : W p l e R s m args below meth c H locs 0 0 Q (F0 m (pc + 3) ls (.int (imax x y) :: rest))) : W p l e R s m args below meth c H locs 0 0 Q (F0 m pc ls (.int y :: .int x :: rest)) := by
  obtain ⟨hx, hb, -, hml, hown, hg, -⟩ := G
  exact va_mmax hx hb (hml.trans hsz.symm) hown (hg _ hl) (hg _ st_max) (hg _ ini_Math) (hg _ cd_max) hf hlo (Nat.zero_le _) (Nat.zero_le _) hd kk
theorem n_min (G : Mx n D cA ad A sa p s m args meth c own cc mL rt) {index : Nat} {x y : Int32} (hl : Cond.methodLink own index Lib.Math.min.name ∈ gT) (hf : 1 ≤ R.frames) (hlo : (rest.map fun v => v.category).sum + 13 ≤ R.locals) (hsz : ls.size = mL) (hd : decode cc pc = .ok (.invokestatic index, 3)) (kk : W p l e R s m args below meth c H locs 0 0 Q (F0 m (pc + 3) ls (.int (imin x y) :: rest))) : W p l e R s m args below meth c H locs 0 0 Q (F0 m pc ls (.int y :: .int x :: rest)) := by
  obtain ⟨hx, hb, -, hml, hown, hg, -⟩ := G
  exact va_mmin hx hb (hml.trans hsz.symm) hown (hg _ hl) (hg _ st_min) (hg _ ini_Math) (hg _ cd_min) hf hlo (Nat.zero_le _) (Nat.zero_le _) hd kk
theorem n_abs (G : Mx n D cA ad A sa p s m args meth c own cc mL rt) {index : Nat} {x : Int32} (hl : Cond.methodLink own index Lib.Math.abs.name ∈ gT) (hf : 1 ≤ R.frames) (hlo : (rest.map fun v => v.category).sum + 13 ≤ R.locals) (hsz : ls.size = mL) (hd : decode cc pc = .ok (.invokestatic index, 3)) (kk : W p l e R s m args below meth c H locs 0 0 Q (F0 m (pc + 3) ls (.int (iabs x) :: rest))) : W p l e R s m args below meth c H locs 0 0 Q (F0 m pc ls (.int x :: rest)) := by
  obtain ⟨hx, hb, -, hml, hown, hg, -⟩ := G
  exact va_mabs hx hb (hml.trans hsz.symm) hown (hg _ hl) (hg _ st_abs) (hg _ ini_Math) (hg _ cd_abs) hf hlo (Nat.zero_le _) (Nat.zero_le _) hd kk
theorem n_copy (G : Mx n D cA ad A sa p s m args meth c own cc mL rt) (hI : Iv n sh D cA ad A s.heap w H locs) {index a0 a1 L0 L1 : Nat} {sp dp nn : Int32} (ha0 : isAr n sh a0 L0) (ha1 : isAr n sh a1 L1) (hl : Cond.methodLink own index arraycopyName ∈ gT) (hok : cpok sp dp nn L0 L1 = true) (hf : 1 ≤ R.frames) (hlo : (rest.map fun v => v.category).sum + 18 ≤ R.locals) (hsz : ls.size = mL) (hd : decode cc pc = .ok (.invokestatic index, 3))
    (kk : ∀ (H1 : Heap) (locs1 : List Loc), Iv n sh D cA ad A s.heap (mcp w (w a0) (ix sp) a1 (ix dp) (ix nn)) H1 locs1 → W p l e R s m args below meth c H1 locs1 0 0 Q (F0 m (pc + 3) ls rest)) : W p l e R s m args below meth c H locs 0 0 Q (F0 m pc ls (.int nn :: .int dp :: .ref (ad a1) :: .int sp :: .ref (ad a0) :: rest)) := by
  obtain ⟨hx, hb, -, hml, hown, hg, -, hK, -, -, hA⟩ := G
  obtain ⟨h1, h2, h3, h4, h5⟩ := cpok_spec hok
  have e0 : (wsO n sh ad cA w)[a0]? = some (ad a0, .inl (cA, L0, .inl (w a0))) := by rw [wsO_get ha0.1]; simp only [cE, ha0.2]
  have e1 : (wsO n sh ad cA w)[a1]? = some (ad a1, .inl (cA, L1, .inl (w a1))) := by rw [wsO_get ha1.1]; simp only [cE, ha1.2]
  refine va_copyi hx hb (hml.trans hsz.symm) hown (hg _ hl) (hg _ nat_arraycopy) (hg _ st_arraycopy) (hg _ ini_System) hK hI.1 (hA.D sh cA w) hI.2 a0 a1 0 0 e0 e1 rfl rfl rfl h1 h2 h3 h4 h5 (fun i hi => rfl) hf hlo hd (fun H1 locs1 hP hD hS => ?_)
  refine kk H1 locs1 ⟨?_, hS⟩
  rw [wsO_up (w' := mcp w (w a0) (ix sp) a1 (ix dp) (ix nn)) ha1.1 (by simp only [cE, ha1.2, mcp, if_pos, ix]) (fun j hj => by simp [mcp, hj])] at hP
  exact hP
theorem n_copyS (G : Mx n D cA ad A sa p s m args meth c own cc mL rt) (hI : Iv n sh D cA ad A s.heap w H locs) (k : Nat) (hk : k < 4) {index a1 L1 : Nat} {sp dp nn : Int32} (ha1 : isAr n sh a1 L1) (hl : Cond.methodLink own index arraycopyName ∈ gT) (hok : cpok sp dp nn (sln k) L1 = true) (hf : 1 ≤ R.frames) (hlo : (rest.map fun v => v.category).sum + 18 ≤ R.locals) (hsz : ls.size = mL) (hd : decode cc pc = .ok (.invokestatic index, 3))
    (kk : ∀ (H1 : Heap) (locs1 : List Loc), Iv n sh D cA ad A s.heap (mcp w (sct k) (ix sp) a1 (ix dp) (ix nn)) H1 locs1 → W p l e R s m args below meth c H1 locs1 0 0 Q (F0 m (pc + 3) ls rest)) : W p l e R s m args below meth c H locs 0 0 Q (F0 m pc ls (.int nn :: .int dp :: .ref (ad a1) :: .int sp :: .ref (sa k) :: rest)) := by
  obtain ⟨hx, hb, -, hml, hown, hg, -, hK, -, hZ, hA⟩ := G
  obtain ⟨h1, h2, h3, h4, h5⟩ := cpok_spec hok
  obtain ⟨-, g2⟩ := hZ k hk
  have e1 : (wsO n sh ad cA w)[a1]? = some (ad a1, .inl (cA, L1, .inl (w a1))) := by rw [wsO_get ha1.1]; simp only [cE, ha1.2]
  refine va_copyT hx hb (hml.trans hsz.symm) hown (hg _ hl) (hg _ nat_arraycopy) (hg _ st_arraycopy) (hg _ ini_System) hK hI.1 (hA.D sh cA w) hI.2 g2 a1 0 e1 rfl h1 h2 h3 h4 h5 hf hlo hd (fun H1 locs1 hP hD hS => ?_)
  refine kk H1 locs1 ⟨?_, hS⟩
  rw [wsO_up (w' := mcp w (sct k) (ix sp) a1 (ix dp) (ix nn)) ha1.1 (by simp only [cE, ha1.2, mcp, if_pos, ix]) (fun j hj => by simp [mcp, hj])] at hP
  exact hP
variable {y : MethodName} {bytes : ByteArray} {mL' fr lo na index i ci : Nat} {rt' : Option FieldType} {As : List Value} {w1 : Mem} {fk : List (Option Nat)} {T : u_T} {N : Nat} {st0 : List Value}
theorem n_Vi {r : Int32} (G : Mx n D cA ad A sa p s m args meth c own cc mL rt) (hI : Iv n sh D cA ad A s.heap w H locs) (hM : Ctr l n sh D cA ad A sa y bytes mL' rt' fr lo (.ref (ad i) :: As) w (some (.int r)) w1) (my : MV y bytes mL' rt' na) (hl : Cond.methodLink own index y ∈ gT) (hi : i < n) (hs : sh i = .inr (ci, fk)) (hc : classes[ci]? = some (y.cls, T, N)) (hR : fr + 1 ≤ R.frames ∧ 8 + (mL' + 11) + lo ≤ R.locals) (hn : As.length = na) (hsz : ls.size = mL) (hst : st0 = As.reverse ++ .ref (ad i) :: rest) (hW : (rest.map fun v => v.category).sum ≤ 8) (hd : decode cc pc = .ok (.invokevirtual index, 3))
    (kk : ∀ (H1 : Heap) (locs1 : List Loc), Iv n sh D cA ad A s.heap w1 H1 locs1 → W p l e R s m args below meth c H1 locs1 0 0 Q (F0 m (pc + 3) ls (.int r :: rest))) : W p l e R s m args below meth c H locs 0 0 Q (F0 m pc ls st0) := m_callV G hI hM my hl hi hs hc hR hn hsz hst hW hd kk
theorem n_Vl {r : Int64} (G : Mx n D cA ad A sa p s m args meth c own cc mL rt) (hI : Iv n sh D cA ad A s.heap w H locs) (hM : Ctr l n sh D cA ad A sa y bytes mL' rt' fr lo (.ref (ad i) :: As) w (some (.long r)) w1) (my : MV y bytes mL' rt' na) (hl : Cond.methodLink own index y ∈ gT) (hi : i < n) (hs : sh i = .inr (ci, fk)) (hc : classes[ci]? = some (y.cls, T, N)) (hR : fr + 1 ≤ R.frames ∧ 8 + (mL' + 11) + lo ≤ R.locals) (hn : As.length = na) (hsz : ls.size = mL) (hst : st0 = As.reverse ++ .ref (ad i) :: rest) (hW : (rest.map fun v => v.category).sum ≤ 8) (hd : decode cc pc = .ok (.invokevirtual index, 3))
    (kk : ∀ (H1 : Heap) (locs1 : List Loc), Iv n sh D cA ad A s.heap w1 H1 locs1 → W p l e R s m args below meth c H1 locs1 0 0 Q (F0 m (pc + 3) ls (.long r :: rest))) : W p l e R s m args below meth c H locs 0 0 Q (F0 m pc ls st0) := m_callV G hI hM my hl hi hs hc hR hn hsz hst hW hd kk
theorem n_Vr {r : Nat} (G : Mx n D cA ad A sa p s m args meth c own cc mL rt) (hI : Iv n sh D cA ad A s.heap w H locs) (hM : Ctr l n sh D cA ad A sa y bytes mL' rt' fr lo (.ref (ad i) :: As) w (some (.ref r)) w1) (my : MV y bytes mL' rt' na) (hl : Cond.methodLink own index y ∈ gT) (hi : i < n) (hs : sh i = .inr (ci, fk)) (hc : classes[ci]? = some (y.cls, T, N)) (hR : fr + 1 ≤ R.frames ∧ 8 + (mL' + 11) + lo ≤ R.locals) (hn : As.length = na) (hsz : ls.size = mL) (hst : st0 = As.reverse ++ .ref (ad i) :: rest) (hW : (rest.map fun v => v.category).sum ≤ 8) (hd : decode cc pc = .ok (.invokevirtual index, 3))
    (kk : ∀ (H1 : Heap) (locs1 : List Loc), Iv n sh D cA ad A s.heap w1 H1 locs1 → W p l e R s m args below meth c H1 locs1 0 0 Q (F0 m (pc + 3) ls (.ref r :: rest))) : W p l e R s m args below meth c H locs 0 0 Q (F0 m pc ls st0) := m_callV G hI hM my hl hi hs hc hR hn hsz hst hW hd kk
theorem n_Vv (G : Mx n D cA ad A sa p s m args meth c own cc mL rt) (hI : Iv n sh D cA ad A s.heap w H locs) (hM : Ctr l n sh D cA ad A sa y bytes mL' rt' fr lo (.ref (ad i) :: As) w none w1) (my : MV y bytes mL' rt' na) (hl : Cond.methodLink own index y ∈ gT) (hi : i < n) (hs : sh i = .inr (ci, fk)) (hc : classes[ci]? = some (y.cls, T, N)) (hR : fr + 1 ≤ R.frames ∧ 8 + (mL' + 11) + lo ≤ R.locals) (hn : As.length = na) (hsz : ls.size = mL) (hst : st0 = As.reverse ++ .ref (ad i) :: rest) (hW : (rest.map fun v => v.category).sum ≤ 8) (hd : decode cc pc = .ok (.invokevirtual index, 3))
    (kk : ∀ (H1 : Heap) (locs1 : List Loc), Iv n sh D cA ad A s.heap w1 H1 locs1 → W p l e R s m args below meth c H1 locs1 0 0 Q (F0 m (pc + 3) ls rest)) : W p l e R s m args below meth c H locs 0 0 Q (F0 m pc ls st0) := m_callV G hI hM my hl hi hs hc hR hn hsz hst hW hd kk
theorem n_Si {r : Int32} (G : Mx n D cA ad A sa p s m args meth c own cc mL rt) (hI : Iv n sh D cA ad A s.heap w H locs) (hM : Ctr l n sh D cA ad A sa y bytes mL' rt' fr lo As w (some (.int r)) w1) (my : MS y bytes mL' rt' na) (hl : Cond.methodLink own index y ∈ gT) (hR : fr + 1 ≤ R.frames ∧ 8 + (mL' + 11) + lo ≤ R.locals) (hn : As.length = na) (hsz : ls.size = mL) (hst : st0 = As.reverse ++ rest) (hW : (rest.map fun v => v.category).sum ≤ 8) (hd : decode cc pc = .ok (.invokestatic index, 3))
    (kk : ∀ (H1 : Heap) (locs1 : List Loc), Iv n sh D cA ad A s.heap w1 H1 locs1 → W p l e R s m args below meth c H1 locs1 0 0 Q (F0 m (pc + 3) ls (.int r :: rest))) : W p l e R s m args below meth c H locs 0 0 Q (F0 m pc ls st0) := m_callS G hI hM my hl hR hn hsz hst hW hd kk
theorem n_SNi {r : Int32} (G : Mx n D cA ad A sa p s m args meth c own cc mL rt) (hI : Iv n sh D cA ad A s.heap w H locs) (hM : Ctr l n sh D cA ad A sa y bytes mL' rt' fr lo As w (some (.int r)) w1) (my : MS y bytes mL' rt' na) {host : String} (hl : (own, index, y, host) ∈ NM) (hR : fr + 1 ≤ R.frames ∧ 8 + (mL' + 11) + lo ≤ R.locals) (hn : As.length = na) (hsz : ls.size = mL) (hst : st0 = As.reverse ++ rest) (hW : (rest.map fun v => v.category).sum ≤ 8) (hd : decode cc pc = .ok (.invokestatic index, 3))
    (kk : ∀ (H1 : Heap) (locs1 : List Loc), Iv n sh D cA ad A s.heap w1 H1 locs1 → W p l e R s m args below meth c H1 locs1 0 0 Q (F0 m (pc + 3) ls (.int r :: rest))) : W p l e R s m args below meth c H locs 0 0 Q (F0 m pc ls st0) := m_callSN G hI hM my hl hR hn hsz hst hW hd kk
end NR
theorem itp {α : Type} {c : Prop} [Decidable c] {a b x : α} (h : c) (e : (if c then a else b) = x) : a = x := by rw [if_pos h] at e; exact e
theorem itn {α : Type} {c : Prop} [Decidable c] {a b x : α} (h : ¬ c) (e : (if c then a else b) = x) : b = x := by rw [if_neg h] at e; exact e
section NE
variable {n : Nat} {sh : Nat → Shp} {D : va_G} {cA : ClassId} {ad : Nat → Nat} {A : Nat → Prop} {sa : Nat → Nat} {own : String} {mL : Nat} {rt : Option FieldType} {w w' : Mem}
variable {p : Program} {l : Launch} {e : Env} {R : Room} {s : State} {m : MethodId} {args : Array Value} {below : List Frame} {meth : Method} {c : Code} {H : Heap} {locs : List Loc} {Q : State → Prop} {cc : ByteArray} {pc : Nat} {ls : Array Slot}
theorem n_iret {v r : Int32} (G : Mx n D cA ad A sa p s m args meth c own cc mL rt) (hI : Iv n sh D cA ad A s.heap w H locs) (hF : some (v, w) = some (r, w')) (hrt : rt = some .int) (hd : decode cc pc = .ok (.ireturn, 1)) : W p l e R s m args below meth c H locs 0 0 (QM n sh D cA ad A below args s (some (.int r)) w') (F0 m pc ls [.int v]) := by
  cases hF
  exact m_iret G hI hrt hd
theorem n_zret {v r : Int32} (G : Mx n D cA ad A sa p s m args meth c own cc mL rt) (hI : Iv n sh D cA ad A s.heap w H locs) (hz : bz v = true) (hF : some (v, w) = some (r, w')) (hrt : rt = some .boolean) (hd : decode cc pc = .ok (.ireturn, 1)) : W p l e R s m args below meth c H locs 0 0 (QM n sh D cA ad A below args s (some (.int r)) w') (F0 m pc ls [.int v]) := by
  cases hF
  exact m_zret G hI hrt (bz_narrow hz) hd
theorem n_lret {v r : Int64} (G : Mx n D cA ad A sa p s m args meth c own cc mL rt) (hI : Iv n sh D cA ad A s.heap w H locs) (hF : some (v, w) = some (r, w')) (hrt : rt = some .long) (hd : decode cc pc = .ok (.lreturn, 1)) : W p l e R s m args below meth c H locs 0 0 (QM n sh D cA ad A below args s (some (.long r)) w') (F0 m pc ls [.long v]) := by
  cases hF
  exact m_lret G hI hrt hd
theorem n_vret {u r : Unit} (G : Mx n D cA ad A sa p s m args meth c own cc mL rt) (hI : Iv n sh D cA ad A s.heap w H locs) (hF : some (u, w) = some (r, w')) (hrt : rt = none) (hd : decode cc pc = .ok (.return_, 1)) : W p l e R s m args below meth c H locs 0 0 (QM n sh D cA ad A below args s none w') (F0 m pc ls []) := by
  cases hF
  exact m_vret G hI hrt hd
theorem n_aret {u r : Unit} {q : Nat} {nm : String} (G : Mx n D cA ad A sa p s m args meth c own cc mL rt) (hI : Iv n sh D cA ad A s.heap w H locs) (hF : some (u, w) = some (r, w')) (hrt : rt = some (.object nm)) (hd : decode cc pc = .ok (.areturn, 1)) : W p l e R s m args below meth c H locs 0 0 (QM n sh D cA ad A below args s (some (.ref q)) w') (F0 m pc ls [.ref q]) := by
  cases hF
  exact m_aret G hI hrt hd
end NE
