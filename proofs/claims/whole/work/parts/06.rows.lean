/-! rows with names of their own for what is pushed -/
def ix (j : Int32) : Nat := j.toNatClampNeg
def irm (x y : Int32) : Int32 := x - x / y * y
def lrm (x y : Int64) : Int64 := x - x / y * y
def imax (x y : Int32) : Int32 := if x < y then y else x
def imin (x y : Int32) : Int32 := if y < x then y else x
def iabs (x : Int32) : Int32 := if 0 ≤ x then x else 0 - x
def ushr (x y : Int32) : Int32 := (x.toUInt32 >>> (y.toUInt32 &&& Int32.toUInt32 31)).toInt32
def mcp (w : Mem) (f : Nat → Int32) (sp a1 dp n : Nat) : Mem := fun j => if j = a1 then va_cpy f (w a1) sp dp n else w j
def cpok (sp dp n : Int32) (L0 L1 : Nat) : Bool := !(decide (sp < 0)) && (!(decide (dp < 0)) && (!(decide (n < 0)) && (decide (ix sp + ix n ≤ L0) && decide (ix dp + ix n ≤ L1))))
theorem cpok_spec {sp dp n : Int32} {L0 L1 : Nat} (h : cpok sp dp n L0 L1 = true) : ¬ sp < 0 ∧ ¬ dp < 0 ∧ ¬ n < 0 ∧ sp.toNatClampNeg + n.toNatClampNeg ≤ L0 ∧ dp.toNatClampNeg + n.toNatClampNeg ≤ L1 := by
  simp only [cpok, ix, Bool.and_eq_true, Bool.not_eq_true', decide_eq_false_iff_not] at h
  exact ⟨h.1, h.2.1, h.2.2.1, of_decide_eq_true h.2.2.2.1, of_decide_eq_true h.2.2.2.2⟩
section NR
variable {n : Nat} {sh : Nat → Shp} {D : va_G} {cA : ClassId} {ad : Nat → Nat} {A : Nat → Prop} {sa : Nat → Nat} {own : String} {mL : Nat} {rt : Option FieldType} {w : Mem}
variable {p : Program} {l : Launch} {e : Env} {R : Room} {s : State} {m : MethodId} {args : Array Value} {below : List Frame} {meth : Method} {c : Code} {H : Heap} {locs : List Loc} {Q : State → Prop} {cc : ByteArray} {pc : Nat} {ls : Array Slot} {rest : List Value}
theorem n_ald (G : Mx n D cA ad A sa p s m args meth c own cc mL rt) (hI : Iv n sh D cA ad A s.heap w H locs) {a L : Nat} {j : Int32} (ha : isAr n sh a L) (hj : inb j L = true) (hd : decode cc pc = .ok (.iaload, 1))
    (kk : W p l e R s m args below meth c H locs 0 0 Q (F0 m (pc + 1) ls (.int (w a (ix j)) :: rest))) : W p l e R s m args below meth c H locs 0 0 Q (F0 m pc ls (.int j :: .ref (ad a) :: rest)) := m_ald G hI ha.1 ha.2 (inb_in hj) hd kk
theorem n_ast (G : Mx n D cA ad A sa p s m args meth c own cc mL rt) (hI : Iv n sh D cA ad A s.heap w H locs) {a L : Nat} {j v : Int32} (ha : isAr n sh a L) (hj : inb j L = true) (hd : decode cc pc = .ok (.iastore, 1))
    (kk : ∀ (H1 : Heap) (locs1 : List Loc), Iv n sh D cA ad A s.heap (mst w a (ix j) v) H1 locs1 → W p l e R s m args below meth c H1 locs1 0 0 Q (F0 m (pc + 1) ls rest)) : W p l e R s m args below meth c H locs 0 0 Q (F0 m pc ls (.int v :: .int j :: .ref (ad a) :: rest)) := m_ast G hI ha.1 ha.2 (inb_in hj) hd kk
theorem n_sald (G : Mx n D cA ad A sa p s m args meth c own cc mL rt) (hI : Iv n sh D cA ad A s.heap w H locs) (k : Nat) (hk : k < 4) {j : Int32} (hj : inb j (sln k) = true) (hd : decode cc pc = .ok (.iaload, 1))
    (kk : W p l e R s m args below meth c H locs 0 0 Q (F0 m (pc + 1) ls (.int (sct k (ix j)) :: rest))) : W p l e R s m args below meth c H locs 0 0 Q (F0 m pc ls (.int j :: .ref (sa k) :: rest)) := m_sald G hI k hk (inb_in hj) hd kk
theorem n_idiv (G : Mx n D cA ad A sa p s m args meth c own cc mL rt) {x y : Int32} (hne : nz y = true) (hd : decode cc pc = .ok (.idiv, 1)) (kk : W p l e R s m args below meth c H locs 0 0 Q (F0 m (pc + 1) ls (.int (x / y) :: rest))) : W p l e R s m args below meth c H locs 0 0 Q (F0 m pc ls (.int y :: .int x :: rest)) := lv_idiv G.1 G.2.1 hd (nz_ne hne) kk
theorem n_irem (G : Mx n D cA ad A sa p s m args meth c own cc mL rt) {x y : Int32} (hne : nz y = true) (hd : decode cc pc = .ok (.irem, 1)) (kk : W p l e R s m args below meth c H locs 0 0 Q (F0 m (pc + 1) ls (.int (irm x y) :: rest))) : W p l e R s m args below meth c H locs 0 0 Q (F0 m pc ls (.int y :: .int x :: rest)) := lv_irem G.1 G.2.1 hd (nz_ne hne) kk
theorem n_ldiv (G : Mx n D cA ad A sa p s m args meth c own cc mL rt) {x y : Int64} (hne : nzl y = true) (hd : decode cc pc = .ok (.ldiv, 1)) (kk : W p l e R s m args below meth c H locs 0 0 Q (F0 m (pc + 1) ls (.long (x / y) :: rest))) : W p l e R s m args below meth c H locs 0 0 Q (F0 m pc ls (.long y :: .long x :: rest)) := lv_ldiv G.1 G.2.1 hd (nzl_ne hne) kk
theorem n_lrem (G : Mx n D cA ad A sa p s m args meth c own cc mL rt) {x y : Int64} (hne : nzl y = true) (hd : decode cc pc = .ok (.lrem, 1)) (kk : W p l e R s m args below meth c H locs 0 0 Q (F0 m (pc + 1) ls (.long (lrm x y) :: rest))) : W p l e R s m args below meth c H locs 0 0 Q (F0 m pc ls (.long y :: .long x :: rest)) := lv_lrem G.1 G.2.1 hd (nzl_ne hne) kk
theorem n_ushr (G : Mx n D cA ad A sa p s m args meth c own cc mL rt) {x y : Int32} (hd : decode cc pc = .ok (.iushr, 1)) (kk : W p l e R s m args below meth c H locs 0 0 Q (F0 m (pc + 1) ls (.int (ushr x y) :: rest))) : W p l e R s m args below meth c H locs 0 0 Q (F0 m pc ls (.int y :: .int x :: rest)) := lv_iushr G.1 G.2.1 hd rfl kk
theorem n_max (G : Mx n D cA ad A sa p s m args meth c own cc mL rt) {index : Nat} {x y : Int32} (hl : Cond.methodLink own index Lib.Math.max.name ∈ gT) (hf : 1 ≤ R.frames) (hlo : (rest.map fun v => v.category).sum + 13 ≤ R.locals) (hsz : ls.size = mL) (hd : decode cc pc = .ok (.invokestatic index, 3)) (kk : W p l e R s m args below meth c H locs 0 0 Q (F0 m (pc + 3) ls (.int (imax x y) :: rest))) : W p l e R s m args below meth c H locs 0 0 Q (F0 m pc ls (.int y :: .int x :: rest)) := by
  obtain ⟨hx, hb, -, hml, hown, hg, -⟩ := G
  exact va_mmax hx hb (hml.trans hsz.symm) hown (hg _ hl) (hg _ st_max) (hg _ ini_Math) (hg _ cd_max) hf hlo (Nat.zero_le _) (Nat.zero_le _) hd kk
theorem n_min (G : Mx n D cA ad A sa p s m args meth c own cc mL rt) {index : Nat} {x y : Int32} (hl : Cond.methodLink own index Lib.Math.min.name ∈ gT) (hf : 1 ≤ R.frames) (hlo : (rest.map fun v => v.category).sum + 13 ≤ R.locals) (hsz : ls.size = mL) (hd : decode cc pc = .ok (.invokestatic index, 3)) (kk : W p l e R s m args below meth c H locs 0 0 Q (F0 m (pc + 3) ls (.int (imin x y) :: rest))) : W p l e R s m args below meth c H locs 0 0 Q (F0 m pc ls (.int y :: .int x :: rest)) := by
  obtain ⟨hx, hb, -, hml, hown, hg, -⟩ := G
  exact va_mmin hx hb (hml.trans hsz.symm) hown (hg _ hl) (hg _ st_min) (hg _ ini_Math) (hg _ cd_min) hf hlo (Nat.zero_le _) (Nat.zero_le _) hd kk
theorem n_abs (G : Mx n D cA ad A sa p s m args meth c own cc mL rt) {index : Nat} {x : Int32} (hl : Cond.methodLink own index Lib.Math.abs.name ∈ gT) (hf : 1 ≤ R.frames) (hlo : (rest.map fun v => v.category).sum + 13 ≤ R.locals) (hsz : ls.size = mL) (hd : decode cc pc = .ok (.invokestatic index, 3)) (kk : W p l e R s m args below meth c H locs 0 0 Q (F0 m (pc + 3) ls (.int (iabs x) :: rest))) : W p l e R s m args below meth c H locs 0 0 Q (F0 m pc ls (.int x :: rest)) := by
  obtain ⟨hx, hb, -, hml, hown, hg, -⟩ := G
  exact va_mabs hx hb (hml.trans hsz.symm) hown (hg _ hl) (hg _ st_abs) (hg _ ini_Math) (hg _ cd_abs) hf hlo (Nat.zero_le _) (Nat.zero_le _) hd kk
theorem n_copy (G : Mx n D cA ad A sa p s m args meth c own cc mL rt) (hI : Iv n sh D cA ad A s.heap w H locs) {index a0 a1 L0 L1 : Nat} {sp dp nn : Int32} (ha0 : isAr n sh a0 L0) (ha1 : isAr n sh a1 L1) (hl : Cond.methodLink own index arraycopyName ∈ gT) (hok : cpok sp dp nn L0 L1 = true) (hf : 1 ≤ R.frames) (hlo : (rest.map fun v => v.category).sum + 18 ≤ R.locals) (hsz : ls.size = mL) (hd : decode cc pc = .ok (.invokestatic index, 3))
    (kk : ∀ (H1 : Heap) (locs1 : List Loc), Iv n sh D cA ad A s.heap (mcp w (w a0) (ix sp) a1 (ix dp) (ix nn)) H1 locs1 → W p l e R s m args below meth c H1 locs1 0 0 Q (F0 m (pc + 3) ls rest)) : W p l e R s m args below meth c H locs 0 0 Q (F0 m pc ls (.int nn :: .int dp :: .ref (ad a1) :: .int sp :: .ref (ad a0) :: rest)) := by
  obtain ⟨hx, hb, -, hml, hown, hg, -, hK, -, -, hA⟩ := G
  obtain ⟨h1, h2, h3, h4, h5⟩ := cpok_spec hok
  have e0 : (wsO n sh ad cA w)[a0]? = some (ad a0, .inl (cA, L0, .inl (w a0))) := by rw [wsO_get ha0.1]; simp only [cE, ha0.2]
  have e1 : (wsO n sh ad cA w)[a1]? = some (ad a1, .inl (cA, L1, .inl (w a1))) := by rw [wsO_get ha1.1]; simp only [cE, ha1.2]
  refine va_copyi hx hb (hml.trans hsz.symm) hown (hg _ hl) (hg _ nat_arraycopy) (hg _ st_arraycopy) (hg _ ini_System) hK hI.1 (hA.D sh cA w) hI.2 a0 a1 0 0 e0 e1 rfl rfl rfl h1 h2 h3 h4 h5 (fun i hi => rfl) hf hlo hd (fun H1 locs1 hP hD hS => ?_)
  refine kk H1 locs1 ⟨?_, hS⟩
  rw [wsO_up (w' := mcp w (w a0) (ix sp) a1 (ix dp) (ix nn)) ha1.1 (by simp only [cE, ha1.2, mcp, if_pos, ix]) (fun j hj => by simp [mcp, hj])] at hP
  exact hP
theorem n_copyS (G : Mx n D cA ad A sa p s m args meth c own cc mL rt) (hI : Iv n sh D cA ad A s.heap w H locs) (k : Nat) (hk : k < 4) {index a1 L1 : Nat} {sp dp nn : Int32} (ha1 : isAr n sh a1 L1) (hl : Cond.methodLink own index arraycopyName ∈ gT) (hok : cpok sp dp nn (sln k) L1 = true) (hf : 1 ≤ R.frames) (hlo : (rest.map fun v => v.category).sum + 18 ≤ R.locals) (hsz : ls.size = mL) (hd : decode cc pc = .ok (.invokestatic index, 3))
    (kk : ∀ (H1 : Heap) (locs1 : List Loc), Iv n sh D cA ad A s.heap (mcp w (sct k) (ix sp) a1 (ix dp) (ix nn)) H1 locs1 → W p l e R s m args below meth c H1 locs1 0 0 Q (F0 m (pc + 3) ls rest)) : W p l e R s m args below meth c H locs 0 0 Q (F0 m pc ls (.int nn :: .int dp :: .ref (ad a1) :: .int sp :: .ref (sa k) :: rest)) := by
  obtain ⟨hx, hb, -, hml, hown, hg, -, hK, -, hZ, hA⟩ := G
  obtain ⟨h1, h2, h3, h4, h5⟩ := cpok_spec hok
  obtain ⟨-, g2, g3, g4⟩ := hZ k hk
  have e1 : (wsO n sh ad cA w)[a1]? = some (ad a1, .inl (cA, L1, .inl (w a1))) := by rw [wsO_get ha1.1]; simp only [cE, ha1.2]
  refine va_copyx hx hb (hml.trans hsz.symm) hown (hg _ hl) (hg _ nat_arraycopy) (hg _ st_arraycopy) (hg _ ini_System) hK hI.1 (hA.D sh cA w) hI.2 g2 g3 g4 a1 0 e1 rfl h1 h2 h3 h4 h5 hf hlo hd (fun H1 locs1 hP hD hS => ?_)
  refine kk H1 locs1 ⟨?_, hS⟩
  rw [wsO_up (w' := mcp w (sct k) (ix sp) a1 (ix dp) (ix nn)) ha1.1 (by simp only [cE, ha1.2, mcp, if_pos, ix]) (fun j hj => by simp [mcp, hj])] at hP
  exact hP
variable {y : MethodName} {bytes : ByteArray} {mL' fr lo na index i ci : Nat} {rt' : Option FieldType} {As : List Value} {w1 : Mem} {fk : List (Option Nat)} {T : u_T} {N : Nat} {st0 : List Value}
theorem n_Vi {r : Int32} (G : Mx n D cA ad A sa p s m args meth c own cc mL rt) (hI : Iv n sh D cA ad A s.heap w H locs) (hM : Ctr l n sh D cA ad A sa y bytes mL' rt' fr lo (.ref (ad i) :: As) w (some (.int r)) w1) (my : MV y bytes mL' rt' na) (hl : Cond.methodLink own index y ∈ gT) (hi : i < n) (hs : sh i = .inr (ci, fk)) (hc : classes[ci]? = some (y.cls, T, N)) (hR : fr + 1 ≤ R.frames ∧ 8 + (mL' + 11) + lo ≤ R.locals) (hn : As.length = na) (hsz : ls.size = mL) (hst : st0 = As.reverse ++ .ref (ad i) :: rest) (hW : (rest.map fun v => v.category).sum ≤ 8) (hd : decode cc pc = .ok (.invokevirtual index, 3))
    (kk : ∀ (H1 : Heap) (locs1 : List Loc), Iv n sh D cA ad A s.heap w1 H1 locs1 → W p l e R s m args below meth c H1 locs1 0 0 Q (F0 m (pc + 3) ls (.int r :: rest))) : W p l e R s m args below meth c H locs 0 0 Q (F0 m pc ls st0) := m_callV G hI hM my hl hi hs hc hR hn hsz hst hW hd kk
theorem n_Vl {r : Int64} (G : Mx n D cA ad A sa p s m args meth c own cc mL rt) (hI : Iv n sh D cA ad A s.heap w H locs) (hM : Ctr l n sh D cA ad A sa y bytes mL' rt' fr lo (.ref (ad i) :: As) w (some (.long r)) w1) (my : MV y bytes mL' rt' na) (hl : Cond.methodLink own index y ∈ gT) (hi : i < n) (hs : sh i = .inr (ci, fk)) (hc : classes[ci]? = some (y.cls, T, N)) (hR : fr + 1 ≤ R.frames ∧ 8 + (mL' + 11) + lo ≤ R.locals) (hn : As.length = na) (hsz : ls.size = mL) (hst : st0 = As.reverse ++ .ref (ad i) :: rest) (hW : (rest.map fun v => v.category).sum ≤ 8) (hd : decode cc pc = .ok (.invokevirtual index, 3))
    (kk : ∀ (H1 : Heap) (locs1 : List Loc), Iv n sh D cA ad A s.heap w1 H1 locs1 → W p l e R s m args below meth c H1 locs1 0 0 Q (F0 m (pc + 3) ls (.long r :: rest))) : W p l e R s m args below meth c H locs 0 0 Q (F0 m pc ls st0) := m_callV G hI hM my hl hi hs hc hR hn hsz hst hW hd kk
theorem n_Vr {r : Nat} (G : Mx n D cA ad A sa p s m args meth c own cc mL rt) (hI : Iv n sh D cA ad A s.heap w H locs) (hM : Ctr l n sh D cA ad A sa y bytes mL' rt' fr lo (.ref (ad i) :: As) w (some (.ref r)) w1) (my : MV y bytes mL' rt' na) (hl : Cond.methodLink own index y ∈ gT) (hi : i < n) (hs : sh i = .inr (ci, fk)) (hc : classes[ci]? = some (y.cls, T, N)) (hR : fr + 1 ≤ R.frames ∧ 8 + (mL' + 11) + lo ≤ R.locals) (hn : As.length = na) (hsz : ls.size = mL) (hst : st0 = As.reverse ++ .ref (ad i) :: rest) (hW : (rest.map fun v => v.category).sum ≤ 8) (hd : decode cc pc = .ok (.invokevirtual index, 3))
    (kk : ∀ (H1 : Heap) (locs1 : List Loc), Iv n sh D cA ad A s.heap w1 H1 locs1 → W p l e R s m args below meth c H1 locs1 0 0 Q (F0 m (pc + 3) ls (.ref r :: rest))) : W p l e R s m args below meth c H locs 0 0 Q (F0 m pc ls st0) := m_callV G hI hM my hl hi hs hc hR hn hsz hst hW hd kk
theorem n_Vv (G : Mx n D cA ad A sa p s m args meth c own cc mL rt) (hI : Iv n sh D cA ad A s.heap w H locs) (hM : Ctr l n sh D cA ad A sa y bytes mL' rt' fr lo (.ref (ad i) :: As) w none w1) (my : MV y bytes mL' rt' na) (hl : Cond.methodLink own index y ∈ gT) (hi : i < n) (hs : sh i = .inr (ci, fk)) (hc : classes[ci]? = some (y.cls, T, N)) (hR : fr + 1 ≤ R.frames ∧ 8 + (mL' + 11) + lo ≤ R.locals) (hn : As.length = na) (hsz : ls.size = mL) (hst : st0 = As.reverse ++ .ref (ad i) :: rest) (hW : (rest.map fun v => v.category).sum ≤ 8) (hd : decode cc pc = .ok (.invokevirtual index, 3))
    (kk : ∀ (H1 : Heap) (locs1 : List Loc), Iv n sh D cA ad A s.heap w1 H1 locs1 → W p l e R s m args below meth c H1 locs1 0 0 Q (F0 m (pc + 3) ls rest)) : W p l e R s m args below meth c H locs 0 0 Q (F0 m pc ls st0) := m_callV G hI hM my hl hi hs hc hR hn hsz hst hW hd kk
theorem n_Si {r : Int32} (G : Mx n D cA ad A sa p s m args meth c own cc mL rt) (hI : Iv n sh D cA ad A s.heap w H locs) (hM : Ctr l n sh D cA ad A sa y bytes mL' rt' fr lo As w (some (.int r)) w1) (my : MS y bytes mL' rt' na) (hl : Cond.methodLink own index y ∈ gT) (hR : fr + 1 ≤ R.frames ∧ 8 + (mL' + 11) + lo ≤ R.locals) (hn : As.length = na) (hsz : ls.size = mL) (hst : st0 = As.reverse ++ rest) (hW : (rest.map fun v => v.category).sum ≤ 8) (hd : decode cc pc = .ok (.invokestatic index, 3))
    (kk : ∀ (H1 : Heap) (locs1 : List Loc), Iv n sh D cA ad A s.heap w1 H1 locs1 → W p l e R s m args below meth c H1 locs1 0 0 Q (F0 m (pc + 3) ls (.int r :: rest))) : W p l e R s m args below meth c H locs 0 0 Q (F0 m pc ls st0) := m_callS G hI hM my hl hR hn hsz hst hW hd kk
theorem n_SNi {r : Int32} (G : Mx n D cA ad A sa p s m args meth c own cc mL rt) (hI : Iv n sh D cA ad A s.heap w H locs) (hM : Ctr l n sh D cA ad A sa y bytes mL' rt' fr lo As w (some (.int r)) w1) (my : MS y bytes mL' rt' na) {host : String} (hl : (own, index, y, host) ∈ NM) (hR : fr + 1 ≤ R.frames ∧ 8 + (mL' + 11) + lo ≤ R.locals) (hn : As.length = na) (hsz : ls.size = mL) (hst : st0 = As.reverse ++ rest) (hW : (rest.map fun v => v.category).sum ≤ 8) (hd : decode cc pc = .ok (.invokestatic index, 3))
    (kk : ∀ (H1 : Heap) (locs1 : List Loc), Iv n sh D cA ad A s.heap w1 H1 locs1 → W p l e R s m args below meth c H1 locs1 0 0 Q (F0 m (pc + 3) ls (.int r :: rest))) : W p l e R s m args below meth c H locs 0 0 Q (F0 m pc ls st0) := m_callSN G hI hM my hl hR hn hsz hst hW hd kk
end NR
theorem itp {α : Type} {c : Prop} [Decidable c] {a b x : α} (h : c) (e : (if c then a else b) = x) : a = x := by rw [if_pos h] at e; exact e
theorem itn {α : Type} {c : Prop} [Decidable c] {a b x : α} (h : ¬ c) (e : (if c then a else b) = x) : b = x := by rw [if_neg h] at e; exact e
section NE
variable {n : Nat} {sh : Nat → Shp} {D : va_G} {cA : ClassId} {ad : Nat → Nat} {A : Nat → Prop} {sa : Nat → Nat} {own : String} {mL : Nat} {rt : Option FieldType} {w w' : Mem}
variable {p : Program} {l : Launch} {e : Env} {R : Room} {s : State} {m : MethodId} {args : Array Value} {below : List Frame} {meth : Method} {c : Code} {H : Heap} {locs : List Loc} {Q : State → Prop} {cc : ByteArray} {pc : Nat} {ls : Array Slot}
theorem n_iret {v r : Int32} (G : Mx n D cA ad A sa p s m args meth c own cc mL rt) (hI : Iv n sh D cA ad A s.heap w H locs) (hF : some (v, w) = some (r, w')) (hrt : rt = some .int) (hd : decode cc pc = .ok (.ireturn, 1)) : W p l e R s m args below meth c H locs 0 0 (QM n sh D cA ad A below args s (some (.int r)) w') (F0 m pc ls [.int v]) := by
  cases hF
  exact m_iret G hI hrt hd
theorem n_zret {v r : Int32} (G : Mx n D cA ad A sa p s m args meth c own cc mL rt) (hI : Iv n sh D cA ad A s.heap w H locs) (hz : bz v = true) (hF : some (v, w) = some (r, w')) (hrt : rt = some .boolean) (hd : decode cc pc = .ok (.ireturn, 1)) : W p l e R s m args below meth c H locs 0 0 (QM n sh D cA ad A below args s (some (.int r)) w') (F0 m pc ls [.int v]) := by
  cases hF
  exact m_zret G hI hrt (bz_narrow hz) hd
theorem n_lret {v r : Int64} (G : Mx n D cA ad A sa p s m args meth c own cc mL rt) (hI : Iv n sh D cA ad A s.heap w H locs) (hF : some (v, w) = some (r, w')) (hrt : rt = some .long) (hd : decode cc pc = .ok (.lreturn, 1)) : W p l e R s m args below meth c H locs 0 0 (QM n sh D cA ad A below args s (some (.long r)) w') (F0 m pc ls [.long v]) := by
  cases hF
  exact m_lret G hI hrt hd
theorem n_vret {u r : Unit} (G : Mx n D cA ad A sa p s m args meth c own cc mL rt) (hI : Iv n sh D cA ad A s.heap w H locs) (hF : some (u, w) = some (r, w')) (hrt : rt = none) (hd : decode cc pc = .ok (.return_, 1)) : W p l e R s m args below meth c H locs 0 0 (QM n sh D cA ad A below args s none w') (F0 m pc ls []) := by
  cases hF
  exact m_vret G hI hrt hd
theorem n_aret {u r : Unit} {q : Nat} {nm : String} (G : Mx n D cA ad A sa p s m args meth c own cc mL rt) (hI : Iv n sh D cA ad A s.heap w H locs) (hF : some (u, w) = some (r, w')) (hrt : rt = some (.object nm)) (hd : decode cc pc = .ok (.areturn, 1)) : W p l e R s m args below meth c H locs 0 0 (QM n sh D cA ad A below args s (some (.ref q)) w') (F0 m pc ls [.ref q]) := by
  cases hF
  exact m_aret G hI hrt hd
end NE
