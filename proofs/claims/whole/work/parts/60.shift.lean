/-! shifts: numbers -/
abbrev Tr := Nat × Nat × Nat
def shi (i : Nat) : Int32 := nI i - nI 6
theorem shi_i {i : Nat} (h : i ≤ 1000) : (shi i).toInt = (i : Int) - 6 := by
  unfold shi
  exact i_sub (i_nI (by omega)) (i_nI (by omega)) (by omega)
theorem shi_0 : shi 0 = -6 := by decide
theorem shi_p {i : Nat} (h : i ≤ 100) : shi i + 1 = shi (i + 1) := i_ext (by
  rw [i_add (shi_i (by omega)) (i_lit (x := 1)) (by omega), shi_i (by omega)]
  omega)
theorem shi_gt {i : Nat} (h : i ≤ 100) : ((6 : Int32) < shi i) = (12 < i) := by
  rw [Int32.lt_iff_toInt_lt, shi_i (by omega), show (6 : Int32).toInt = 6 by decide]
  exact propext ⟨fun _ => by omega, fun _ => by omega⟩
def sab (i : Nat) : Nat := (i - 6) + (6 - i)
theorem iabs_shi {i : Nat} (h : i ≤ 12) : iabs (shi i) = nI (sab i) := by
  have e := shi_i (i := i) (by omega)
  have e0 : (0 : Int32).toInt = 0 := by decide
  refine i_ext ?_
  rw [i_nI (by unfold sab; omega)]
  unfold iabs sab
  split
  · next z =>
    rw [Int32.le_iff_toInt_le, e0, e] at z
    rw [e]; omega
  · next z =>
    rw [Int32.le_iff_toInt_le, e0, e] at z
    rw [i_sub e0 e (by omega)]; omega
def mvb (N s h i : Nat) : Bool := if h = 0 then decide (i = 6) else decide (6 ≤ s + i) && decide (s + i + h ≤ N + 6)
def mm32 (H S n a : Int32) : Int32 := if H = 0 then (if a = 0 then 1 else 0) else if S + a < 0 then 0 else if n < S + a + H then 0 else 1
theorem shs_i {s i : Nat} (hs : s ≤ 96) (hi : i ≤ 12) : (nI s + shi i).toInt = (s : Int) + ((i : Int) - 6) := i_add (i_nI (by omega)) (shi_i (by omega)) (by omega)
theorem mm_e {N s h i : Nat} (hN : N ≤ 96) (hs : s + h ≤ N) (hi : i ≤ 12) : mm32 (nI h) (nI s) (nI N) (shi i) = b32 (mvb N s h i) := by
  have e0 : (0 : Int32).toInt = 0 := by decide
  unfold mm32 mvb
  by_cases z : h = 0
  · rw [if_pos (by rw [nI_eq0 (by omega)]; exact z), if_pos z]
    by_cases y : i = 6
    · rw [if_pos (by rw [y]; decide), y]; rfl
    · rw [if_neg (fun q => y (by have := shi_i (i := i) (by omega); rw [q, e0] at this; omega)), decide_eq_false y]; rfl
  · rw [if_neg (by rw [nI_eq0 (by omega)]; exact z), if_neg z]
    have e := shs_i (s := s) (i := i) (by omega) hi
    by_cases y : 6 ≤ s + i
    · rw [if_neg (by rw [Int32.lt_iff_toInt_lt, e, e0]; omega), decide_eq_true y, Bool.true_and]
      have e' : (nI s + shi i + nI h).toInt = (s : Int) + ((i : Int) - 6) + h := i_add e (i_nI (by omega)) (by omega)
      by_cases x : s + i + h ≤ N + 6
      · rw [if_neg (by rw [Int32.lt_iff_toInt_lt, e', i_nI (by omega)]; omega), decide_eq_true x]; rfl
      · rw [if_pos (by rw [Int32.lt_iff_toInt_lt, e', i_nI (by omega)]; omega), decide_eq_false x]; rfl
    · rw [if_pos (by rw [Int32.lt_iff_toInt_lt, e, e0]; omega), decide_eq_false y, Bool.false_and]; rfl
theorem mvb_s {N s h i : Nat} (hN : N ≤ 96) (hs : s + h ≤ N) (hi : i ≤ 12) (m : mvb N s h i = true) : nI s + shi i = nI (s + i - 6) ∧ s + i - 6 + h ≤ N := by
  have q : 6 ≤ s + i ∧ s + i + h ≤ N + 6 := by
    unfold mvb at m
    split at m
    · have := of_decide_eq_true m; omega
    · simp only [Bool.and_eq_true, decide_eq_true_eq] at m; exact m
  refine ⟨i_ext ?_, by omega⟩
  rw [shs_i (by omega) hi, i_nI (by omega)]
  omega
theorem mayMove_e {W : Mem} {N : Nat} {s h : Nat → Nat} (o : RO N s h) (e9 : W 9 0 = nI N) (g : SH W 12 11 s h) {l i : Nat} (hl : l < 3) (hi : i ≤ 12) : F_X3_mayMove 9 (nI l) (shi i) W = some (b32 (mvb N (s l) (h l) i), W) := by
  unfold F_X3_mayMove
  rw [← mm_e o.2.1 (o.2.2 l hl) hi]
  simp only [inb_nI hl (by decide), gd_t, lt_m, ix_nI (show l < 2 ^ 31 by omega), Nat.reduceAdd, (g l hl).1, (g l hl).2, e9]
  unfold mm32
  split
  · split <;> rfl
  · split
    · rfl
    · split <;> rfl
theorem mayShift_e {V : Mem} {N : Nat} {s h : Nat → Nat} (o : RO N s h) (e2 : V 2 0 = nI N) (g : SH V 18 12 s h) {l i : Nat} (hl : l < 3) (hi : i ≤ 12) : F_X7_mayShift (nI l) (shi i) V = some (b32 (mvb N (s l) (h l) i), V) := by
  unfold F_X7_mayShift
  rw [← mm_e o.2.1 (o.2.2 l hl) hi]
  simp only [inb_nI hl (by decide), gd_t, lt_m, ix_nI (show l < 2 ^ 31 by omega), (g l hl).1, (g l hl).2, e2]
  unfold mm32
  split
  · split <;> rfl
  · split
    · rfl
    · split <;> rfl
def trx (x : Tr) (l : Nat) : Nat := if l = 0 then x.1 else if l = 1 then x.2.1 else x.2.2
def sx (s : Nat → Nat) (x : Tr) (l : Nat) : Nat := s l + trx x l - 6
def stot (x : Tr) : Nat := sab x.1 + sab x.2.1 + sab x.2.2
def T12 (x : Tr) : Prop := x.1 ≤ 12 ∧ x.2.1 ≤ 12 ∧ x.2.2 ≤ 12
theorem trx_le {x : Tr} (h : T12 x) (l : Nat) : trx x l ≤ 12 := by
  obtain ⟨h1, h2, h3⟩ := h
  unfold trx
  split
  · exact h1
  · split
    · exact h2
    · exact h3
def seb (N : Nat) (L : Int32) (s h : Nat → Nat) : Bool := decide (2 ≤ pc (ix (sn L s h (rns N s h 8 0))))
def mv3 (N : Nat) (s h : Nat → Nat) (x : Tr) : Bool := mvb N (s 0) (h 0) x.1 && (mvb N (s 1) (h 1) x.2.1 && mvb N (s 2) (h 2) x.2.2)
def okb (N : Nat) (L : Int32) (s h : Nat → Nat) (x : Tr) : Bool := mv3 N s h x && seb N L (sx s x) h
theorem mv3_t {N : Nat} {s h : Nat → Nat} (o : RO N s h) {x : Tr} (t : T12 x) (m : mv3 N s h x = true) : RO N (sx s x) h ∧ ∀ l, l < 3 → nI (s l) + shi (trx x l) = nI (sx s x l) := by
  unfold mv3 at m
  simp only [Bool.and_eq_true] at m
  obtain ⟨m0, m1, m2⟩ := m
  have all : ∀ l, l < 3 → mvb N (s l) (h l) (trx x l) = true := fun l hl => by
    rcases (show l = 0 ∨ l = 1 ∨ l = 2 by omega) with rfl | rfl | rfl
    · exact m0
    · exact m1
    · exact m2
  exact ⟨⟨o.1, o.2.1, fun l hl => (mvb_s o.2.1 (o.2.2 l hl) (trx_le t l) (all l hl)).2⟩, fun l hl => (mvb_s o.2.1 (o.2.2 l hl) (trx_le t l) (all l hl)).1⟩
/-! the class tries one -/
def SC (W0 W : Mem) : Prop := (∀ i, i < 32 ∨ 38 < i → W i = W0 i) ∧ W 34 0 = 7
def CGd (W : Mem) (G : List Tr) : Prop := W 32 5 = nI G.length ∧ ∀ b R, G = b :: R → W 38 0 = shi b.1 ∧ W 38 1 = shi b.2.1 ∧ W 38 2 = shi b.2.2
theorem CGd.same {W W' : Mem} {G : List Tr} (c : CGd W G) (h1 : W' 32 5 = W 32 5) (h2 : W' 38 = W 38) : CGd W' G := by
  unfold CGd at c ⊢
  rw [h1, h2]
  exact c
theorem CGd.more {W W' : Mem} {G : List Tr} (c : CGd W G) (x : Tr) (h1 : W' 32 5 = W 32 5 + 1) (h2 : G ≠ [] → W' 38 = W 38) (h3 : G = [] → W' 38 0 = shi x.1 ∧ W' 38 1 = shi x.2.1 ∧ W' 38 2 = shi x.2.2) : CGd W' (G ++ [x]) := by
  refine ⟨?_, ?_⟩
  · rw [h1, c.1, nI_p1]; simp
  · intro b R e
    cases G with
    | nil =>
      simp only [List.nil_append, List.cons.injEq] at e
      obtain ⟨rfl, -⟩ := e
      exact h3 rfl
    | cons b' R' =>
      simp only [List.cons_append, List.cons.injEq] at e
      obtain ⟨rfl, -⟩ := e
      rw [h2 (by simp)]
      exact c.2 b' R' rfl
theorem t1_step {W : Mem} {N : Nat} {s h : Nat → Nat} (o : RO N s h) (e9 : W 9 0 = nI N) (g : SH W 12 11 s h) {l i : Nat} (hl : l < 3) (hi : i ≤ 12) (e : W 36 l = shi i) {L : Int32} {k : Mem → Option (Unit × Mem)} {F : Nat} :
    L_X3_tryOne_24 9 L k (F + 1) (nI l) W = if mvb N (s l) (h l) i = true then L_X3_tryOne_24 9 L k F (nI (l + 1)) (mst W 37 l (nI (s l) + shi i)) else some ((), W) := by
  rw [L_X3_tryOne_24, if_neg (by rw [show (3 : Int32) = nI 3 from rfl, nI_lek (by omega) (by omega)]; omega)]
  simp only [inb_nI hl (by decide), gd_t, lt_m, ix_nI (show l < 2 ^ 31 by omega), e, mayMove_e o e9 g hl hi, bd_m, Nat.reduceAdd, (g l hl).1, nI_p1, b32_0]
  cases mvb N (s l) (h l) i <;> simp
