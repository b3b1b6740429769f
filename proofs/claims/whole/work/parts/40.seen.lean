/-! what runs tell -/
theorem rns_in {N : Nat} {s h : Nat → Nat} : ∀ (f t : Nat), ∀ x ∈ rns N s h f t, x.1 < N ∧ x.2 ≤ N := by
  intro f
  induction f with
  | zero => intro t x hx; simp [rns] at hx
  | succ f ih =>
    intro t x hx
    rw [rns] at hx
    split at hx
    · next ht =>
      have x2 := nxt_le N s h t
      rcases List.mem_cons.mp hx with rfl | hx
      · exact ⟨ht, by show nxt N s h t - t ≤ N; omega⟩
      · exact ih _ x hx
    · simp at hx
theorem tel_v (L : Int32) (n p : Nat) (hp : p ≤ 7) : tel L n p = -1 ∨ tel L n p = 0 ∨ tel L n p = 1 ∨ tel L n p = 2 := by
  unfold tel
  split
  · exact Or.inl rfl
  · have : p = 0 ∨ p = 1 ∨ p = 2 ∨ p = 3 ∨ p = 4 ∨ p = 5 ∨ p = 6 ∨ p = 7 := by omega
    rcases this with rfl | rfl | rfl | rfl | rfl | rfl | rfl | rfl <;> decide
theorem tells_e {V0 V : Mem} {N : Nat} {s h : Nat → Nat} {R : List (Nat × Nat)} (g : SH V0 13 12 s h) (o : RO N s h) (m : MR V0 V R) {i : Nat} (hi : i < R.length) (hR : R.length ≤ 7) (hx : R[i].1 < N) : F_X7_tells (nI i) V = some (tel (V0 2 3) R[i].2 (pa s h R[i].1), V) := by
  have hN := o.2.1
  have hp := pa_le s h R[i].1
  unfold F_X7_tells
  simp only [inb_nI (show i < 96 by omega) (by decide), gd_t, ix_nI (show i < 2 ^ 31 by omega), (m.2.2.2 i hi).1, (m.2.2.2 i hi).2, patM_e (g.ofM m) o (show R[i].1 ≤ 96 by omega), bd_m, m.1 2 (by decide) (by decide) (by decide)]
  unfold tel
  split
  · rfl
  · generalize pa s h R[i].1 = p at hp
    have : p = 0 ∨ p = 1 ∨ p = 2 ∨ p = 3 ∨ p = 4 ∨ p = 5 ∨ p = 6 ∨ p = 7 := by omega
    rcases this with rfl | rfl | rfl | rfl | rfl | rfl | rfl | rfl <;> rfl
theorem seen_loop {V0 V : Mem} {N : Nat} {s h : Nat → Nat} {R : List (Nat × Nat)} (g : SH V0 13 12 s h) (o : RO N s h) (m : MR V0 V R) (hR : R.length ≤ 7) (hx : ∀ x ∈ R, x.1 < N) {k : Int32 → Mem → Option (Int32 × Mem)} :
    ∀ (r j F : Nat) (v : Int32), j + r = R.length → r < F → L_X7_seenSet_8 k F v (nI j) V = k ((R.drop j).foldl (fun S x => sb S (tel (V0 2 3) x.2 (pa s h x.1))) v) V := by
  intro r
  induction r with
  | zero =>
    intro j F v hj hF
    obtain ⟨F, rfl⟩ : ∃ F', F = F' + 1 := ⟨F - 1, by omega⟩
    rw [L_X7_seenSet_8, m.2.2.1, if_pos (by rw [nI_lek (by omega) (by omega)]; omega), List.drop_of_length_le (by omega)]
    rfl
  | succ r ih =>
    intro j F v hj hF
    obtain ⟨F, rfl⟩ : ∃ F', F = F' + 1 := ⟨F - 1, by omega⟩
    have hj' : j < R.length := by omega
    rw [L_X7_seenSet_8, m.2.2.1, if_neg (by rw [nI_lek (by omega) (by omega)]; omega), tells_e g o m hj' hR (hx _ (List.getElem_mem hj')), bd_m, List.drop_eq_getElem_cons hj', List.foldl_cons, nI_p1, lt_m]
    rw [show v ||| (0 : Int32) = v by simp]
    by_cases e : tel (V0 2 3) R[j].2 (pa s h R[j].1) = -1
    · rw [if_pos e, ih (j + 1) F _ (by omega) (by omega)]
      unfold sb
      rw [if_pos e]
    · rw [if_neg e, ih (j + 1) F _ (by omega) (by omega)]
      rw [show sb v (tel (V0 2 3) R[j].2 (pa s h R[j].1)) = v ||| ((1 : Int32) <<< (tel (V0 2 3) R[j].2 (pa s h R[j].1) &&& 31)) by unfold sb; rw [if_neg e]]
theorem rns_7 {N : Nat} {s h : Nat → Nat} : ∀ (f t n : Nat), t ≤ N → (t < N → n + bs N s h t ≤ 6) → n ≤ 7 → n + (rns N s h f t).length ≤ 7 := by
  intro f
  induction f with
  | zero => intro t n _ _ hn; simp [rns]; omega
  | succ f ih =>
    intro t n ht hb hn
    rw [rns]
    split
    · next h' =>
      have := hb h'
      have q := ih (nxt N s h t) (n + 1) (nxt_le N s h t) (fun hx => by have := bs_lt h' hx; omega) (by omega)
      rw [List.length_cons]
      omega
    · simp; omega
theorem rns7 (N : Nat) (s h : Nat → Nat) : (rns N s h 8 0).length ≤ 7 := by
  have := rns_7 (N := N) (s := s) (h := h) 8 0 0 (by omega) (fun _ => by have := bs_6 N s h 0; omega) (by decide)
  omega
theorem seenSet_e {V : Mem} {N : Nat} {s h : Nat → Nat} (g : SH V 13 12 s h) (o : RO N s h) (e2 : V 2 0 = nI N) : ∃ V', F_X7_seenSet V = some (sn (V 2 3) s h (rns N s h 8 0), V') ∧ MR V V' (rns N s h 8 0) := by
  obtain ⟨V', f, m⟩ := setRuns_e g o e2
  refine ⟨V', ?_, m⟩
  unfold F_X7_seenSet
  have hR := rns7 N s h
  have q := seen_loop g o m hR (fun x hx => (rns_in 8 0 x hx).1) (k := fun x11 w10 => some (x11, w10)) (rns N s h 8 0).length 0 300 0 (by omega) (by omega)
  rw [z0, List.drop_zero] at q
  rw [f, bd_m, q]
  rfl
theorem sb_8 {m : Nat} {v : Int32} (hm : m < 8) (hv : v = -1 ∨ v = 0 ∨ v = 1 ∨ v = 2) : ∃ m', m' < 8 ∧ sb (nI m) v = nI m' := by
  have : m = 0 ∨ m = 1 ∨ m = 2 ∨ m = 3 ∨ m = 4 ∨ m = 5 ∨ m = 6 ∨ m = 7 := by omega
  rcases hv with rfl | rfl | rfl | rfl
  · exact ⟨m, hm, rfl⟩
  · exact ⟨m ||| 1, by rcases this with rfl | rfl | rfl | rfl | rfl | rfl | rfl | rfl <;> decide, by rcases this with rfl | rfl | rfl | rfl | rfl | rfl | rfl | rfl <;> decide⟩
  · exact ⟨m ||| 2, by rcases this with rfl | rfl | rfl | rfl | rfl | rfl | rfl | rfl <;> decide, by rcases this with rfl | rfl | rfl | rfl | rfl | rfl | rfl | rfl <;> decide⟩
  · exact ⟨m ||| 4, by rcases this with rfl | rfl | rfl | rfl | rfl | rfl | rfl | rfl <;> decide, by rcases this with rfl | rfl | rfl | rfl | rfl | rfl | rfl | rfl <;> decide⟩
theorem sn_8' (L : Int32) (s h : Nat → Nat) : ∀ (R : List (Nat × Nat)) (m : Nat), m < 8 → ∃ m', m' < 8 ∧ R.foldl (fun S x => sb S (tel L x.2 (pa s h x.1))) (nI m) = nI m'
  | [], m, hm => ⟨m, hm, rfl⟩
  | x :: R, m, hm => by
    obtain ⟨m1, h1, e1⟩ := sb_8 hm (tel_v L x.2 (pa s h x.1) (pa_le s h x.1))
    rw [List.foldl_cons, e1]
    exact sn_8' L s h R m1 h1
theorem sn_8 (L : Int32) (s h : Nat → Nat) (R : List (Nat × Nat)) : ∃ m, m < 8 ∧ sn L s h R = nI m := sn_8' L s h R 0 (by decide)
def pc (m : Nat) : Int32 := ([0, 1, 1, 2, 1, 2, 2, 3] : List Int32).getD m 0
theorem count_e {m : Nat} (hm : m < 8) (w : Mem) : F_J6_bitCount_0f7a4 (nI m) w = some (pc m, w) := by
  have : m = 0 ∨ m = 1 ∨ m = 2 ∨ m = 3 ∨ m = 4 ∨ m = 5 ∨ m = 6 ∨ m = 7 := by omega
  unfold F_J6_bitCount_0f7a4
  simp only [lt_m]
  congr 2
  rcases this with rfl | rfl | rfl | rfl | rfl | rfl | rfl | rfl <;> decide
theorem bits_e {m : Nat} (hm : m < 8) (w : Mem) : F_X7_bits (nI m) w = some (pc m, w) := by
  have : m = 0 ∨ m = 1 ∨ m = 2 ∨ m = 3 ∨ m = 4 ∨ m = 5 ∨ m = 6 ∨ m = 7 := by omega
  unfold F_X7_bits
  congr 2
  rcases this with rfl | rfl | rfl | rfl | rfl | rfl | rfl | rfl <;> decide
/-! ticks of a pattern -/
def tk (s h : Nat → Nat) (p : Nat) (R : List (Nat × Nat)) : Nat := (R.map (fun x => if pa s h x.1 = p then x.2 else 0)).sum
theorem tk_loop {q0 : Nat} {L : Int32} {s h : Nat → Nat} {W0 W : Mem} {R : List (Nat × Nat)} (hq : lnC (q0 + 2) = 28) (c : CR q0 L s h W0 W R) (hR : R.length ≤ 7) {p : Nat} (hp : p ≤ 7) {k : Int32 → Mem → Option (Int32 × Mem)} :
    ∀ (r j F v : Nat), j + r = R.length → r < F → L_X2_ticksOf_4 q0 (nI p) k F (nI v) (nI j) W = k (nI (v + tk s h p (R.drop j))) W := by
  intro r
  induction r with
  | zero =>
    intro j F v hj hF
    obtain ⟨F, rfl⟩ : ∃ F', F = F' + 1 := ⟨F - 1, by omega⟩
    rw [L_X2_ticksOf_4, c.2.2.1, if_pos (by rw [nI_lek (by omega) (by omega)]; omega), List.drop_of_length_le (by omega)]
    rfl
  | succ r ih =>
    intro j F v hj hF
    obtain ⟨F, rfl⟩ : ∃ F', F = F' + 1 := ⟨F - 1, by omega⟩
    have hj' : j < R.length := by omega
    have hp' := pa_le s h R[j].1
    have c2 : ∀ d, F_X4_cellOr (q0 + 1) d (nI j) 2 W = some (nI (pa s h R[j].1), W) := fun d => by
      have := cellOr_in (t := q0 + 1) (m := 7) c.2.2.1 hR (by decide) hq hj' (j := 2) (by decide) d
      rw [show q0 + 1 + 1 = q0 + 2 from rfl, c.2.2.2.1 j hj' 2 (by decide)] at this
      exact this
    have c1 : ∀ d, F_X4_cellOr (q0 + 1) d (nI j) 1 W = some (nI R[j].2, W) := fun d => by
      have := cellOr_in (t := q0 + 1) (m := 7) c.2.2.1 hR (by decide) hq hj' (j := 1) (by decide) d
      rw [show q0 + 1 + 1 = q0 + 2 from rfl, c.2.2.2.1 j hj' 1 (by decide)] at this
      exact this
    have e : tk s h p (R.drop j) = (if pa s h R[j].1 = p then R[j].2 else 0) + tk s h p (R.drop (j + 1)) := by
      unfold tk
      rw [List.drop_eq_getElem_cons hj', List.map_cons, List.sum_cons]
    rw [L_X2_ticksOf_4, c.2.2.1, if_neg (by rw [nI_lek (by omega) (by omega)]; omega), c2, bd_m, c1, bd_m, nI_p1, nI_add, ih (j + 1) F _ (by omega) (by omega), ih (j + 1) F _ (by omega) (by omega), e]
    simp only [nI_eqk (show pa s h R[j].1 < 2 ^ 31 by omega) (show p < 2 ^ 31 by omega)]
    split
    · rw [Nat.add_assoc]
    · rw [Nat.zero_add]
theorem ticksC_e {q0 : Nat} {L : Int32} {s h : Nat → Nat} {W0 W : Mem} {R : List (Nat × Nat)} (hq : lnC (q0 + 2) = 28) (c : CR q0 L s h W0 W R) (hR : R.length ≤ 7) {p : Nat} (hp : p ≤ 7) : F_X2_ticksOf q0 (nI p) W = some (nI (tk s h p R), W) := by
  unfold F_X2_ticksOf
  have := tk_loop hq c hR hp (k := fun x10 w9 => some (x10, w9)) R.length 0 300 0 (by omega) (by omega)
  rw [z0, List.drop_zero, Nat.zero_add] at this
  exact this
theorem tkM_loop {V : Mem} {N : Nat} {s h : Nat → Nat} (g : SH V 13 12 s h) (o : RO N s h) (e2 : V 2 0 = nI N) {p : Nat} (hp : p ≤ 7) {k : Int32 → Mem → Option (Int32 × Mem)} :
    ∀ (r j F v : Nat), j + r = N → r < F → L_X7_ticksOf_4 (nI p) k F (nI v) (nI j) V = k (nI (v + (List.range r).countP (fun i => decide (pa s h (j + i) = p)))) V := by
  intro r
  have hN := o.2.1
  induction r with
  | zero =>
    intro j F v hj hF
    obtain ⟨F, rfl⟩ : ∃ F', F = F' + 1 := ⟨F - 1, by omega⟩
    rw [L_X7_ticksOf_4, e2, if_pos (by rw [nI_lek (by omega) (by omega)]; omega)]
    rfl
  | succ r ih =>
    intro j F v hj hF
    obtain ⟨F, rfl⟩ : ∃ F', F = F' + 1 := ⟨F - 1, by omega⟩
    have hp' := pa_le s h j
    rw [L_X7_ticksOf_4, e2, if_neg (by rw [nI_lek (by omega) (by omega)]; omega), patM_e g o (by omega), bd_m, cnt_split (fun t => decide (pa s h t = p)) j r, show nI v + 0 = nI v by simp, nI_p1, nI_p1, ih (j + 1) F _ (by omega) (by omega), ih (j + 1) F _ (by omega) (by omega)]
    simp only [nI_eqk (show pa s h j < 2 ^ 31 by omega) (show p < 2 ^ 31 by omega), decide_eq_true_eq]
    split
    · rw [Nat.add_assoc]
    · rw [Nat.zero_add]
theorem ticksM_e {V : Mem} {N : Nat} {s h : Nat → Nat} (g : SH V 13 12 s h) (o : RO N s h) (e2 : V 2 0 = nI N) {p : Nat} (hp : p ≤ 7) : F_X7_ticksOf (nI p) V = some (nI ((List.range N).countP (fun i => decide (pa s h i = p))), V) := by
  unfold F_X7_ticksOf
  have := tkM_loop g o e2 hp (k := fun x7 w6 => some (x7, w6)) N 0 300 0 (by omega) (by have := o.2.1; omega)
  simp only [z0, Nat.zero_add] at this
  exact this
theorem tk_cnt {N : Nat} {s h : Nat → Nat} {p : Nat} : ∀ (f t n : Nat), t ≤ N → (t < N → n + bs N s h t ≤ 6) → n ≤ 7 → 8 ≤ f + n → tk s h p (rns N s h f t) = (List.range (N - t)).countP (fun i => decide (pa s h (t + i) = p)) := by
  intro f
  induction f with
  | zero => intro t n _ _ _ _; omega
  | succ f ih =>
    intro t n ht hb hn hf
    rw [rns]
    split
    · next h' =>
      have hb' := hb h'
      have x1 := nxt_gt (s := s) (h := h) h'
      have x2 := nxt_le N s h t
      have q := ih (nxt N s h t) (n + 1) x2 (fun hx => by have := bs_lt h' hx; omega) (by omega) (by omega)
      have e : tk s h p ((t, nxt N s h t - t) :: rns N s h f (nxt N s h t)) = (if pa s h t = p then nxt N s h t - t else 0) + tk s h p (rns N s h f (nxt N s h t)) := by simp [tk]
      rw [e, q, show N - t = (nxt N s h t - t) + (N - nxt N s h t) by omega, List.range_add, List.countP_append, List.countP_map]
      congr 1
      · rw [cC (q := fun _ => decide (pa s h t = p)) (fun i hi => by rw [nxt_pa (N := N) (t := t) (x := t + i) (by omega) (by omega)])]
        by_cases z : pa s h t = p <;> simp [z]
      · refine cC (fun i _ => ?_)
        show _ = decide (pa s h (t + (nxt N s h t - t + i)) = p)
        rw [show t + (nxt N s h t - t + i) = nxt N s h t + i by omega]
    · rw [show N - t = 0 by omega]; rfl
