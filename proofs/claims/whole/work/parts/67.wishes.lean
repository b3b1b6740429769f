/-! one wish read by the class; all of them -/
theorem ms_comm {W : Mem} {i j k l : Nat} {v u : Int32} (h : i ≠ j) : mst (mst W i k v) j l u = mst (mst W j l u) i k v := by
  funext a
  unfold mst
  by_cases e : a = j
  · subst e
    rw [if_pos rfl, if_neg (fun q => h q.symm), if_neg (fun q => h q.symm), if_pos rfl]
  · rw [if_neg e, if_neg e]
    by_cases d : a = i
    · subst d
      rw [if_pos rfl, if_pos rfl, if_neg h]
    · rw [if_neg d, if_neg d]
theorem tpl_add (W : Mem) (p n : Nat) (a b c d : Int32) : addW (tpl W p) 43 n a b c d = tpl (addW W 43 n a b c d) p := by
  unfold addW tpl
  rw [ms_comm (show 41 ≠ 43 + 1 by decide), ms_comm (show 41 ≠ 43 + 1 by decide), ms_comm (show 41 ≠ 43 + 1 by decide), ms_comm (show 41 ≠ 43 + 1 by decide), ms_comm (show 41 ≠ 43 by decide)]
theorem nI_n1 {f : Nat} (h : f < 1000) : ¬ nI f = (-1 : Int32) := by
  intro q
  have q1 := i_nI (n := f) (by omega)
  rw [q, show (-1 : Int32).toInt = -1 by decide] at q1
  omega
theorem wishC_e {W : Mem} {b : Nat → Int32} {t : Nat} (h : TC W b t) (h4 : W 41 4 = -1) {n R p : Nat} (hn : W 43 2 = nI n) (hm : W 43 0 = nI 12) (hR : R ≤ 12) (hp : p ≤ t) {now : Int32} (hw : now.toInt ≤ 999) (hn' : n ≤ 12) : match (if n < R then tww b t now p else .inl p) with
    | .inl f => ∃ p', p' ≤ t ∧ F_X5_readWish (nI R) now (tpl W p) = some ((), tpl (mst W 41 4 (nI f)) p')
    | .inr u => F_X5_readWish (nI R) now (tpl W p) = some ((), tpl (addW W 43 n u.2.1 u.2.2.1 u.2.2.2 0) u.1) := by
  have ht := h.2.1
  have ok := tww_ok (b := b) hp hw
  have f0 : bd (F_X5_failAt (nI p) (tpl W p)) (fun (r9 : Unit) (w8 : Mem) => some ((), w8)) = some ((), tpl (mst W 41 4 (nI p)) p) := by
    unfold F_X5_failAt
    rw [lt_m, bd_m, tpl_4]
  unfold F_X5_readWish
  rw [byte_e h hp, bd_m, isLeg_e, bd_m, twi, jn_m, tpl_3, f0, tpl_o (show 43 ≠ 41 by decide), hn]
  by_cases z : wi (thr b t p) 117 119 = 0
  · rw [if_pos z, show tww b t now p = .inl p by unfold tww; rw [if_pos z], show (if n < R then (Sum.inl p : Nat ⊕ (Nat × Wi)) else .inl p) = .inl p by split <;> rfl]
    exact ⟨p, hp, rfl⟩
  · rw [if_neg z]
    by_cases y : n < R
    · have lt : p < t := by
        apply Nat.lt_of_not_le
        intro q
        apply z
        unfold thr
        rw [if_pos q]
        decide
      rw [if_pos y, if_pos (by rw [nI_ltk (by omega) (by omega)]; exact y), lt_m, tpl_p]
      have a := wantC_e h (show p + 1 ≤ t by omega)
      unfold tww at ok ⊢
      rw [if_neg z] at ok ⊢
      generalize twA b t (tsp b t (p + 1)) = A at a ok
      cases A with
      | inl f =>
        obtain ⟨p', r, hp', e⟩ := a
        have hf : f ≤ t := ok
        have e4 : tpl (mst W 41 4 (nI f)) p' 41 4 = nI f := by rw [tpl_j (by decide), ms_eq, upd_eq]
        refine ⟨p', hp', ?_⟩
        rw [e, bd_m, jn_m, e4, if_neg (nI_n1 (by omega))]
        dsimp only
        rw [e4, if_neg (nI_n1 (by omega))]
      | inr s =>
        obtain ⟨p1, hp1, sp1, e⟩ := a
        have e4 : ∀ q, tpl W q 41 4 = -1 := fun q => by rw [tpl_j (by decide), h4]
        have c := periodC_e h hp1 now
        rw [sp1] at c
        rw [e, bd_m, jn_m, e4, if_pos rfl]
        have ok' : match twB b t now (thr b t p - 117) s with
          | .inl f => f ≤ t
          | .inr u => u.1 ≤ t ∧ WishOK u.2.1 u.2.2.1 u.2.2.2 := ok
        show match twB b t now (thr b t p - 117) s with
          | .inl f => ∃ p', p' ≤ t ∧ _ = some ((), tpl (mst W 41 4 (nI f)) p')
          | .inr u => _ = some ((), tpl (addW W 43 n u.2.1 u.2.2.1 u.2.2.2 0) u.1)
        unfold twB at ok' ⊢
        generalize twP b t now s.1 = P at c ok'
        cases P with
        | inl f =>
          obtain ⟨p', r, hp', e'⟩ := c
          have hf : f ≤ t := ok'
          have e5 : tpl (mst W 41 4 (nI f)) p' 41 4 = nI f := by rw [tpl_j (by decide), ms_eq, upd_eq]
          refine ⟨p', hp', ?_⟩
          rw [e', bd_m]
          dsimp only
          rw [e5, if_neg (nI_n1 (by omega))]
        | inr u =>
          obtain ⟨p2, hp2, sp2, e'⟩ := c
          have q1 := endC_e h hp2
          rw [sp2] at q1
          rw [e', bd_m]
          dsimp only
          rw [e4, if_pos rfl, q1]
          show match twE b t (thr b t p - 117) s.2 u with
            | .inl f => ∃ p', p' ≤ t ∧ _ = some ((), tpl (mst W 41 4 (nI f)) p')
            | .inr u => _ = some ((), tpl (addW W 43 n u.2.1 u.2.2.1 u.2.2.2 0) u.1)
          have ok2 : match twE b t (thr b t p - 117) s.2 u with
            | .inl f => f ≤ t
            | .inr u => u.1 ≤ t ∧ WishOK u.2.1 u.2.2.1 u.2.2.2 := ok'
          unfold twE at ok2 ⊢
          by_cases x : thr b t u.1 = 59
          · rw [if_pos x, if_pos x, bd_m, if_neg (by decide), add_in (n := n) (m := 12) (by rw [tpl_o (by decide), hn]) (by rw [tpl_o (by decide), hm]) (by omega) (by decide) rfl, bd_m, tpl_add]
          · rw [if_neg x] at ok2
            rw [if_neg x, if_neg x, bd_m, if_pos rfl]
            exact ⟨u.1, ok2, rfl⟩
    · rw [if_neg y, if_neg (by rw [nI_ltk (by omega) (by omega)]; exact y)]
      exact ⟨p, hp, rfl⟩
def tpa (b : Nat → Int32) (t : Nat) (now : Int32) : Nat → Nat → Nat ⊕ List Wi
  | 0, p => if t ≤ p then .inr [] else .inl p
  | r + 1, p => if t ≤ p then .inr [] else match tww b t now p with
    | .inl f => .inl f
    | .inr u => match tpa b t now r (tsp b t u.1) with
      | .inl f => .inl f
      | .inr ws => .inr (u.2 :: ws)
theorem tpa_ok {b : Nat → Int32} {t : Nat} {now : Int32} (hw : now.toInt ≤ 999) : ∀ (r p : Nat), p ≤ t → match tpa b t now r p with
    | .inl f => f ≤ t
    | .inr ws => ws.length ≤ r ∧ ∀ x, x ∈ ws → WishOK x.1 x.2.1 x.2.2 := by
  intro r
  induction r with
  | zero =>
    intro p hp
    unfold tpa
    by_cases z : t ≤ p
    · rw [if_pos z]; exact ⟨Nat.le_refl _, fun x hx => absurd hx (by simp)⟩
    · rw [if_neg z]; exact hp
  | succ r ih =>
    intro p hp
    unfold tpa
    by_cases z : t ≤ p
    · rw [if_pos z]; exact ⟨Nat.zero_le _, fun x hx => absurd hx (by simp)⟩
    · rw [if_neg z]
      have ok := tww_ok (b := b) hp hw
      generalize tww b t now p = A at ok
      cases A with
      | inl f => exact ok
      | inr u =>
        obtain ⟨u1, u2⟩ := ok
        have i := ih (tsp b t u.1) (tsp_le u1).2
        show match (match tpa b t now r (tsp b t u.1) with
          | .inl f => .inl f
          | .inr ws => .inr (u.2 :: ws) : Nat ⊕ List Wi) with
          | .inl f => f ≤ t
          | .inr ws => ws.length ≤ r + 1 ∧ ∀ x, x ∈ ws → WishOK x.1 x.2.1 x.2.2
        generalize tpa b t now r (tsp b t u.1) = B at i
        cases B with
        | inl f => exact i
        | inr ws =>
          refine ⟨by show (u.2 :: ws).length ≤ r + 1; simp; exact i.1, fun x hx => ?_⟩
          rcases List.mem_cons.mp hx with rfl | hx
          · exact u2
          · exact i.2 x hx
def FRd (W0 W : Mem) : Prop := (∀ i, i ≠ 41 → i ≠ 43 → i ≠ 44 → W i = W0 i) ∧ W 41 2 = W0 41 2 ∧ W 43 0 = W0 43 0
theorem FRd.pl4 (W : Mem) (v : Int32) (p : Nat) : FRd W (tpl (mst W 41 4 v) p) := ⟨fun i h1 _ _ => by rw [tpl_o h1, ms_ne h1], by rw [tpl_j (by decide), ms_eq, upd_ne (by decide)], by rw [tpl_o (by decide), ms_ne (by decide)]⟩
theorem FRd.trans {a b c : Mem} (h : FRd a b) (g : FRd b c) : FRd a c := ⟨fun i h1 h2 h3 => (g.1 i h1 h2 h3).trans (h.1 i h1 h2 h3), g.2.1.trans h.2.1, g.2.2.trans h.2.2⟩
theorem failC {W : Mem} {b : Nat → Int32} {t : Nat} (h : TC W b t) {f p : Nat} (hf : f ≤ t) (hp : p ≤ t) {R now v : Int32} {k : Mem → Option (Int32 × Mem)} {F : Nat} : bd (F_X5_skipBlanks (tpl (mst W 41 4 (nI f)) p)) (fun (r13 : Unit) (w12 : Mem) => L_X5_faultOfWishes_40 R now k (F + 1) v w12) = k (tpl (mst W 41 4 (nI f)) (tsp b t p)) := by
  have ht := h.2.1
  rw [blank_e (h.s4 _) hp, bd_m, L_X5_faultOfWishes_40]
  by_cases x : (12 : Int32) < v
  · rw [if_pos x]
  · rw [if_neg x]
    split
    · rfl
    · rw [tpl_j (by decide), ms_eq, upd_eq, if_neg (nI_n1 (by omega))]
theorem loopC {b : Nat → Int32} {t R : Nat} {now : Int32} (hw : now.toInt ≤ 999) (hR : R ≤ 12) {k : Mem → Option (Int32 × Mem)} : ∀ (r n F : Nat) (W : Mem) (p : Nat) (K : List Wi), n + r = R → K.length = n → r + 2 < F → TC W b t → W 41 4 = -1 → CW W 43 K → W 43 0 = 12 → p ≤ t →
    ∃ W', L_X5_faultOfWishes_40 (nI R) now k F (nI n) (tpl W p) = k W' ∧ FRd W W' ∧ match tpa b t now r p with
      | .inl f => W' 41 4 = nI f
      | .inr ws => W' 41 4 = -1 ∧ CW W' 43 (K ++ ws) := by
  have e0 : ∀ (F : Nat) (W : Mem) (n p : Nat), n ≤ 12 → TC W b t → W 41 4 = -1 → p ≤ t → L_X5_faultOfWishes_40 (nI R) now k (F + 1) (nI n) (tpl W p) = if t ≤ p then k (tpl W p) else bd (F_X5_readWish (nI R) now (tpl W p)) (fun (r10 : Unit) (w9 : Mem) => bd (F_X5_skipBlanks w9) (fun (r13 : Unit) (w12 : Mem) => L_X5_faultOfWishes_40 (nI R) now k F (nI (n + 1)) w12)) := by
    intro F W n p hn h h4 hp
    have ht := h.2.1
    rw [L_X5_faultOfWishes_40, if_neg (by rw [show (12 : Int32) = nI 12 from rfl, nI_ltk (by omega) (by omega)]; omega), tpl_3, tpl_j (by decide), tpl_j (by decide), h.1, h4, if_pos rfl, nI_p1]
    by_cases z : t ≤ p
    · rw [if_pos z, if_pos (by rw [nI_lek (by omega) (by omega)]; exact z)]
    · rw [if_neg z, if_neg (by rw [nI_lek (by omega) (by omega)]; exact z)]
  have en : ∀ (W : Mem) (p : Nat) (K : List Wi), W 41 4 = -1 → CW W 43 K → FRd W (tpl W p) ∧ tpl W p 41 4 = -1 ∧ CW (tpl W p) 43 (K ++ []) := fun W p K h4 c => ⟨⟨fun i h1 _ _ => tpl_o h1, tpl_j (by decide), by rw [tpl_o (by decide)]⟩, by rw [tpl_j (by decide), h4], by rw [List.append_nil]; exact c.of (tpl_o (by decide)) (tpl_o (by decide))⟩
  intro r
  induction r with
  | zero =>
    intro n F W p K hn hK hF h h4 c h12 hp
    obtain ⟨F, rfl⟩ : ∃ F', F = F' + 1 + 1 := ⟨F - 2, by omega⟩
    rw [e0 _ W n p (by omega) h h4 hp]
    unfold tpa
    by_cases z : t ≤ p
    · rw [if_pos z, if_pos z]
      exact ⟨_, rfl, en W p K h4 c⟩
    · rw [if_neg z, if_neg z]
      have a := wishC_e h h4 (n := n) (R := R) (by rw [c.1, hK]) h12 hR hp hw (by omega)
      rw [if_neg (by omega)] at a
      obtain ⟨p', hp', e⟩ := a
      rw [e, bd_m, failC h hp hp']
      exact ⟨_, rfl, FRd.pl4 _ _ _, by rw [tpl_j (by decide), ms_eq, upd_eq]⟩
  | succ r ih =>
    intro n F W p K hn hK hF h h4 c h12 hp
    obtain ⟨F, rfl⟩ : ∃ F', F = F' + 1 + 1 := ⟨F - 2, by omega⟩
    rw [e0 _ W n p (by omega) h h4 hp]
    unfold tpa
    by_cases z : t ≤ p
    · rw [if_pos z, if_pos z]
      exact ⟨_, rfl, en W p K h4 c⟩
    · rw [if_neg z, if_neg z]
      have a := wishC_e h h4 (n := n) (R := R) (by rw [c.1, hK]) h12 hR hp hw (by omega)
      rw [if_pos (by omega)] at a
      have ok := tww_ok (b := b) hp hw
      generalize tww b t now p = A at a ok
      cases A with
      | inl f =>
        obtain ⟨p', hp', e⟩ := a
        rw [e, bd_m, failC h ok hp']
        exact ⟨_, rfl, FRd.pl4 _ _ _, by rw [tpl_j (by decide), ms_eq, upd_eq]⟩
      | inr u =>
        obtain ⟨u1, -⟩ := ok
        have a' : F_X5_readWish (nI R) now (tpl W p) = some ((), tpl (addW W 43 n u.2.1 u.2.2.1 u.2.2.2 0) u.1) := a
        have h' : TC (addW W 43 n u.2.1 u.2.2.1 u.2.2.2 0) b t := ⟨by rw [addW_o (by decide) (by decide)]; exact h.1, h.2.1, fun k hk => by rw [addW_o (by decide) (by decide)]; exact h.2.2 k hk⟩
        have c' := c.add u.2 0
        rw [hK] at c'
        obtain ⟨W', f1, f2, f3⟩ := ih (n + 1) (F + 1) (addW W 43 n u.2.1 u.2.2.1 u.2.2.2 0) (tsp b t u.1) (K ++ [u.2]) (by omega) (by simp; exact hK) (by omega) h' (by rw [addW_o (by decide) (by decide), h4]) c' (by rw [addW_fc.2, h12]) (tsp_le u1).2
        have fr : FRd W (addW W 43 n u.2.1 u.2.2.1 u.2.2.2 0) := ⟨fun i _ h2 h3 => addW_o h2 h3, by rw [addW_o (by decide) (by decide)], addW_fc.2⟩
        refine ⟨W', ?_, fr.trans f2, ?_⟩
        · rw [a', bd_m, blank_e h' u1, bd_m, f1]
        · show match (match tpa b t now r (tsp b t u.1) with
            | .inl f => .inl f
            | .inr ws => .inr (u.2 :: ws) : Nat ⊕ List Wi) with
            | .inl f => W' 41 4 = nI f
            | .inr ws => W' 41 4 = -1 ∧ CW W' 43 (K ++ ws)
          generalize tpa b t now r (tsp b t u.1) = B at f3
          cases B with
          | inl f => exact f3
          | inr ws => exact ⟨f3.1, by have := f3.2; rw [List.append_assoc] at this; exact this⟩
