/-! rows of one table come behind those of another; one drive becomes like another -/
theorem addW_s {W : Mem} {t n : Nat} {a b c d : Int32} : addW W t n a b c d (t + 1) = upd (upd (upd (upd (W (t + 1)) (4 * n) a) (4 * n + 1) b) (4 * n + 2) c) (4 * n + 3) d := by
  unfold addW
  rw [ms_ne (by omega), ms_eq, ms_eq, ms_eq, ms_eq]
theorem CW.add {W : Mem} {t : Nat} {K : List Wi} (c : CW W t K) (x : Wi) (d : Int32) : CW (addW W t K.length x.1 x.2.1 x.2.2 d) t (K ++ [x]) := by
  refine ⟨by rw [addW_t, upd_eq]; simp, fun i hi => ?_⟩
  unfold rowIs
  rw [addW_s]
  simp only [List.length_append, List.length_singleton] at hi
  by_cases q : i < K.length
  · rw [List.getElem_append_left q]
    obtain ⟨a1, a2, a3⟩ := c.2 i q
    refine ⟨?_, ?_, ?_⟩
    · rw [upd_ne (by omega), upd_ne (by omega), upd_ne (by omega), upd_ne (by omega), a1]
    · rw [upd_ne (by omega), upd_ne (by omega), upd_ne (by omega), upd_ne (by omega), a2]
    · rw [upd_ne (by omega), upd_ne (by omega), upd_ne (by omega), upd_ne (by omega), a3]
  · obtain rfl : i = K.length := by omega
    rw [List.getElem_concat_length rfl]
    refine ⟨?_, ?_, ?_⟩
    · rw [upd_ne (by omega), upd_ne (by omega), upd_ne (by omega), upd_eq]
    · rw [upd_ne (by omega), upd_ne (by omega), upd_eq]
    · rw [upd_ne (by omega), upd_eq]
theorem CW.of {W W' : Mem} {t : Nat} {K : List Wi} (c : CW W t K) (h1 : W' t = W t) (h2 : W' (t + 1) = W (t + 1)) : CW W' t K := by
  unfold CW rowIs at c ⊢
  rw [h1, h2]
  exact c
theorem addAll_loop {W0 : Mem} {t s : Nat} {Q : List Wi} (h1 : s ≠ t) (h2 : s ≠ t + 1) (h3 : s + 1 ≠ t) (hL : lnC (t + 1) = 48) (hLs : lnC (s + 1) = 48) (hQ : Q.length ≤ 12) {k : Mem → Option (Unit × Mem)} :
    ∀ (r j F : Nat) (K : List Wi) (W : Mem), j + r = Q.length → r < F → K.length + r ≤ 12 → CW W t K → CW W s Q → W t 0 = 12 → FC t W0 W →
      ∃ W', L_X4_addAll_2 t s k F (nI j) W = k W' ∧ CW W' t (K ++ Q.drop j) ∧ FC t W0 W' := by
  intro r
  induction r with
  | zero =>
    intro j F K W hj hF hK ct cs h12 fr
    obtain ⟨F, rfl⟩ : ∃ F', F = F' + 1 := ⟨F - 1, by omega⟩
    obtain rfl : j = Q.length := by omega
    rw [List.drop_length, List.append_nil]
    refine ⟨W, ?_, ct, fr⟩
    rw [L_X4_addAll_2, cs.1, if_pos (by rw [nI_lek (by omega) (by omega)]; omega)]
  | succ r ih =>
    intro j F K W hj hF hK ct cs h12 fr
    obtain ⟨F, rfl⟩ : ∃ F', F = F' + 1 := ⟨F - 1, by omega⟩
    have hj' : j < Q.length := by omega
    obtain ⟨a1, a2, a3⟩ := cs.2 j hj'
    have ct' := ct.add Q[j] (W (s + 1) (4 * j + 3))
    obtain ⟨W', f, c, fr'⟩ := ih (j + 1) F (K ++ [Q[j]]) _ (by omega) (by omega) (by simp; omega) ct' (cs.of (addW_o h1 h2) (addW_o h3 (by omega))) (by rw [addW_fc.2, h12]) (fr.trans addW_fc)
    rw [List.drop_eq_getElem_cons hj', show K ++ Q[j] :: Q.drop (j + 1) = K ++ [Q[j]] ++ Q.drop (j + 1) by simp]
    refine ⟨W', ?_, c, fr'⟩
    have e1 : (nI (4 * j) + 1) = nI (4 * j + 1) := nI_p1 _
    have e2 : (nI (4 * j) + 2) = nI (4 * j + 2) := nI_pl _ 2
    have e3 : (nI (4 * j) + 3) = nI (4 * j + 3) := nI_pl _ 3
    rw [L_X4_addAll_2, cs.1, if_neg (by rw [nI_lek (by omega) (by omega)]; omega)]
    simp only [nI_m4 (show j < 1000000 by omega), e1, e2, e3, hLs, inb_nI (show 4 * j < 48 by omega) (by decide), inb_nI (show 4 * j + 1 < 48 by omega) (by decide), inb_nI (show 4 * j + 2 < 48 by omega) (by decide), inb_nI (show 4 * j + 3 < 48 by omega) (by decide), gd_t, ix_nI (show 4 * j < 2 ^ 31 by omega), ix_nI (show 4 * j + 1 < 2 ^ 31 by omega), ix_nI (show 4 * j + 2 < 2 ^ 31 by omega), ix_nI (show 4 * j + 3 < 2 ^ 31 by omega), a1, a2, a3, nI_p1]
    rw [add_in (m := 12) ct.1 h12 (by omega) (by decide) hL, bd_m, f]
theorem addAll_e {W : Mem} {t s : Nat} {K Q : List Wi} (h1 : s ≠ t) (h2 : s ≠ t + 1) (h3 : s + 1 ≠ t) (hL : lnC (t + 1) = 48) (hLs : lnC (s + 1) = 48) (hK : K.length + Q.length ≤ 12) (ct : CW W t K) (cs : CW W s Q) (h12 : W t 0 = 12) :
    ∃ W', F_X4_addAll t s W = some ((), W') ∧ CW W' t (K ++ Q) ∧ FC t W W' := by
  obtain ⟨W', f, c, fr⟩ := addAll_loop (W0 := W) h1 h2 h3 hL hLs (by omega) (k := fun w9 => some ((), w9)) Q.length 0 300 K W (by omega) (by omega) hK ct cs h12 (FC.refl t W)
  rw [List.drop_zero] at c
  exact ⟨W', f, c, fr⟩
theorem mcp_ne {w : Mem} {f : Nat → Int32} {sp a dp n i : Nat} (h : i ≠ a) : mcp w f sp a dp n i = w i := by
  unfold mcp
  rw [if_neg h]
theorem mcp_at {w : Mem} {f : Nat → Int32} {a n k : Nat} (h : k < n) : mcp w f 0 a 0 n a k = f k := by
  unfold mcp va_cpy
  rw [if_pos rfl, if_pos (by omega), show 0 + (k - 0) = k by omega]
def blW (W : Mem) : Mem := mcp (mcp (mcp (mcp (mcp W (W 2) 0 15 0 7) (W 3) 0 16 0 3) (W 4) 0 17 0 3) (W 5) 0 18 0 3) (W 6) 0 19 0 3
theorem blW_o {W : Mem} {i : Nat} (h : i < 15 ∨ 19 < i) : blW W i = W i := by
  unfold blW
  rw [mcp_ne (by omega), mcp_ne (by omega), mcp_ne (by omega), mcp_ne (by omega), mcp_ne (by omega)]
theorem blW_s {W : Mem} {k : Nat} (h : k < 7) : blW W 15 k = W 2 k := by
  unfold blW
  rw [mcp_ne (by decide), mcp_ne (by decide), mcp_ne (by decide), mcp_ne (by decide), mcp_at h]
theorem blW_v {W : Mem} {l : Nat} (h : l < 3) : blW W 16 l = W 3 l ∧ blW W 17 l = W 4 l ∧ blW W 18 l = W 5 l ∧ blW W 19 l = W 6 l := by
  unfold blW
  refine ⟨?_, ?_, ?_, ?_⟩
  · rw [mcp_ne (by decide), mcp_ne (by decide), mcp_ne (by decide), mcp_at h]
  · rw [mcp_ne (by decide), mcp_ne (by decide), mcp_at h]
  · rw [mcp_ne (by decide), mcp_at h]
  · rw [mcp_at h]
theorem become_e {W V : Mem} (h : RD 1 W V) (h20 : W 20 0 = 12) : ∃ W', F_X0_becomeLike 14 1 W = some ((), W') ∧ RD 14 W' V ∧ FD 14 W W' := by
  obtain ⟨Q, hQ, c, m, ok⟩ := h.Q
  have c7 : CW (mst (blW W) 20 2 0) 7 Q := CW.of (W := W) c (by rw [ms_ne (by decide), blW_o (by decide)]) (by rw [ms_ne (by decide), blW_o (by decide)])
  have c20 : CW (mst (blW W) 20 2 0) 20 [] := ⟨by rw [ms_eq, upd_eq]; rfl, fun i hi => absurd hi (by simp)⟩
  have k20 : (mst (blW W) 20 2 0) 20 0 = 12 := by rw [ms_eq, upd_ne (by decide), blW_o (by decide), h20]
  obtain ⟨W9, f9, c9, r9⟩ := addAll_e (t := 20) (s := 7) (K := []) (by decide) (by decide) (by decide) rfl rfl (by simpa using hQ) c20 c7 k20
  rw [List.nil_append] at c9
  have o9 : ∀ i, i ≠ 20 → i ≠ 21 → W9 i = blW W i := fun i h1 h2 => by rw [r9.1 i h1 h2, ms_ne h1]
  have o : ∀ i, i ≠ 14 → i ≠ 20 → i ≠ 21 → mst W9 14 7 (W9 1 7) i = blW W i := fun i h0 h1 h2 => by rw [ms_ne h0, o9 i h1 h2]
  refine ⟨mst W9 14 7 (W9 1 7), ?_, ?_, ?_⟩
  · unfold F_X0_becomeLike
    simp only [lt_m, Nat.reduceAdd, mcp_ne (show 3 ≠ 15 by decide), mcp_ne (show 4 ≠ 15 by decide), mcp_ne (show 4 ≠ 16 by decide), mcp_ne (show 5 ≠ 15 by decide), mcp_ne (show 5 ≠ 16 by decide), mcp_ne (show 5 ≠ 17 by decide), mcp_ne (show 6 ≠ 15 by decide), mcp_ne (show 6 ≠ 16 by decide), mcp_ne (show 6 ≠ 17 by decide), mcp_ne (show 6 ≠ 18 by decide), cut0_e, bd_m]
    rw [show F_X4_addAll 20 7 (mst (mcp (mcp (mcp (mcp (mcp W (W 2) 0 15 0 7) (W 3) 0 16 0 3) (W 4) 0 17 0 3) (W 5) 0 18 0 3) (W 6) 0 19 0 3) 20 2 0) = some ((), W9) from f9, bd_m]
  · refine ⟨⟨fun k hk => ?_, h.1.2⟩, fun l hl => ?_, ?_, ?_, ?_⟩
    · show mst W9 14 7 (W9 1 7) 15 k = _
      rw [o 15 (by decide) (by decide) (by decide), blW_s hk]
      exact h.1.1 k hk
    · show (mst W9 14 7 (W9 1 7) 16 l = _ ∧ _) ∧ (mst W9 14 7 (W9 1 7) 17 l = _ ∧ _) ∧ (mst W9 14 7 (W9 1 7) 18 l = _ ∧ _) ∧ (mst W9 14 7 (W9 1 7) 19 l = _ ∧ _)
      obtain ⟨b1, b2, b3, b4⟩ := blW_v (W := W) hl
      rw [o 16 (by decide) (by decide) (by decide), o 17 (by decide) (by decide) (by decide), o 18 (by decide) (by decide) (by decide), o 19 (by decide) (by decide) (by decide), b1, b2, b3, b4]
      exact h.2.1 l hl
    · rw [ms_eq, upd_eq, o9 1 (by decide) (by decide), blW_o (by decide)]
      exact h.2.2.1
    · exact RQ_of (t := 20) hQ (c9.of (ms_ne (by decide)) (ms_ne (by decide))) m ok
    · show mst W9 14 7 (W9 1 7) 20 0 = 12
      rw [ms_ne (by decide), r9.2, k20]
  · intro i hi
    rw [o i (by omega) (by omega) (by omega), blW_o (by omega)]
theorem RD.part {W V : Mem} (h : RD 14 W V) {p : Int32} (hp : 0 ≤ p.toInt ∧ p.toInt ≤ 20) : RD 14 (mst W 15 4 p) (mst V 2 4 p) := by
  obtain ⟨r1, r2, r3, r4, r5⟩ := h
  have s1 : RS (upd (W 15) 4 p) (upd (V 2) 4 p) := by
    obtain ⟨h0, h1, h2, h3, h4, h5, h6⟩ := r1.2
    exact r1.up (n := 4) (v := p) ⟨h0, h1, h2, h3, hp, h5, h6⟩
  unfold RD
  simp only [Nat.reduceAdd]
  rw [ms_eq, ms_ne (show 16 ≠ 15 by decide), ms_ne (show 17 ≠ 15 by decide), ms_ne (show 18 ≠ 15 by decide), ms_ne (show 19 ≠ 15 by decide), ms_ne (show 14 ≠ 15 by decide), ms_ne (show 20 ≠ 15 by decide), ms_ne (show 21 ≠ 15 by decide), ms_eq, ms_ne (show 4 ≠ 2 by decide), ms_ne (show 3 ≠ 2 by decide), ms_ne (show 5 ≠ 2 by decide), ms_ne (show 6 ≠ 2 by decide), ms_ne (show 0 ≠ 2 by decide), ms_ne (show 7 ≠ 2 by decide), ms_ne (show 8 ≠ 2 by decide), ms_ne (show 9 ≠ 2 by decide)]
  exact ⟨s1, r2, r3, r4, r5⟩
