/-! steering -/
def wb (x b : Int32) : Int32 := if x ≤ b then (if -b ≤ x then x else -b) else b
theorem within7_e (x b : Int32) (w : Mem) : F_X7_within x b w = some (wb x b, w) := by
  unfold F_X7_within wb
  split <;> (try split) <;> rfl
theorem wb_pw (x b c : Int32) (h : c = -b) (hc : c.toInt = -b.toInt) (hb : 0 ≤ b.toInt) : wb x b = pw x c b := by
  refine i_ext ?_
  rw [pw_i, hc]
  unfold wb
  rw [← h]
  simp only [Int32.le_iff_toInt_le, hc]
  split
  · split
    · omega
    · rw [hc]; omega
  · omega
def flg (e s : Int32) : Int32 := if e ≤ 0 then (if 0 ≤ e then 0 else if 0 ≤ s then 0 else 1) else if 0 < s then 1 else (if 0 ≤ e then 0 else if 0 ≤ s then 0 else 1)
def sS (a e s : Int32) : Int32 := if a = 0 then pw (s + e) (-5000) 5000 else if flg e s = 0 then pw (s + e) (-5000) 5000 else s
def sU (e p i s : Int32) : Int32 := pw (e * p / 16 + s * i / 64) (-200) 200
def stW (d : Nat) (a : Int32) (l : Nat) (W : Mem) : Mem := mst (mst W (d + 5) l (sS a (W (d + 4) l - W (d + 3) l) (W (d + 5) l))) (d + 2) l (sU (W (d + 4) l - W (d + 3) l) (W (d + 1) 4) (W (d + 1) 5) (sS a (W (d + 4) l - W (d + 3) l) (W (d + 5) l)))
def stV (a : Int32) (l : Nat) (V : Mem) : Mem := mst (mst V 6 l (sS a (V 5 l - V 3 l) (V 6 l))) 4 l (sU (V 5 l - V 3 l) (V 2 4) (V 2 5) (sS a (V 5 l - V 3 l) (V 6 l)))
theorem ms_self (W : Mem) (i k : Nat) : mst W i k (W i k) = W := by
  funext j
  unfold mst
  split
  · next e => rw [e, upd_self]
  · rfl
theorem steer_step {d l : Nat} {a : Int32} {k : Mem → Option (Unit × Mem)} {F : Nat} {W : Mem} (hl : l < 3) : L_X0_steer_32 d a k (F + 1) (nI l) W = L_X0_steer_32 d a k F (nI (l + 1)) (stW d a l W) := by
  have hc : ∀ v, (mst W (d + 5) l v) (d + 1) = W (d + 1) := fun v => ms_ne (by omega)
  have h5 : ∀ v, (mst W (d + 5) l v) (d + 5) l = v := fun v => by rw [ms_eq, upd_eq]
  have se := ms_self W (d + 5) l
  rw [L_X0_steer_32, if_neg (by rw [show (3 : Int32) = nI 3 from rfl, nI_lek (by omega) (by omega)]; omega)]
  unfold stW
  simp only [inb_nI hl (by decide), gd_t, ix_nI (show l < 2 ^ 31 by omega), lt_m, jn_m, pulled_e, bd_m, nI_p1, hc, h5]
  generalize W (d + 4) l - W (d + 3) l = e
  generalize hs : W (d + 5) l = s at se
  unfold sS sU flg
  by_cases c1 : e ≤ 0 <;> by_cases c2 : 0 ≤ e <;> by_cases c3 : 0 ≤ s <;> by_cases c4 : 0 < s <;> by_cases c5 : a = 0 <;> simp [c1, c2, c3, c4, c5, se]
theorem steers_step {l : Nat} {a : Int32} {k : Mem → Option (Unit × Mem)} {F : Nat} {V : Mem} (hl : l < 3) : L_X7_steers_11 a k (F + 1) (nI l) V = L_X7_steers_11 a k F (nI (l + 1)) (stV a l V) := by
  have hc : ∀ v, (mst V 6 l v) 2 = V 2 := fun v => ms_ne (by omega)
  have h5 : ∀ v, (mst V 6 l v) 6 l = v := fun v => by rw [ms_eq, upd_eq]
  rw [L_X7_steers_11, if_neg (by rw [show (3 : Int32) = nI 3 from rfl, nI_lek (by omega) (by omega)]; omega)]
  unfold stV
  simp only [inb_nI hl (by decide), gd_t, ix_nI (show l < 2 ^ 31 by omega), lt_m, jn_m, within7_e, wb_pw _ 5000 (-5000) (by decide) (by decide) (by decide), wb_pw _ 200 (-200) (by decide) (by decide) (by decide), bd_m, nI_p1, hc, h5]
  generalize V 5 l - V 3 l = e
  generalize V 6 l = s
  unfold sS sU flg
  by_cases c1 : e ≤ 0 <;> by_cases c2 : 0 ≤ e <;> by_cases c3 : 0 ≤ s <;> by_cases c4 : 0 < s <;> by_cases c5 : a = 0 <;> simp [c1, c2, c3, c4, c5]
def stWs (d : Nat) (W : Mem) : Mem := stW d (ov32 (gr32 (W (d + 2)) - ls32 (W (d + 2))) (W (d + 1) 0)) 2 (stW d (ov32 (gr32 (W (d + 2)) - ls32 (W (d + 2))) (W (d + 1) 0)) 1 (stW d (ov32 (gr32 (W (d + 2)) - ls32 (W (d + 2))) (W (d + 1) 0)) 0 W))
theorem steer_e (d : Nat) (W : Mem) : F_X0_steer d W = some ((), stWs d W) := by
  unfold F_X0_steer F_X6_greatestOf F_X6_leastOf
  rw [bd_m, bd_m, jn_ite, show (300 : Nat) = 296 + 1 + 1 + 1 + 1 from rfl, ← z0, steer_step (by decide), steer_step (by decide), steer_step (by decide), L_X0_steer_32, if_pos (by decide)]
  rfl
