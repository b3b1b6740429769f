/-! THE PLAN: what each side computes, in ints -/
def dc32 (N S ov x : Int32) : Int32 := if ov = 0 then x else if S ≤ 0 then x else x * N / S
theorem nz_of {S : Int32} (h : ¬ S ≤ 0) : nz S = true := by
  simp only [nz, Bool.not_eq_true', decide_eq_false_iff_not]
  rintro rfl
  exact h (by decide)
theorem dc_e (p : Nat) (x : Int32) (w : Mem) : F_X1_demandThatCounts p x w = some (dc32 (w p 0) (w p 3) (w p 4) x, w) := by
  unfold F_X1_demandThatCounts dc32
  split
  · rfl
  · split
    · rfl
    · rename_i h
      rw [nz_of h, gd_t]
def pw (a b c : Int32) : Int32 := imax b (imin c a)
theorem pulled_e (a b c : Int32) (w : Mem) : F_X6_pulledWithin a b c w = some (pw a b c, w) := rfl
def hi32 (N d c un cur : Int32) : Int32 := if c = 0 then un else if cur = 0 then un else pw (un + (if cur ≤ 0 then -d else d)) 0 N
theorem hwd_e {p l : Nat} (hl : l < 3) (d : Int32) (w : Mem) : F_X1_highWithDead p (nI l) d w = some (hi32 (w p 0) d (w p 2) (w (p + 1) l) (w (p + 4) l), w) := by
  unfold F_X1_highWithDead hi32
  simp only [inb_nI hl (by decide), gd_t, ix_nI (show l < 2 ^ 31 by omega), jn_m, pulled_e, bd_m]
  split
  · rfl
  · split
    · rfl
    · split <;> rfl
def un32 (N S ov mid x : Int32) : Int32 := pw ((N + 2 * dc32 N S ov x - mid) / 2) 0 N
def mkW (d l : Nat) (mid : Int32) (w : Mem) : Mem :=
  let un := un32 (w (d + 8) 0) (w (d + 8) 3) (w (d + 8) 4) mid (w (d + 2) l)
  let hi := hi32 (w (d + 8) 0) (w (d + 8) 1) (w (d + 8) 2) un (w (d + 3) l)
  mst (mst (mst (mst w (d + 12) l (w (d + 3) l)) (d + 9) l un) (d + 10) l hi) (d + 11) l ((w (d + 8) 0 - hi) / 2)
theorem make_step {d l N : Nat} {mid : Int32} {k : Mem → Option (Unit × Mem)} {w : Mem} (hl : l < 3) : L_X1_make_89 (d + 8) (d + 2) (d + 3) mid k (N + 1) (nI l) w = L_X1_make_89 (d + 8) (d + 2) (d + 3) mid k N (nI (l + 1)) (mkW d l mid w) := by
  rw [L_X1_make_89, if_neg (by rw [show (3 : Int32) = nI 3 from rfl, nI_lek (by decide) (by omega)]; omega)]
  have e2 : (2 : Int32) ≠ 0 := by decide
  simp only [inb_nI hl (by decide), gd_t, lt_m, ix_nI (show l < 2 ^ 31 by omega), nI_p1, dc_e, bd_m, pulled_e, hwd_e hl]
  have f1 : (mst w (d + 8 + 4) l (w (d + 3) l)) (d + 2) = w (d + 2) := mst_ne _ _ _ (by omega)
  have f2 : (mst w (d + 8 + 4) l (w (d + 3) l)) (d + 8) = w (d + 8) := mst_ne _ _ _ (by omega)
  simp only [f1, f2]
  have g1 : ∀ v : Int32, (mst (mst w (d + 8 + 4) l (w (d + 3) l)) (d + 8 + 1) l v) (d + 8) = w (d + 8) := fun v => by rw [mst_ne _ _ _ (by omega), f2]
  have g2 : ∀ v : Int32, (mst (mst w (d + 8 + 4) l (w (d + 3) l)) (d + 8 + 1) l v) (d + 8 + 1) l = v := fun v => by rw [mst_self]; simp [upd]
  have g3 : ∀ v : Int32, (mst (mst w (d + 8 + 4) l (w (d + 3) l)) (d + 8 + 1) l v) (d + 8 + 4) l = w (d + 3) l := fun v => by rw [mst_ne _ _ _ (by omega), mst_self]; simp [upd]
  simp only [g1, g2, g3]
  have k1 : ∀ v x : Int32, (mst (mst (mst w (d + 8 + 4) l (w (d + 3) l)) (d + 8 + 1) l v) (d + 8 + 2) l x) (d + 8) = w (d + 8) := fun v x => by rw [mst_ne _ _ _ (by omega), g1]
  have k2 : ∀ v x : Int32, (mst (mst (mst w (d + 8 + 4) l (w (d + 3) l)) (d + 8 + 1) l v) (d + 8 + 2) l x) (d + 8 + 2) l = x := fun v x => by rw [mst_self]; simp [upd]
  simp only [k1, k2]
  rfl
theorem make_end {p q2 q3 : Nat} {mid : Int32} {k : Mem → Option (Unit × Mem)} {N : Nat} {w : Mem} : L_X1_make_89 p q2 q3 mid k (N + 1) (nI 3) w = k w := by
  rw [L_X1_make_89, if_pos (by decide)]
def gr32 (f : Nat → Int32) : Int32 := imax (f 0) (imax (f 1) (f 2))
def ls32 (f : Nat → Int32) : Int32 := imin (f 0) (imin (f 1) (f 2))
def ov32 (S N : Int32) : Int32 := if S ≤ N then 0 else 1
def hdW (d : Nat) (w : Mem) : Mem :=
  let S := gr32 (w (d + 2)) - ls32 (w (d + 2))
  mst (mst (mst (mst (mst w (d + 8) 0 (w (d + 1) 0)) (d + 8) 1 (w (d + 1) 1)) (d + 8) 2 (if w (d + 1) 2 = 1 then 1 else 0)) (d + 8) 3 S) (d + 8) 4 (ov32 S (w (d + 1) 0))
def md32 (d : Nat) (w : Mem) : Int32 :=
  let S := gr32 (w (d + 2)) - ls32 (w (d + 2))
  dc32 (w (d + 1) 0) S (ov32 S (w (d + 1) 0)) (gr32 (w (d + 2))) + dc32 (w (d + 1) 0) S (ov32 S (w (d + 1) 0)) (ls32 (w (d + 2)))
def plW (d : Nat) (w : Mem) : Mem := mkW d 2 (md32 d w) (mkW d 1 (md32 d w) (mkW d 0 (md32 d w) (hdW d w)))
theorem bz_ite {c : Prop} [Decidable c] : bz (if c then (1 : Int32) else 0) = true := by split <;> rfl
theorem bz_ov {S N : Int32} : bz (ov32 S N) = true := by unfold ov32; split <;> rfl
theorem upd_ne {f : Nat → Int32} {k j : Nat} {v : Int32} (h : j ≠ k) : upd f k v j = f j := by simp [upd, h]
theorem upd_eq {f : Nat → Int32} {k : Nat} {v : Int32} : upd f k v k = v := by simp [upd]
theorem jn_ite {β : Type} {c : Prop} [Decidable c] {A : Int32 → Option β} {a b : Int32} : jn A (fun k => if c then k a else k b) = A (if c then a else b) := by
  unfold jn
  split <;> rfl
theorem bz_ite' {c : Prop} [Decidable c] : bz (if c then (0 : Int32) else 1) = true := by split <;> rfl
theorem makePlan_e (d : Nat) (w : Mem) : F_X0_makePlan d w = some ((), plW d w) := by
  unfold F_X0_makePlan F_X1_make
  simp only [lt_m, jn_ite, F_X6_greatestOf, F_X6_leastOf, bd_m, bz_ite, bz_ite', gd_t, dc_e]
  have h1 : ∀ (a b : Int32), (mst (mst w (d + 8) 0 a) (d + 8) 1 b) (d + 1) = w (d + 1) := fun a b => by rw [mst_ne _ _ _ (by omega), mst_ne _ _ _ (by omega)]
  have h0 : ∀ (a : Int32), (mst w (d + 8) 0 a) (d + 1) = w (d + 1) := fun a => mst_ne _ _ _ (by omega)
  have h2 : ∀ (a b c : Int32), (mst (mst (mst w (d + 8) 0 a) (d + 8) 1 b) (d + 8) 2 c) (d + 2) = w (d + 2) := fun a b c => by rw [mst_ne _ _ _ (by omega), mst_ne _ _ _ (by omega), mst_ne _ _ _ (by omega)]
  have h3 : ∀ (a b c e : Int32), (mst (mst (mst (mst w (d + 8) 0 a) (d + 8) 1 b) (d + 8) 2 c) (d + 8) 3 e) (d + 8) 3 = e := fun a b c e => by rw [mst_self, upd_eq]
  have h4 : ∀ (a b c e : Int32), (mst (mst (mst (mst w (d + 8) 0 a) (d + 8) 1 b) (d + 8) 2 c) (d + 8) 3 e) (d + 8) 0 = a := fun a b c e => by rw [mst_self, upd_ne (by decide), mst_self, upd_ne (by decide), mst_self, upd_ne (by decide), mst_self, upd_eq]
  simp only [h0, h1, h2, h3, h4]
  have m0 : (hdW d w) (d + 8) 0 = w (d + 1) 0 := by simp only [hdW]; rw [mst_self, upd_ne (by decide), mst_self, upd_ne (by decide), mst_self, upd_ne (by decide), mst_self, upd_ne (by decide), mst_self, upd_eq]
  have m3 : (hdW d w) (d + 8) 3 = gr32 (w (d + 2)) - ls32 (w (d + 2)) := by simp only [hdW]; rw [mst_self, upd_ne (by decide), mst_self, upd_eq]
  have m4 : (hdW d w) (d + 8) 4 = ov32 (gr32 (w (d + 2)) - ls32 (w (d + 2))) (w (d + 1) 0) := by simp only [hdW]; rw [mst_self, upd_eq]
  show bd (L_X1_make_89 (d + 8) (d + 2) (d + 3) (dc32 ((hdW d w) (d + 8) 0) ((hdW d w) (d + 8) 3) ((hdW d w) (d + 8) 4) (gr32 (w (d + 2))) + dc32 ((hdW d w) (d + 8) 0) ((hdW d w) (d + 8) 3) ((hdW d w) (d + 8) 4) (ls32 (w (d + 2)))) (fun w46 => some ((), w46)) (299 + 1) (nI 0) (hdW d w)) _ = _
  rw [m0, m3, m4]
  show bd (L_X1_make_89 (d + 8) (d + 2) (d + 3) (md32 d w) _ (299 + 1) (nI 0) (hdW d w)) _ = _
  rw [make_step (by decide)]
  show bd (L_X1_make_89 (d + 8) (d + 2) (d + 3) (md32 d w) _ (298 + 1) (nI 1) _) _ = _
  rw [make_step (by decide)]
  show bd (L_X1_make_89 (d + 8) (d + 2) (d + 3) (md32 d w) _ (297 + 1) (nI 2) _) _ = _
  rw [make_step (by decide)]
  show bd (L_X1_make_89 (d + 8) (d + 2) (d + 3) (md32 d w) _ (296 + 1) (nI 3) _) _ = _
  rw [make_end]
  rfl
