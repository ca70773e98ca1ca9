/-! a Doze of the program that stands for a page w: positions a .. a + 4 -/
def lf (b : Nat) (w : Nat → Int32) : Nat → Int32 := fun k => if k < 9 then w (b + k) else 0
def dzO (a : Nat) (mg : Int32) (w : Nat → Int32) : List Value := [.ref (a + 1), .ref (a + 3), .int mg, .int (w 9), .int (w 10), .int (w 0), .int (w 1), .int (w 2), .int (w 3), .int (w 4), .int (w 5), .int (w 6), .int (w 7), .int (w 8)]
def dzS (b : Nat) (w : Nat → Int32) (p : Nat) : List Value := [.int (w b), .int (w (b + 1)), .int (w (b + 2)), .int (w (b + 3)), .int (w (b + 4)), .ref p]
def dz (F : Hp) (a : Nat) (mg : Int32) (w : Nat → Int32) : Hp := fun k =>
  if k = a then .inr (1, dzO a mg w)
  else if k = a + 1 then .inr (3, dzS 11 w (a + 2))
  else if k = a + 2 then .inl (0, 9, .inl (lf 16 w))
  else if k = a + 3 then .inr (3, dzS 25 w (a + 4))
  else if k = a + 4 then .inl (0, 9, .inl (lf 30 w))
  else F k
theorem dz_a (F : Hp) (a : Nat) (mg : Int32) (w : Nat → Int32) : dz F a mg w a = .inr (1, dzO a mg w) := by simp [dz]
theorem dz_s (F : Hp) (a : Nat) (mg : Int32) (w : Nat → Int32) {e : Nat} (he : e = 0 ∨ e = 1) : dz F a mg w (a + 1 + 2 * e) = .inr (3, dzS (11 + 14 * e) w (a + 2 + 2 * e)) := by
  rcases he with rfl | rfl
  · simp [dz]
  · have h1 : ¬ a + 1 + 2 * 1 = a := by omega
    have h2 : ¬ a + 1 + 2 * 1 = a + 1 := by omega
    have h3 : ¬ a + 1 + 2 * 1 = a + 2 := by omega
    have h4 : a + 1 + 2 * 1 = a + 3 := by omega
    unfold dz
    rw [if_neg h1, if_neg h2, if_neg h3, if_pos h4]
theorem dz_l (F : Hp) (a : Nat) (mg : Int32) (w : Nat → Int32) {e : Nat} (he : e = 0 ∨ e = 1) : dz F a mg w (a + 2 + 2 * e) = .inl (0, 9, .inl (lf (16 + 14 * e) w)) := by
  rcases he with rfl | rfl
  · simp [dz]
  · have h1 : ¬ a + 2 + 2 * 1 = a := by omega
    have h2 : ¬ a + 2 + 2 * 1 = a + 1 := by omega
    have h3 : ¬ a + 2 + 2 * 1 = a + 2 := by omega
    have h4 : ¬ a + 2 + 2 * 1 = a + 3 := by omega
    have h5 : a + 2 + 2 * 1 = a + 4 := by omega
    unfold dz
    rw [if_neg h1, if_neg h2, if_neg h3, if_neg h4, if_pos h5]
theorem dz_n {F : Hp} {a : Nat} {mg : Int32} {w : Nat → Int32} {k : Nat} (h : k < a ∨ a + 5 ≤ k) : dz F a mg w k = F k := by
  unfold dz
  rw [if_neg (by omega), if_neg (by omega), if_neg (by omega), if_neg (by omega), if_neg (by omega)]
theorem lf_n (b : Nat) (w : Nat → Int32) {i : Nat} (x : Int32) (h : i < b ∨ b + 9 ≤ i) : lf b (upd w i x) = lf b w := by
  funext k
  unfold lf
  by_cases hk : k < 9
  · rw [if_pos hk, if_pos hk, upd_n _ _ (by omega)]
  · rw [if_neg hk, if_neg hk]
theorem lf_u (b : Nat) (w : Nat → Int32) {k : Nat} (x : Int32) (hk : k < 9) : lf b (upd w (b + k) x) = upd (lf b w) k x := by
  funext j
  unfold lf
  by_cases hj : j = k
  · subst hj
    rw [if_pos hk, upd_s, upd_s]
  · rw [upd_n _ _ hj]
    by_cases h9 : j < 9
    · rw [if_pos h9, if_pos h9, upd_n _ _ (by omega)]
    · rw [if_neg h9, if_neg h9]
theorem dzS_n (b : Nat) (w : Nat → Int32) (p : Nat) {i : Nat} (x : Int32) (h : i < b ∨ b + 5 ≤ i) : dzS b (upd w i x) p = dzS b w p := by
  unfold dzS
  rw [upd_n _ _ (by omega), upd_n _ _ (by omega), upd_n _ _ (by omega), upd_n _ _ (by omega), upd_n _ _ (by omega)]
theorem dzO_n (a : Nat) (mg : Int32) (w : Nat → Int32) {i : Nat} (x : Int32) (h : 11 ≤ i) : dzO a mg (upd w i x) = dzO a mg w := by
  unfold dzO
  rw [upd_n _ _ (by omega), upd_n _ _ (by omega), upd_n _ _ (by omega), upd_n _ _ (by omega), upd_n _ _ (by omega), upd_n _ _ (by omega), upd_n _ _ (by omega), upd_n _ _ (by omega), upd_n _ _ (by omega), upd_n _ _ (by omega), upd_n _ _ (by omega)]
/-- two canonical heaps are one, if their parts are -/
theorem dz_up {F : Hp} {a : Nat} {mg mg' : Int32} {w w' : Nat → Int32} {p : Nat} {v : va_E} (hp : dz F a mg' w' p = v) (ha : p ≠ a → dzO a mg' w' = dzO a mg w) (h1 : p ≠ a + 1 → dzS 11 w' (a + 2) = dzS 11 w (a + 2)) (h2 : p ≠ a + 2 → lf 16 w' = lf 16 w) (h3 : p ≠ a + 3 → dzS 25 w' (a + 4) = dzS 25 w (a + 4)) (h4 : p ≠ a + 4 → lf 30 w' = lf 30 w) (hr : a ≤ p ∧ p < a + 5) : va_up (dz F a mg w) p v = dz F a mg' w' := by
  funext k
  by_cases hk : k = p
  · subst hk; rw [va_up_self, hp]
  · rw [va_up_ne _ _ hk]
    unfold dz
    by_cases c0 : k = a
    · rw [if_pos c0, if_pos c0, ha (by omega)]
    · rw [if_neg c0, if_neg c0]
      by_cases c1 : k = a + 1
      · rw [if_pos c1, if_pos c1, h1 (by omega)]
      · rw [if_neg c1, if_neg c1]
        by_cases c2 : k = a + 2
        · rw [if_pos c2, if_pos c2, h2 (by omega)]
        · rw [if_neg c2, if_neg c2]
          by_cases c3 : k = a + 3
          · rw [if_pos c3, if_pos c3, h3 (by omega)]
          · rw [if_neg c3, if_neg c3]
            by_cases c4 : k = a + 4
            · rw [if_pos c4, if_pos c4, h4 (by omega)]
            · rw [if_neg c4, if_neg c4]
section DZ
variable (F : Hp) (a : Nat) (mg : Int32) (w : Nat → Int32)
theorem dz_isO : isO (dz F a mg w) a 1 = true := by simp [isO, dz_a]
theorem dz_isS {e : Nat} (he : e = 0 ∨ e = 1) : isO (dz F a mg w) (a + 1 + 2 * e) 3 = true := by simp [isO, dz_s F a mg w he]
theorem dz_g0 : gR (dz F a mg w) a 1 0 = some (a + 1) := by simp only [gR, gV, dz_a]; rfl
theorem dz_g1 : gR (dz F a mg w) a 1 1 = some (a + 3) := by simp only [gR, gV, dz_a]; rfl
theorem dz_g2 : gI (dz F a mg w) a 1 2 = some mg := by simp only [gI, gV, dz_a]; rfl
theorem dz_g3 : gI (dz F a mg w) a 1 3 = some (w 9) := by simp only [gI, gV, dz_a]; rfl
theorem dz_p3 (x : Int32) : pV (dz F a mg w) a 1 3 (.int x) = some (dz F a mg (upd w 9 x)) := by
  have hl : 3 < (dzO a mg w).length := by unfold dzO; simp
  simp only [pV, dz_a, true_and, hl, if_true]
  exact congrArg some (dz_up (by rw [dz_a]; rfl) (fun h => absurd rfl h) (fun _ => dzS_n 11 w _ x (by omega)) (fun _ => lf_n 16 w x (by omega)) (fun _ => dzS_n 25 w _ x (by omega)) (fun _ => lf_n 30 w x (by omega)) (by omega))
theorem dz_g4 : gI (dz F a mg w) a 1 4 = some (w 10) := by simp only [gI, gV, dz_a]; rfl
theorem dz_p4 (x : Int32) : pV (dz F a mg w) a 1 4 (.int x) = some (dz F a mg (upd w 10 x)) := by
  have hl : 4 < (dzO a mg w).length := by unfold dzO; simp
  simp only [pV, dz_a, true_and, hl, if_true]
  exact congrArg some (dz_up (by rw [dz_a]; rfl) (fun h => absurd rfl h) (fun _ => dzS_n 11 w _ x (by omega)) (fun _ => lf_n 16 w x (by omega)) (fun _ => dzS_n 25 w _ x (by omega)) (fun _ => lf_n 30 w x (by omega)) (by omega))
theorem dz_g5 : gI (dz F a mg w) a 1 5 = some (w 0) := by simp only [gI, gV, dz_a]; rfl
theorem dz_p5 (x : Int32) : pV (dz F a mg w) a 1 5 (.int x) = some (dz F a mg (upd w 0 x)) := by
  have hl : 5 < (dzO a mg w).length := by unfold dzO; simp
  simp only [pV, dz_a, true_and, hl, if_true]
  exact congrArg some (dz_up (by rw [dz_a]; rfl) (fun h => absurd rfl h) (fun _ => dzS_n 11 w _ x (by omega)) (fun _ => lf_n 16 w x (by omega)) (fun _ => dzS_n 25 w _ x (by omega)) (fun _ => lf_n 30 w x (by omega)) (by omega))
theorem dz_g6 : gI (dz F a mg w) a 1 6 = some (w 1) := by simp only [gI, gV, dz_a]; rfl
theorem dz_p6 (x : Int32) : pV (dz F a mg w) a 1 6 (.int x) = some (dz F a mg (upd w 1 x)) := by
  have hl : 6 < (dzO a mg w).length := by unfold dzO; simp
  simp only [pV, dz_a, true_and, hl, if_true]
  exact congrArg some (dz_up (by rw [dz_a]; rfl) (fun h => absurd rfl h) (fun _ => dzS_n 11 w _ x (by omega)) (fun _ => lf_n 16 w x (by omega)) (fun _ => dzS_n 25 w _ x (by omega)) (fun _ => lf_n 30 w x (by omega)) (by omega))
theorem dz_g7 : gI (dz F a mg w) a 1 7 = some (w 2) := by simp only [gI, gV, dz_a]; rfl
theorem dz_p7 (x : Int32) : pV (dz F a mg w) a 1 7 (.int x) = some (dz F a mg (upd w 2 x)) := by
  have hl : 7 < (dzO a mg w).length := by unfold dzO; simp
  simp only [pV, dz_a, true_and, hl, if_true]
  exact congrArg some (dz_up (by rw [dz_a]; rfl) (fun h => absurd rfl h) (fun _ => dzS_n 11 w _ x (by omega)) (fun _ => lf_n 16 w x (by omega)) (fun _ => dzS_n 25 w _ x (by omega)) (fun _ => lf_n 30 w x (by omega)) (by omega))
theorem dz_g8 : gI (dz F a mg w) a 1 8 = some (w 3) := by simp only [gI, gV, dz_a]; rfl
theorem dz_p8 (x : Int32) : pV (dz F a mg w) a 1 8 (.int x) = some (dz F a mg (upd w 3 x)) := by
  have hl : 8 < (dzO a mg w).length := by unfold dzO; simp
  simp only [pV, dz_a, true_and, hl, if_true]
  exact congrArg some (dz_up (by rw [dz_a]; rfl) (fun h => absurd rfl h) (fun _ => dzS_n 11 w _ x (by omega)) (fun _ => lf_n 16 w x (by omega)) (fun _ => dzS_n 25 w _ x (by omega)) (fun _ => lf_n 30 w x (by omega)) (by omega))
theorem dz_g9 : gI (dz F a mg w) a 1 9 = some (w 4) := by simp only [gI, gV, dz_a]; rfl
theorem dz_p9 (x : Int32) : pV (dz F a mg w) a 1 9 (.int x) = some (dz F a mg (upd w 4 x)) := by
  have hl : 9 < (dzO a mg w).length := by unfold dzO; simp
  simp only [pV, dz_a, true_and, hl, if_true]
  exact congrArg some (dz_up (by rw [dz_a]; rfl) (fun h => absurd rfl h) (fun _ => dzS_n 11 w _ x (by omega)) (fun _ => lf_n 16 w x (by omega)) (fun _ => dzS_n 25 w _ x (by omega)) (fun _ => lf_n 30 w x (by omega)) (by omega))
theorem dz_g10 : gI (dz F a mg w) a 1 10 = some (w 5) := by simp only [gI, gV, dz_a]; rfl
theorem dz_p10 (x : Int32) : pV (dz F a mg w) a 1 10 (.int x) = some (dz F a mg (upd w 5 x)) := by
  have hl : 10 < (dzO a mg w).length := by unfold dzO; simp
  simp only [pV, dz_a, true_and, hl, if_true]
  exact congrArg some (dz_up (by rw [dz_a]; rfl) (fun h => absurd rfl h) (fun _ => dzS_n 11 w _ x (by omega)) (fun _ => lf_n 16 w x (by omega)) (fun _ => dzS_n 25 w _ x (by omega)) (fun _ => lf_n 30 w x (by omega)) (by omega))
theorem dz_g11 : gI (dz F a mg w) a 1 11 = some (w 6) := by simp only [gI, gV, dz_a]; rfl
theorem dz_p11 (x : Int32) : pV (dz F a mg w) a 1 11 (.int x) = some (dz F a mg (upd w 6 x)) := by
  have hl : 11 < (dzO a mg w).length := by unfold dzO; simp
  simp only [pV, dz_a, true_and, hl, if_true]
  exact congrArg some (dz_up (by rw [dz_a]; rfl) (fun h => absurd rfl h) (fun _ => dzS_n 11 w _ x (by omega)) (fun _ => lf_n 16 w x (by omega)) (fun _ => dzS_n 25 w _ x (by omega)) (fun _ => lf_n 30 w x (by omega)) (by omega))
theorem dz_g12 : gI (dz F a mg w) a 1 12 = some (w 7) := by simp only [gI, gV, dz_a]; rfl
theorem dz_p12 (x : Int32) : pV (dz F a mg w) a 1 12 (.int x) = some (dz F a mg (upd w 7 x)) := by
  have hl : 12 < (dzO a mg w).length := by unfold dzO; simp
  simp only [pV, dz_a, true_and, hl, if_true]
  exact congrArg some (dz_up (by rw [dz_a]; rfl) (fun h => absurd rfl h) (fun _ => dzS_n 11 w _ x (by omega)) (fun _ => lf_n 16 w x (by omega)) (fun _ => dzS_n 25 w _ x (by omega)) (fun _ => lf_n 30 w x (by omega)) (by omega))
theorem dz_g13 : gI (dz F a mg w) a 1 13 = some (w 8) := by simp only [gI, gV, dz_a]; rfl
theorem dz_p13 (x : Int32) : pV (dz F a mg w) a 1 13 (.int x) = some (dz F a mg (upd w 8 x)) := by
  have hl : 13 < (dzO a mg w).length := by unfold dzO; simp
  simp only [pV, dz_a, true_and, hl, if_true]
  exact congrArg some (dz_up (by rw [dz_a]; rfl) (fun h => absurd rfl h) (fun _ => dzS_n 11 w _ x (by omega)) (fun _ => lf_n 16 w x (by omega)) (fun _ => dzS_n 25 w _ x (by omega)) (fun _ => lf_n 30 w x (by omega)) (by omega))
theorem dz_pZ (x : Int32) (hx : x = 0 ∨ x = 1) : pZ (dz F a mg w) a 1 2 x = some (dz F a x w) := by
  have hl : 2 < (dzO a mg w).length := by unfold dzO; simp
  simp only [pZ, hx, if_true, pV, dz_a, true_and, hl]
  exact congrArg some (dz_up (by rw [dz_a]; rfl) (fun h => absurd rfl h) (fun _ => rfl) (fun _ => rfl) (fun _ => rfl) (fun _ => rfl) (by omega))
theorem dz_sg0 {e : Nat} (he : e = 0 ∨ e = 1) : gI (dz F a mg w) (a + 1 + 2 * e) 3 0 = some (w (11 + 14 * e)) := by simp only [gI, gV, dz_s F a mg w he]; rfl
theorem dz_sp0 {e : Nat} (he : e = 0 ∨ e = 1) (x : Int32) : pV (dz F a mg w) (a + 1 + 2 * e) 3 0 (.int x) = some (dz F a mg (upd w (11 + 14 * e) x)) := by
  have hl : 0 < (dzS (11 + 14 * e) w (a + 2 + 2 * e)).length := by unfold dzS; simp
  simp only [pV, dz_s F a mg w he, true_and, hl, if_true]
  refine congrArg some (dz_up ?_ (fun _ => dzO_n a mg w x (by omega)) (fun _ => dzS_n 11 w _ x (by omega)) (fun _ => lf_n 16 w x (by omega)) (fun _ => dzS_n 25 w _ x (by omega)) (fun _ => lf_n 30 w x (by omega)) (by omega))
  rw [dz_s F a mg _ he]
  simp [dzS, upd]
theorem dz_sg1 {e : Nat} (he : e = 0 ∨ e = 1) : gI (dz F a mg w) (a + 1 + 2 * e) 3 1 = some (w (11 + 14 * e + 1)) := by simp only [gI, gV, dz_s F a mg w he]; rfl
theorem dz_sp1 {e : Nat} (he : e = 0 ∨ e = 1) (x : Int32) : pV (dz F a mg w) (a + 1 + 2 * e) 3 1 (.int x) = some (dz F a mg (upd w (11 + 14 * e + 1) x)) := by
  have hl : 1 < (dzS (11 + 14 * e) w (a + 2 + 2 * e)).length := by unfold dzS; simp
  simp only [pV, dz_s F a mg w he, true_and, hl, if_true]
  refine congrArg some (dz_up ?_ (fun _ => dzO_n a mg w x (by omega)) (fun _ => dzS_n 11 w _ x (by omega)) (fun _ => lf_n 16 w x (by omega)) (fun _ => dzS_n 25 w _ x (by omega)) (fun _ => lf_n 30 w x (by omega)) (by omega))
  rw [dz_s F a mg _ he]
  simp [dzS, upd]
theorem dz_sg2 {e : Nat} (he : e = 0 ∨ e = 1) : gI (dz F a mg w) (a + 1 + 2 * e) 3 2 = some (w (11 + 14 * e + 2)) := by simp only [gI, gV, dz_s F a mg w he]; rfl
theorem dz_sp2 {e : Nat} (he : e = 0 ∨ e = 1) (x : Int32) : pV (dz F a mg w) (a + 1 + 2 * e) 3 2 (.int x) = some (dz F a mg (upd w (11 + 14 * e + 2) x)) := by
  have hl : 2 < (dzS (11 + 14 * e) w (a + 2 + 2 * e)).length := by unfold dzS; simp
  simp only [pV, dz_s F a mg w he, true_and, hl, if_true]
  refine congrArg some (dz_up ?_ (fun _ => dzO_n a mg w x (by omega)) (fun _ => dzS_n 11 w _ x (by omega)) (fun _ => lf_n 16 w x (by omega)) (fun _ => dzS_n 25 w _ x (by omega)) (fun _ => lf_n 30 w x (by omega)) (by omega))
  rw [dz_s F a mg _ he]
  simp [dzS, upd]
theorem dz_sg3 {e : Nat} (he : e = 0 ∨ e = 1) : gI (dz F a mg w) (a + 1 + 2 * e) 3 3 = some (w (11 + 14 * e + 3)) := by simp only [gI, gV, dz_s F a mg w he]; rfl
theorem dz_sp3 {e : Nat} (he : e = 0 ∨ e = 1) (x : Int32) : pV (dz F a mg w) (a + 1 + 2 * e) 3 3 (.int x) = some (dz F a mg (upd w (11 + 14 * e + 3) x)) := by
  have hl : 3 < (dzS (11 + 14 * e) w (a + 2 + 2 * e)).length := by unfold dzS; simp
  simp only [pV, dz_s F a mg w he, true_and, hl, if_true]
  refine congrArg some (dz_up ?_ (fun _ => dzO_n a mg w x (by omega)) (fun _ => dzS_n 11 w _ x (by omega)) (fun _ => lf_n 16 w x (by omega)) (fun _ => dzS_n 25 w _ x (by omega)) (fun _ => lf_n 30 w x (by omega)) (by omega))
  rw [dz_s F a mg _ he]
  simp [dzS, upd]
theorem dz_sg4 {e : Nat} (he : e = 0 ∨ e = 1) : gI (dz F a mg w) (a + 1 + 2 * e) 3 4 = some (w (11 + 14 * e + 4)) := by simp only [gI, gV, dz_s F a mg w he]; rfl
theorem dz_sp4 {e : Nat} (he : e = 0 ∨ e = 1) (x : Int32) : pV (dz F a mg w) (a + 1 + 2 * e) 3 4 (.int x) = some (dz F a mg (upd w (11 + 14 * e + 4) x)) := by
  have hl : 4 < (dzS (11 + 14 * e) w (a + 2 + 2 * e)).length := by unfold dzS; simp
  simp only [pV, dz_s F a mg w he, true_and, hl, if_true]
  refine congrArg some (dz_up ?_ (fun _ => dzO_n a mg w x (by omega)) (fun _ => dzS_n 11 w _ x (by omega)) (fun _ => lf_n 16 w x (by omega)) (fun _ => dzS_n 25 w _ x (by omega)) (fun _ => lf_n 30 w x (by omega)) (by omega))
  rw [dz_s F a mg _ he]
  simp [dzS, upd]
theorem dz_sg5 {e : Nat} (he : e = 0 ∨ e = 1) : gR (dz F a mg w) (a + 1 + 2 * e) 3 5 = some (a + 2 + 2 * e) := by simp only [gR, gV, dz_s F a mg w he]; rfl
theorem dz_len {e : Nat} (he : e = 0 ∨ e = 1) : aN (dz F a mg w) (a + 2 + 2 * e) = some (nI 9) := by simp only [aN, dz_l F a mg w he]; rfl
theorem dz_gA {e : Nat} (he : e = 0 ∨ e = 1) : gA (dz F a mg w) (a + 2 + 2 * e) 0 = some (9, lf (16 + 14 * e) w) := by simp only [gA, dz_l F a mg w he]; rfl
theorem dz_ld {e k : Nat} (he : e = 0 ∨ e = 1) (hk : k < 9) : aI (dz F a mg w) (a + 2 + 2 * e) 0 (nI k) = some (w (16 + 14 * e + k)) := by
  have hb : ¬ (nI k < 0 ∨ 9 ≤ (nI k).toNatClampNeg) := nI_in hk (by omega)
  unfold aI
  rw [dz_gA F a mg w he]
  show (if nI k < 0 ∨ 9 ≤ (nI k).toNatClampNeg then none else some (lf (16 + 14 * e) w (nI k).toNatClampNeg)) = _
  rw [if_neg hb, nI_clamp (by omega)]
  simp [lf, hk]
theorem dz_st {e k : Nat} (he : e = 0 ∨ e = 1) (hk : k < 9) (x : Int32) : sI (dz F a mg w) (a + 2 + 2 * e) 0 (nI k) x = some (dz F a mg (upd w (16 + 14 * e + k) x)) := by
  have hb : ¬ (nI k < 0 ∨ 9 ≤ (nI k).toNatClampNeg) := nI_in hk (by omega)
  unfold sI
  rw [dz_gA F a mg w he]
  show (if nI k < 0 ∨ 9 ≤ (nI k).toNatClampNeg then none else some (va_up (dz F a mg w) (a + 2 + 2 * e) (.inl (0, 9, .inl (upd (lf (16 + 14 * e) w) (nI k).toNatClampNeg x))))) = _
  rw [if_neg hb, nI_clamp (by omega)]
  refine congrArg some (dz_up (w' := upd w (16 + 14 * e + k) x) ?_ (fun _ => dzO_n a mg w x (by omega)) (fun _ => dzS_n 11 w _ x (by omega)) (fun _ => lf_n 16 w x (by omega)) (fun _ => dzS_n 25 w _ x (by omega)) (fun _ => lf_n 30 w x (by omega)) (by omega))
  rw [dz_l F a mg _ he, lf_u _ _ _ hk]
end DZ
