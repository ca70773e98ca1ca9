/-! the reference at 107, its rows at 108 .. 120 -/
def mO (s : Nat → Int32) (sd : Int64) : List Value := [.int (s 0), .ref 108, .int (s 2), .int (s 3), .ref 109, .ref 110, .int (s 6), .ref 111, .ref 112, .ref 113, .int (s 10), .ref 114, .ref 115, .int (s 13), .ref 116, .ref 117, .int (s 16), .ref 118, .ref 119, .long sd, .ref 120, .int (s 21)]
def mlen (p : Nat) : Nat := if p = 108 then 80 else if p = 109 then 39 else if p = 110 then 80 else if p = 111 then 39 else if p = 112 then 39 else if p = 113 then 80 else if p = 114 then 39 else if p = 115 then 546 else if p = 116 then 78 else if p = 117 then 2 else if p = 118 then 6 else if p = 119 then 6 else if p = 120 then 100 else 0
def mh (F : Hp) (s : Nat → Int32) (sd : Int64) (ar : Nat → Nat → Int32) : Hp := fun k =>
  if k = 107 then .inr (8, mO s sd) else if 108 ≤ k ∧ k < 121 then .inl ((if k = 117 then 1 else 0), mlen k, .inl (ar k)) else F k
theorem mh_o (F : Hp) (s : Nat → Int32) (sd : Int64) (ar : Nat → Nat → Int32) : mh F s sd ar 107 = .inr (8, mO s sd) := by simp [mh]
theorem mh_a (F : Hp) (s : Nat → Int32) (sd : Int64) (ar : Nat → Nat → Int32) {p : Nat} (h1 : 108 ≤ p) (h2 : p < 121) : mh F s sd ar p = .inl ((if p = 117 then 1 else 0), mlen p, .inl (ar p)) := by
  unfold mh
  rw [if_neg (by omega), if_pos ⟨h1, h2⟩]
theorem mh_n {F : Hp} {s : Nat → Int32} {sd : Int64} {ar : Nat → Nat → Int32} {k : Nat} (h : k < 107 ∨ 121 ≤ k) : mh F s sd ar k = F k := by
  unfold mh
  rw [if_neg (by omega), if_neg (by omega)]
theorem mh_mh (F : Hp) (s s' : Nat → Int32) (sd sd' : Int64) (ar ar' : Nat → Nat → Int32) : mh (mh F s sd ar) s' sd' ar' = mh F s' sd' ar' := by
  funext k
  by_cases h : k < 107 ∨ 121 ≤ k
  · rw [mh_n h, mh_n h, mh_n h]
  · by_cases hk : k = 107
    · subst hk; rw [mh_o, mh_o]
    · rw [mh_a _ _ _ _ (by omega) (by omega), mh_a _ _ _ _ (by omega) (by omega)]
theorem mh_fr {F F1 : Hp} {s : Nat → Int32} {sd : Int64} {ar : Nat → Nat → Int32} (h : mh F s sd ar = F) (hf : ∀ k, 107 ≤ k → F1 k = F k) : mh F1 s sd ar = F1 := by
  funext k
  by_cases hk : k < 107 ∨ 121 ≤ k
  · exact mh_n hk
  · rw [hf k (by omega), ← congrFun h k]
    by_cases h7 : k = 107
    · subst h7; rw [mh_o, mh_o]
    · rw [mh_a _ _ _ _ (by omega) (by omega), mh_a _ _ _ _ (by omega) (by omega)]
section MH
variable (F : Hp) (s : Nat → Int32) (sd : Int64) (ar : Nat → Nat → Int32)
theorem mh_isO : isO (mh F s sd ar) 107 8 = true := by simp [isO, mh_o]
theorem mh_upO {s' : Nat → Int32} {sd' : Int64} {L : List Value} (h : L = mO s' sd') : va_up (mh F s sd ar) 107 (.inr (8, L)) = mh F s' sd' ar := by
  funext k
  by_cases hk : k = 107
  · subst hk; rw [va_up_self, mh_o, h]
  · rw [va_up_ne _ _ hk]
    by_cases hn : k < 107 ∨ 121 ≤ k
    · rw [mh_n hn, mh_n hn]
    · rw [mh_a _ _ _ _ (by omega) (by omega), mh_a _ _ _ _ (by omega) (by omega)]
theorem mh_upA {p : Nat} (h1 : 108 ≤ p) (h2 : p < 121) (f : Nat → Int32) : va_up (mh F s sd ar) p (.inl ((if p = 117 then 1 else 0), mlen p, .inl f)) = mh F s sd (va_up ar p f) := by
  funext k
  by_cases hk : k = p
  · subst hk; rw [va_up_self, mh_a _ _ _ _ h1 h2, va_up_self]
  · rw [va_up_ne _ _ hk]
    by_cases hn : k < 107 ∨ 121 ≤ k
    · rw [mh_n hn, mh_n hn]
    · by_cases h7 : k = 107
      · subst h7; rw [mh_o, mh_o]
      · rw [mh_a _ _ _ _ (by omega) (by omega), mh_a _ _ _ _ (by omega) (by omega), va_up_ne _ _ hk]
theorem mh_gL : gL (mh F s sd ar) 107 8 19 = some sd := by simp only [gL, gV, mh_o]; rfl
theorem mh_pL (x : Int64) : pV (mh F s sd ar) 107 8 19 (.long x) = some (mh F s x ar) := by
  have hl : 19 < (mO s sd).length := by unfold mO; simp
  simp only [pV, mh_o, true_and, hl, if_true]
  exact congrArg some (mh_upO F s sd ar (by rfl))
theorem mh_g0 : gI (mh F s sd ar) 107 8 0 = some (s 0) := by simp only [gI, gV, mh_o]; rfl
theorem mh_p0 (x : Int32) : pV (mh F s sd ar) 107 8 0 (.int x) = some (mh F (upd s 0 x) sd ar) := by
  have hl : 0 < (mO s sd).length := by unfold mO; simp
  simp only [pV, mh_o, true_and, hl, if_true]
  exact congrArg some (mh_upO F s sd ar (by rfl))
theorem mh_g2 : gI (mh F s sd ar) 107 8 2 = some (s 2) := by simp only [gI, gV, mh_o]; rfl
theorem mh_p2 (x : Int32) : pV (mh F s sd ar) 107 8 2 (.int x) = some (mh F (upd s 2 x) sd ar) := by
  have hl : 2 < (mO s sd).length := by unfold mO; simp
  simp only [pV, mh_o, true_and, hl, if_true]
  exact congrArg some (mh_upO F s sd ar (by rfl))
theorem mh_g3 : gI (mh F s sd ar) 107 8 3 = some (s 3) := by simp only [gI, gV, mh_o]; rfl
theorem mh_p3 (x : Int32) : pV (mh F s sd ar) 107 8 3 (.int x) = some (mh F (upd s 3 x) sd ar) := by
  have hl : 3 < (mO s sd).length := by unfold mO; simp
  simp only [pV, mh_o, true_and, hl, if_true]
  exact congrArg some (mh_upO F s sd ar (by rfl))
theorem mh_g6 : gI (mh F s sd ar) 107 8 6 = some (s 6) := by simp only [gI, gV, mh_o]; rfl
theorem mh_p6 (x : Int32) : pV (mh F s sd ar) 107 8 6 (.int x) = some (mh F (upd s 6 x) sd ar) := by
  have hl : 6 < (mO s sd).length := by unfold mO; simp
  simp only [pV, mh_o, true_and, hl, if_true]
  exact congrArg some (mh_upO F s sd ar (by rfl))
theorem mh_g10 : gI (mh F s sd ar) 107 8 10 = some (s 10) := by simp only [gI, gV, mh_o]; rfl
theorem mh_p10 (x : Int32) : pV (mh F s sd ar) 107 8 10 (.int x) = some (mh F (upd s 10 x) sd ar) := by
  have hl : 10 < (mO s sd).length := by unfold mO; simp
  simp only [pV, mh_o, true_and, hl, if_true]
  exact congrArg some (mh_upO F s sd ar (by rfl))
theorem mh_g13 : gI (mh F s sd ar) 107 8 13 = some (s 13) := by simp only [gI, gV, mh_o]; rfl
theorem mh_p13 (x : Int32) : pV (mh F s sd ar) 107 8 13 (.int x) = some (mh F (upd s 13 x) sd ar) := by
  have hl : 13 < (mO s sd).length := by unfold mO; simp
  simp only [pV, mh_o, true_and, hl, if_true]
  exact congrArg some (mh_upO F s sd ar (by rfl))
theorem mh_g16 : gI (mh F s sd ar) 107 8 16 = some (s 16) := by simp only [gI, gV, mh_o]; rfl
theorem mh_p16 (x : Int32) : pV (mh F s sd ar) 107 8 16 (.int x) = some (mh F (upd s 16 x) sd ar) := by
  have hl : 16 < (mO s sd).length := by unfold mO; simp
  simp only [pV, mh_o, true_and, hl, if_true]
  exact congrArg some (mh_upO F s sd ar (by rfl))
theorem mh_g21 : gI (mh F s sd ar) 107 8 21 = some (s 21) := by simp only [gI, gV, mh_o]; rfl
theorem mh_p21 (x : Int32) : pV (mh F s sd ar) 107 8 21 (.int x) = some (mh F (upd s 21 x) sd ar) := by
  have hl : 21 < (mO s sd).length := by unfold mO; simp
  simp only [pV, mh_o, true_and, hl, if_true]
  exact congrArg some (mh_upO F s sd ar (by rfl))
theorem mh_r1 : gR (mh F s sd ar) 107 8 1 = some 108 := by simp only [gR, gV, mh_o]; rfl
theorem mh_r4 : gR (mh F s sd ar) 107 8 4 = some 109 := by simp only [gR, gV, mh_o]; rfl
theorem mh_r5 : gR (mh F s sd ar) 107 8 5 = some 110 := by simp only [gR, gV, mh_o]; rfl
theorem mh_r7 : gR (mh F s sd ar) 107 8 7 = some 111 := by simp only [gR, gV, mh_o]; rfl
theorem mh_r8 : gR (mh F s sd ar) 107 8 8 = some 112 := by simp only [gR, gV, mh_o]; rfl
theorem mh_r9 : gR (mh F s sd ar) 107 8 9 = some 113 := by simp only [gR, gV, mh_o]; rfl
theorem mh_r11 : gR (mh F s sd ar) 107 8 11 = some 114 := by simp only [gR, gV, mh_o]; rfl
theorem mh_r12 : gR (mh F s sd ar) 107 8 12 = some 115 := by simp only [gR, gV, mh_o]; rfl
theorem mh_r14 : gR (mh F s sd ar) 107 8 14 = some 116 := by simp only [gR, gV, mh_o]; rfl
theorem mh_r15 : gR (mh F s sd ar) 107 8 15 = some 117 := by simp only [gR, gV, mh_o]; rfl
theorem mh_r17 : gR (mh F s sd ar) 107 8 17 = some 118 := by simp only [gR, gV, mh_o]; rfl
theorem mh_r18 : gR (mh F s sd ar) 107 8 18 = some 119 := by simp only [gR, gV, mh_o]; rfl
theorem mh_r20 : gR (mh F s sd ar) 107 8 20 = some 120 := by simp only [gR, gV, mh_o]; rfl
theorem mh_gA {p kd n : Nat} (h1 : 108 ≤ p) (h2 : p < 121) (hk : (if p = 117 then 1 else 0) = kd) (hn : mlen p = n) : gA (mh F s sd ar) p kd = some (n, ar p) := by
  subst hk; subst hn
  simp only [gA, mh_a F s sd ar h1 h2, if_true]
theorem mh_ld {p kd n j : Nat} (h1 : 108 ≤ p ∧ p < 121) (hk : (if p = 117 then 1 else 0) = kd) (hn : mlen p = n) (hj : j < n) (hn2 : n < 2 ^ 31) : aI (mh F s sd ar) p kd (nI j) = some (ar p j) := by
  have hb : ¬ (nI j < 0 ∨ n ≤ (nI j).toNatClampNeg) := nI_in hj hn2
  unfold aI
  rw [mh_gA F s sd ar h1.1 h1.2 hk hn]
  show (if nI j < 0 ∨ n ≤ (nI j).toNatClampNeg then none else some (ar p (nI j).toNatClampNeg)) = _
  rw [if_neg hb, nI_clamp (by omega)]
theorem mh_st {p kd n j : Nat} (h1 : 108 ≤ p ∧ p < 121) (hk : (if p = 117 then 1 else 0) = kd) (hn : mlen p = n) (hj : j < n) (hn2 : n < 2 ^ 31) (x : Int32) : sI (mh F s sd ar) p kd (nI j) x = some (mh F s sd (va_up ar p (upd (ar p) j x))) := by
  have hb : ¬ (nI j < 0 ∨ n ≤ (nI j).toNatClampNeg) := nI_in hj hn2
  unfold sI
  rw [mh_gA F s sd ar h1.1 h1.2 hk hn]
  show (if nI j < 0 ∨ n ≤ (nI j).toNatClampNeg then none else some (va_up (mh F s sd ar) p (.inl (kd, n, .inl (upd (ar p) (nI j).toNatClampNeg x))))) = _
  rw [if_neg hb, nI_clamp (by omega), ← hk, ← hn, mh_upA F s sd ar h1.1 h1.2]
theorem mh_pg {p : Nat} (h1 : 108 ≤ p ∧ p < 121) (h7 : p ≠ 117) (hn : mlen p = 39) (w : Nat → Int32) : pg (mh F s sd ar) p w = mh F s sd (va_up ar p w) := by
  unfold pg
  rw [← mh_upA F s sd ar h1.1 h1.2, if_neg h7, hn]
theorem mh_pg0 {p : Nat} (h1 : 108 ≤ p ∧ p < 121) (h7 : p ≠ 117) (hn : mlen p = 39) : mh F s sd ar = pg (mh F s sd ar) p (ar p) := by
  rw [mh_pg F s sd ar h1 h7 hn, va_up_eta rfl]
end MH
