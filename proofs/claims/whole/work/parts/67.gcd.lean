/-! fractions -/
theorem toInt_rem (x y : Int32) (hy : ¬ y = 0) : (jrem x y).toInt = x.toInt.tmod y.toInt := by
  have h1 := Int32.toInt_lt x
  have h2 := Int32.le_toInt x
  have h3 := Int32.toInt_lt y
  have h4 := Int32.le_toInt y
  have hy0 : y.toInt ≠ 0 := fun q => hy (Int32.toInt_inj.mp q)
  unfold jrem
  rw [Int32.toInt_sub, Int32.toInt_mul, Int32.toInt_div]
  rw [Int.sub_bmod_bmod, Int.sub_eq_add_neg, ← Int.neg_mul, ← Int.add_bmod_bmod]
  have e1 : ((-(x.toInt.tdiv y.toInt).bmod (2 ^ 32)) * y.toInt).bmod (2 ^ 32) = (-(x.toInt.tdiv y.toInt) * y.toInt).bmod (2 ^ 32) := by
    rw [Int.neg_mul, Int.neg_mul]
    rw [← Int.zero_sub, ← Int.zero_sub, ← Int.sub_bmod_bmod, Int.bmod_mul_bmod, Int.sub_bmod_bmod]
  rw [e1, Int.add_bmod_bmod]
  have e2 : x.toInt + -(x.toInt.tdiv y.toInt) * y.toInt = x.toInt.tmod y.toInt := by
    rw [Int.tmod_def, Int.neg_mul, Int.mul_comm]
    omega
  rw [e2]
  have hb : (x.toInt.tmod y.toInt).natAbs < y.toInt.natAbs := by
    rw [Int.natAbs_tmod]
    exact Nat.mod_lt _ (Int.natAbs_pos.mpr hy0)
  have hb2 : (x.toInt.tmod y.toInt).natAbs ≤ x.toInt.natAbs := by
    rw [Int.natAbs_tmod]
    exact Nat.mod_le _ _
  exact Int.bmod_eq_of_le (by omega) (by omega)
def nA (x : Int32) : Nat := x.toInt.natAbs
theorem nA_0 {y : Int32} (h : nA y = 0) : y = 0 := by
  apply Int32.toInt_inj.mp
  unfold nA at h
  have h0 : (0 : Int32).toInt = 0 := by decide
  omega
theorem nA_rem (x y : Int32) (hy : ¬ y = 0) : nA (jrem x y) = nA x % nA y := by
  unfold nA
  rw [toInt_rem x y hy, Int.natAbs_tmod]
def eu : Nat → Int32 → Int32 → Int32
  | 0, x, _ => x
  | n + 1, x, y => if y = 0 then x else eu n y (jrem x y)
def Stt : Nat → Int32 → Int32 → Prop
  | 0, _, y => y = 0
  | n + 1, x, y => y = 0 ∨ Stt n y (jrem x y)
theorem half_lt {a b : Nat} (h : b < a) (h0 : 0 < b) : 2 * (a % b) < a := by
  have h1 := Nat.mod_lt a h0
  have h2 := Nat.div_add_mod a b
  have h3 : 1 ≤ a / b := Nat.div_pos (by omega) h0
  have h4 : b * 1 ≤ b * (a / b) := Nat.mul_le_mul_left b h3
  omega
theorem Stt_of : ∀ (k : Nat) (x y : Int32), nA y < 2 ^ k → Stt (2 * k) x y
  | 0, x, y, h => nA_0 (by omega)
  | k + 1, x, y, h => by
    rw [show 2 * (k + 1) = (2 * k + 1) + 1 by omega, Stt, Stt]
    by_cases q : y = 0
    · exact Or.inl q
    · right
      by_cases q2 : jrem x y = 0
      · exact Or.inl q2
      · right
        apply Stt_of k
        have hp : 0 < nA y := Nat.pos_of_ne_zero (fun z => q (nA_0 z))
        have hp2 : 0 < nA (jrem x y) := Nat.pos_of_ne_zero (fun z => q2 (nA_0 z))
        have hl : nA (jrem x y) < nA y := by
          rw [nA_rem x y q]
          exact Nat.mod_lt _ hp
        rw [nA_rem y _ q2]
        have := half_lt hl hp2
        rw [Nat.pow_succ] at h
        omega
theorem eu_n : ∀ (r : Nat) (x y : Int32), Stt r x y → (¬ y = 0 ∨ ¬ x = 0) → ¬ eu r x y = 0
  | 0, x, y, hs, h => by
    rw [eu]
    rcases h with h | h
    · exact absurd hs h
    · exact h
  | r + 1, x, y, hs, h => by
    rw [eu]
    by_cases q : y = 0
    · rw [if_pos q]
      rcases h with h | h
      · exact absurd q h
      · exact h
    · rw [if_neg q]
      rcases hs with hs | hs
      · exact absurd hs q
      · exact eu_n r y _ hs (Or.inr q)
theorem c_gcdL {F : Hp} : ∀ (r k n : Nat) (x y : Int32), Stt r x y → k + r ≤ 64 → r < n → g_X7_commonDivisor_b7 n F x y (nI k) = some (eu r x y, F) := by
  intro r
  induction r with
  | zero =>
    intro k n x y hs hk hn
    obtain ⟨n, rfl⟩ : ∃ n', n = n' + 1 := ⟨n - 1, by omega⟩
    rw [g_X7_commonDivisor_b7, eu, if_pos (show y = 0 from hs)]
    split <;> rfl
  | succ r ih =>
    intro k n x y hs hk hn
    obtain ⟨n, rfl⟩ : ∃ n', n = n' + 1 := ⟨n - 1, by omega⟩
    rw [g_X7_commonDivisor_b7, if_neg (show ¬ (64 : Int32) ≤ nI k from nI_ge (b := 64) (by omega) (by omega)), eu]
    by_cases q : y = 0
    · rw [if_pos q, if_pos q]
    · rw [if_neg q, if_neg q, if_neg q, nI_1]
      rcases hs with hs | hs
      · exact absurd hs q
      · exact ih (k + 1) n y _ hs (by omega) (by omega)
theorem m_gcdL {F : Hp} : ∀ (r n : Nat) (x y : Int32), Stt r x y → r < n → g_X8_divisor_b13 n F x y = some (eu r x y, F) := by
  intro r
  induction r with
  | zero =>
    intro n x y hs hn
    obtain ⟨n, rfl⟩ : ∃ n', n = n' + 1 := ⟨n - 1, by omega⟩
    rw [g_X8_divisor_b13, eu, if_pos (show y = 0 from hs)]
  | succ r ih =>
    intro n x y hs hn
    obtain ⟨n, rfl⟩ : ∃ n', n = n' + 1 := ⟨n - 1, by omega⟩
    rw [g_X8_divisor_b13, eu]
    by_cases q : y = 0
    · rw [if_pos q, if_pos q]
    · rw [if_neg q, if_neg q, if_neg q]
      rcases hs with hs | hs
      · exact absurd hs q
      · exact ih n y _ hs (by omega)
def frc (a b u : Int32) : Int32 := if u = 0 then b / eu 40 (jabs a) b else a / eu 40 (jabs a) b
theorem c_frac {F : Hp} {a b u : Int32} (hb : ¬ b = 0) (h20 : nA b < 2 ^ 20) : g_X7_fraction F a b u = some (frc a b u, F) := by
  have hs := Stt_of 20 (jabs a) b h20
  have hn := eu_n _ _ _ hs (Or.inl hb)
  rw [g_X7_fraction, show g_X7_commonDivisor F (jabs a) b = _ from c_gcdL 40 0 gF (jabs a) b hs (by omega) (by unfold gF; omega), bnd2_s, if_neg hn, frc]
  by_cases q : u = 0
  · rw [if_pos q, if_pos q, if_neg hn]
  · rw [if_neg q, if_neg q, if_neg hn]
theorem m_frac {F : Hp} {a b u : Int32} (hb : ¬ b = 0) (h20 : nA b < 2 ^ 20) : g_X8_fraction F a b u = some (frc a b u, F) := by
  have hs := Stt_of 20 (jabs a) b h20
  have hn := eu_n _ _ _ hs (Or.inl hb)
  have hd : g_X8_divisor F a b = some (eu 40 (jabs a) b, F) := by
    rw [← m_gcdL (F := F) 40 gF (jabs a) b hs (by unfold gF; omega)]
    unfold g_X8_divisor g_X8_divisor_b10 jabs
    by_cases q : 0 ≤ a
    · rw [if_pos q, if_pos q]
    · rw [if_neg q, if_neg q, Int32.zero_sub]
  rw [g_X8_fraction, hd, bnd2_s, frc]
  by_cases q : u = 0
  · rw [if_pos q, if_pos q, if_neg hn]
  · rw [if_neg q, if_neg q, if_neg hn]
