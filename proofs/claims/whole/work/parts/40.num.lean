/-! numbers: an Int32 that is a small natural one -/
theorem nI0 : (0 : Int32) = nI 0 := rfl
theorem nI_inj {a b : Nat} (ha : a < 2 ^ 31) (hb : b < 2 ^ 31) (h : nI a = nI b) : a = b := by
  have := congrArg Int32.toInt h
  rw [nI_toInt ha, nI_toInt hb] at this
  omega
theorem nI_eq_iff {a b : Nat} (ha : a < 2 ^ 31) (hb : b < 2 ^ 31) : nI a = nI b ↔ a = b := ⟨nI_inj ha hb, fun h => by rw [h]⟩
theorem nI_le_iff {a b : Nat} (ha : a < 2 ^ 31) (hb : b < 2 ^ 31) : nI a ≤ nI b ↔ a ≤ b := by
  rw [Int32.le_iff_toInt_le, nI_toInt ha, nI_toInt hb]; omega
theorem nI_lt_iff {a b : Nat} (ha : a < 2 ^ 31) (hb : b < 2 ^ 31) : nI a < nI b ↔ a < b := by
  rw [Int32.lt_iff_toInt_lt, nI_toInt ha, nI_toInt hb]; omega
theorem nI_sub {a b : Nat} (h : b ≤ a) : nI a - nI b = nI (a - b) := by
  have e : nI a = nI (a - b) + nI b := by rw [nI_add]; congr 1; omega
  rw [e]
  simp
theorem nI_div {a b : Nat} (ha : a < 2 ^ 31) (hb : b < 2 ^ 31) (h0 : 0 < b) : nI a / nI b = nI (a / b) := by
  apply Int32.toInt_inj.mp
  have h1 : a / b < 2 ^ 31 := Nat.lt_of_le_of_lt (Nat.div_le_self a b) ha
  rw [Int32.toInt_div_of_ne_left _ _ (by
    intro q
    have := congrArg Int32.toInt q
    rw [nI_toInt ha] at this
    have h2 : Int32.minValue.toInt = -2147483648 := by decide
    omega), nI_toInt ha, nI_toInt hb, nI_toInt h1]
  rw [Int.tdiv_eq_ediv_of_nonneg (by omega)]
  exact (Int.natCast_ediv a b).symm
theorem nI_mul (a b : Nat) : nI a * nI b = nI (a * b) := by simp [nI]
theorem nI_rem {a b : Nat} (ha : a < 2 ^ 31) (hb : b < 2 ^ 31) (h0 : 0 < b) : jrem (nI a) (nI b) = nI (a % b) := by
  unfold jrem
  rw [nI_div ha hb h0, nI_mul, nI_sub (Nat.div_mul_le_self a b)]
  congr 1
  have := Nat.div_add_mod a b
  rw [Nat.mul_comm] at this
  omega
theorem nI_toInt64 {a : Nat} (h : a < 2 ^ 31) : (nI a).toInt64.toInt = (a : Int) := by
  rw [Int32.toInt_toInt64, nI_toInt h]
theorem i64_le (x : Int32) (n : Int64) (m : Int32) (h : m.toInt64 = n) : (n ≤ x.toInt64) ↔ m ≤ x := by
  subst h
  rw [Int64.le_iff_toInt_le, Int32.le_iff_toInt_le, Int32.toInt_toInt64, Int32.toInt_toInt64]
theorem i64_le' (x : Int32) (n : Int64) (m : Int32) (h : m.toInt64 = n) : (x.toInt64 ≤ n) ↔ x ≤ m := by
  subst h
  rw [Int64.le_iff_toInt_le, Int32.le_iff_toInt_le, Int32.toInt_toInt64, Int32.toInt_toInt64]
theorem lgc_lt (x y : Int64) : (lg_cmp x y < 0) ↔ x < y := by
  unfold lg_cmp
  by_cases h1 : x > y
  · rw [if_pos h1]
    refine ⟨fun h => absurd h (by decide), fun h => ?_⟩
    rw [gt_iff_lt, Int64.lt_iff_toInt_lt] at h1
    rw [Int64.lt_iff_toInt_lt] at h
    omega
  · rw [if_neg h1]
    by_cases h2 : x = y
    · rw [if_pos h2]
      refine ⟨fun h => absurd h (by decide), fun h => ?_⟩
      rw [Int64.lt_iff_toInt_lt, h2] at h
      omega
    · rw [if_neg h2]
      refine ⟨fun _ => ?_, fun _ => by decide⟩
      rw [gt_iff_lt, Int64.lt_iff_toInt_lt] at h1
      rw [Int64.lt_iff_toInt_lt]
      have : x.toInt ≠ y.toInt := fun q => h2 (Int64.toInt_inj.mp q)
      omega
theorem lgc_gt (x y : Int64) : (0 < lg_cmp x y) ↔ y < x := by
  unfold lg_cmp
  by_cases h1 : x > y
  · rw [if_pos h1]
    exact ⟨fun _ => h1, fun _ => by decide⟩
  · rw [if_neg h1]
    refine ⟨fun h => ?_, fun h => absurd h h1⟩
    split at h <;> exact absurd h (by decide)
theorem b01 (b : Bool) : (if b = true then (1 : Int32) else 0) = 0 ∨ (if b = true then (1 : Int32) else 0) = 1 := by cases b <;> simp
/-- the reference's range test, over ints -/
theorem m_in (F : Hp) (x a b : Int32) (a' b' : Int64) (ha : a.toInt64 = a') (hb : b.toInt64 = b') : g_X8_in F (Int32.toInt64 x) a' b' = some (if a ≤ x ∧ x ≤ b then 1 else 0, F) := by
  unfold g_X8_in
  rw [← ha, ← hb]
  simp only [lgc_lt, lgc_gt, Int64.lt_iff_toInt_lt, Int32.toInt_toInt64, Int32.le_iff_toInt_le]
  by_cases h1 : x.toInt < a.toInt
  · rw [if_pos h1, if_neg (by omega)]
  · rw [if_neg h1]
    by_cases h2 : b.toInt < x.toInt
    · rw [if_pos h2, if_neg (by omega)]
    · rw [if_neg h2, if_pos (by omega)]
theorem c_isWithin (F : Hp) (x a b : Int32) : g_X7_isWithin F x a b = some (if a ≤ x ∧ x ≤ b then 1 else 0, F) := by
  unfold g_X7_isWithin
  simp only [Int32.lt_iff_toInt_lt, Int32.le_iff_toInt_le]
  by_cases h1 : x.toInt < a.toInt
  · rw [if_pos h1, if_neg (by omega)]
  · rw [if_neg h1]
    by_cases h2 : b.toInt < x.toInt
    · rw [if_pos h2, if_neg (by omega)]
    · rw [if_neg h2, if_pos (by omega)]
theorem c_isFigure (F : Hp) (x : Int32) : g_X7_isFigure F x = some (if 1 ≤ x ∧ x ≤ 9 then 1 else 0, F) := by
  have := c_isWithin F x 1 9
  unfold g_X7_isWithin at this
  unfold g_X7_isFigure
  exact this
theorem c_isEnd (F : Hp) (x : Int32) : g_X7_isEnd F x = some (if x = 0 ∨ x = 1 then 1 else 0, F) := by
  unfold g_X7_isEnd g_X7_isEnd_b9
  by_cases h : x = 0
  · simp [h]
  · by_cases h1 : x = 1
    · simp [h1]
    · simp [h, h1]
theorem c_isSlot (F : Hp) (x : Int32) : g_X7_isSlot F x = some (if x = 0 ∨ x = 1 then 1 else 0, F) := by
  unfold g_X7_isSlot g_X7_isSlot_b9
  by_cases h : x = 0
  · simp [h]
  · by_cases h1 : x = 1
    · simp [h1]
    · simp [h, h1]
theorem m_noEnd (F : Hp) (x : Int32) : g_X8_noEnd F x = some (if x = 0 ∨ x = 1 then 0 else 1, F) := by
  unfold g_X8_noEnd
  rw [show ((0 : Int64)) = (0 : Int32).toInt64 by decide, show ((1 : Int64)) = (1 : Int32).toInt64 by decide, m_in F x 0 1 _ _ rfl rfl]
  have e : (0 ≤ x ∧ x ≤ 1) ↔ (x = 0 ∨ x = 1) := by
    rw [Int32.le_iff_toInt_le, Int32.le_iff_toInt_le, ← Int32.toInt_inj, ← Int32.toInt_inj]
    have h0 : (0 : Int32).toInt = 0 := by decide
    have h1 : (1 : Int32).toInt = 1 := by decide
    rw [h0, h1]
    omega
  simp only [e]
  by_cases h : x = 0 ∨ x = 1
  · simp [bnd2, h]
  · simp [bnd2, h]
