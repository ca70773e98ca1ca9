/-! judge: longs -/
def lI (n : Nat) : Int64 := Int64.ofNat n
theorem lI_toInt {a : Nat} (h : a < 2 ^ 63) : (lI a).toInt = (a : Int) := Int64.toInt_ofNat_of_lt h
theorem lI_mul (a b : Nat) : lI a * lI b = lI (a * b) := by simp [lI]
theorem lI_add (a b : Nat) : lI a + lI b = lI (a + b) := by simp [lI]
theorem lI_sub {a b : Nat} (h : b ≤ a) : lI a - lI b = lI (a - b) := by
  have e : lI a = lI (a - b) + lI b := by rw [lI_add]; congr 1; omega
  rw [e]
  simp
theorem lI_div {a b : Nat} (ha : a < 2 ^ 63) (hb : b < 2 ^ 63) (h0 : 0 < b) : lI a / lI b = lI (a / b) := by
  apply Int64.toInt_inj.mp
  have h1 : a / b < 2 ^ 63 := Nat.lt_of_le_of_lt (Nat.div_le_self a b) ha
  rw [Int64.toInt_div_of_ne_left _ _ (by
    intro q
    have := congrArg Int64.toInt q
    rw [lI_toInt ha] at this
    have h2 : Int64.minValue.toInt = -9223372036854775808 := by decide
    omega), lI_toInt ha, lI_toInt hb, lI_toInt h1]
  rw [Int.tdiv_eq_ediv_of_nonneg (by omega)]
  exact (Int.natCast_ediv a b).symm
theorem lI_rem {a b : Nat} (ha : a < 2 ^ 63) (hb : b < 2 ^ 63) (h0 : 0 < b) : jreml (lI a) (lI b) = lI (a % b) := by
  unfold jreml
  rw [lI_div ha hb h0, lI_mul, lI_sub (Nat.div_mul_le_self a b)]
  congr 1
  have := Nat.div_add_mod a b
  rw [Nat.mul_comm] at this
  omega
theorem lI_i32 {a : Nat} (h : a < 2 ^ 31) : Int64.toInt32 (lI a) = nI a := by
  rw [← Int32.toInt_inj, Int64.toInt_toInt32, nI_toInt h, lI_toInt (by omega), Int.bmod_eq_of_le (by omega) (by omega)]
theorem lI_lt {a b : Nat} (ha : a < 2 ^ 63) (hb : b < 2 ^ 63) : lI a < lI b ↔ a < b := by
  rw [Int64.lt_iff_toInt_lt, lI_toInt ha, lI_toInt hb]
  omega
theorem lI_ne0 {a : Nat} (ha : a < 2 ^ 63) (h : 0 < a) : ¬ lI a = 0 := by
  intro q
  have := congrArg Int64.toInt q
  rw [lI_toInt ha] at this
  have h2 : (0 : Int64).toInt = 0 := by decide
  omega
theorem p1000 {r : Nat} (h : r ≤ 4) : 1000 ^ r ≤ 1000000000000 ∧ 0 < 1000 ^ r := by
  rcases (show r = 0 ∨ r = 1 ∨ r = 2 ∨ r = 3 ∨ r = 4 by omega) with rfl | rfl | rfl | rfl | rfl <;> decide
theorem m_lpL {F : Hp} {m : Nat} (hm : m ≤ 4) : ∀ (r k n : Nat), k + r = m → r < n → g_X8_longPower_b5 n F 1000 (nI m) (lI (1000 ^ k)) (nI k) = some (lI (1000 ^ m), F) := by
  intro r
  induction r with
  | zero =>
    intro k n hk hn
    obtain ⟨n, rfl⟩ : ∃ n', n = n' + 1 := ⟨n - 1, by omega⟩
    obtain rfl : k = m := by omega
    rw [g_X8_longPower_b5, if_pos (nI_le (by omega) (by omega))]
  | succ r ih =>
    intro k n hk hn
    obtain ⟨n, rfl⟩ : ∃ n', n = n' + 1 := ⟨n - 1, by omega⟩
    have e : lI (1000 ^ k) * 1000 = lI (1000 ^ (k + 1)) := by
      rw [show (1000 : Int64) = lI 1000 from rfl, lI_mul, Nat.pow_succ]
    rw [g_X8_longPower_b5, if_neg (nI_ge (by omega) (by omega)), e, nI_1]
    exact ih (k + 1) n (by omega) (by omega)
theorem m_lp {F : Hp} {m : Nat} (hm : m ≤ 4) : g_X8_longPower F 1000 (nI m) = some (lI (1000 ^ m), F) := m_lpL hm m 0 gF (by omega) (by unfold gF; omega)
/-! one doing -/
def dok (a s t : Nat) (w : Nat → Int32) : Bool :=
  if a = 1 then decide (s ≤ 1 ∧ t = 0 ∧ hN s w < 9) else if a = 2 then decide (1 ≤ 10 * s + t ∧ 10 * s + t ≤ 20) else if a = 3 then decide (s = 0 ∧ w 0 = nI t) else if a = 4 then decide (s ≤ 1 ∧ w (15 + 14 * s) = nI t) else if a = 5 then decide (s ≤ 1 ∧ nI t = (if due true s w = true then 1 else 0)) else if a = 6 then decide (w 5 = nI (10 * s + t)) else if a = 7 then decide (s ≤ 1 ∧ 1 ≤ t) else false
def dop (a s t : Nat) (w : Nat → Int32) : Nat → Int32 := if dok a s t w = true then (if a = 1 then cm s 0 w else if a = 2 then tkN true true true (10 * s + t) w else if a = 7 then upd w (11 + 14 * s + 1) (nI t) else w) else w
theorem Wf_dop {C a s t : Nat} {w : Nat → Int32} (ht : t ≤ 9) (hC : C + 20 < 100000000) (h : Wf C w) : Wf (C + 20) (dop a s t w) := by
  unfold dop
  by_cases q : dok a s t w = true
  · rw [if_pos q]
    unfold dok at q
    by_cases a1 : a = 1
    · rw [if_pos a1] at q ⊢
      have q' := of_decide_eq_true q
      exact Wf_mono (by omega) (Wf_cm (t := 0) (by omega) (by omega) (by omega) h q'.2.2)
    · rw [if_neg a1] at q ⊢
      by_cases a2 : a = 2
      · rw [if_pos a2] at q ⊢
        have q' := of_decide_eq_true q
        exact Wf_mono (by omega) (Wf_tkN (by omega) h)
      · rw [if_neg a2] at q ⊢
        by_cases a7 : a = 7
        · subst a7
          rw [if_pos rfl, if_neg (by omega), if_neg (by omega), if_neg (by omega), if_neg (by omega)] at *
          have q' := of_decide_eq_true q
          exact Wf_mono (by omega) (Wf_upF (by omega) q'.2 ht h)
        · rw [if_neg a7]
          exact Wf_mono (by omega) h
  · rw [if_neg q]
    exact Wf_mono (by omega) h
theorem Eqv_dok {a s t : Nat} {w w' : Nat → Int32} (h : Eqv w w') : dok a s t w' = dok a s t w := by
  unfold dok
  rw [← h.1 0 (by omega), ← h.1 5 (by omega)]
  by_cases hs : s ≤ 1
  · rw [Eqv_hN h (by omega), ← h.1 (15 + 14 * s) (by omega), Eqv_due true (by omega) h]
  · simp [hs]
theorem Eqv_dop {C a s t : Nat} {w w' : Nat → Int32} (ht : t ≤ 9) (hC : C + 20 < 100000000) (hw : Wf C w) (h : Eqv w w') : Eqv (dop a s t w) (dop a s t w') := by
  unfold dop
  rw [Eqv_dok h]
  by_cases q : dok a s t w = true
  · rw [if_pos q, if_pos q]
    unfold dok at q
    by_cases a1 : a = 1
    · rw [if_pos a1] at q
      have q' := of_decide_eq_true q
      rw [if_pos a1, if_pos a1]
      exact Eqv_cm 0 (by omega) (Wf_Lw hw) q'.2.2 h
    · rw [if_neg a1, if_neg a1]
      rw [if_neg a1] at q
      by_cases a2 : a = 2
      · rw [if_pos a2] at q
        have q' := of_decide_eq_true q
        rw [if_pos a2, if_pos a2]
        exact Eqv_tkN (C := C) (by omega) hw h
      · rw [if_neg a2, if_neg a2]
        by_cases a7 : a = 7
        · subst a7
          have q' : s ≤ 1 ∧ 1 ≤ t := of_decide_eq_true q
          rw [if_pos rfl, if_pos rfl]
          exact Eqv_upd _ (by omega) h
        · rw [if_neg a7, if_neg a7]
          exact h
  · rw [if_neg q, if_neg q]
    exact h
theorem ise {s : Nat} (h : s ≤ 9) : (nI s = 0 ∨ nI s = 1) ↔ s ≤ 1 := by
  rw [show (nI s = 0) ↔ s = 0 from nI_eq (b := 0) (by omega) (by omega), show (nI s = 1) ↔ s = 1 from nI_eq (b := 1) (by omega) (by omega)]
  omega
theorem rng20 {b : Nat} (h : b ≤ 99) : ((1 : Int32) ≤ nI b ∧ nI b ≤ 20) ↔ (1 ≤ b ∧ b ≤ 20) := by
  rw [show ((1 : Int32) ≤ nI b) ↔ 1 ≤ b from nI_le_iff (a := 1) (by omega) (by omega), show (nI b ≤ 20) ↔ b ≤ 20 from nI_le_iff (b := 20) (by omega) (by omega)]
