/-! the start: constructors -/
theorem pV_x {H : Hp} {a ci k : Nat} {fs : List Value} (v : Value) (h : H a = .inr (ci, fs)) (hk : k < fs.length) : ∃ H', pV H a ci k v = some H' ∧ H' a = .inr (ci, fs.set k v) ∧ ∀ j, j ≠ a → H' j = H j := by
  refine ⟨va_up H a (.inr (ci, fs.set k v)), ?_, va_up_self _ _ _, fun j hj => va_up_ne _ _ hj⟩
  unfold pV
  rw [h]
  show (if ci = ci ∧ k < fs.length then some (va_up H a (.inr (ci, fs.set k v))) else none) = _
  rw [if_pos ⟨rfl, hk⟩]
def nDz : va_E := .inr (1, [.null, .null, .int 0, .int 0, .int 0, .int 0, .int 0, .int 0, .int 0, .int 0, .int 0, .int 0, .int 0, .int 0])
def zrow (n : Nat) : va_E := .inl (0, n, .inl (fun _ => 0))
theorem i_X6 (F : Hp) : ∃ H, g_X6_init 2 (va_up F 1 (.inr (6, [.null, .int 0]))) 1 = some H ∧ H 1 = .inr (6, [.ref 2, .int 0]) ∧ H 2 = zrow 80 ∧ ∀ k, k ≠ 1 → k ≠ 2 → H k = F k := by
  unfold g_X6_init
  simp only [letH, Nat.reduceAdd]
  obtain ⟨H1, a1, a2, a3⟩ := pV_x (H := va_up (va_up F 1 (.inr (6, [.null, .int 0]))) 2 (.inl (0, 80, .inl (fun _ => 0)))) (a := 1) (ci := 6) (k := 0) (fs := [.null, .int 0]) (.ref 2) (by rw [va_up_ne _ _ (by omega), va_up_self]) (by decide)
  obtain ⟨H2, b1, b2, b3⟩ := pV_x (k := 1) (.int 0) a2 (by simp)
  refine ⟨H2, ?_, b2, ?_, fun k k1 k2 => ?_⟩
  · rw [a1, Option.bind_some, b1, Option.bind_some]
  · rw [b3 2 (by omega), a3 2 (by omega)]
    exact va_up_self _ _ _
  · rw [b3 k k1, a3 k k1, va_up_ne _ _ k2, va_up_ne _ _ k1]
theorem i_X2 (F : Hp) : ∃ H, g_X2_init 4 (va_up F 3 (.inr (2, [.null, .null, .int 0]))) 3 = some H ∧ H 3 = .inr (2, [.ref 4, .ref 9, .int 0]) ∧ isDz H 4 1 fpg ∧ H 9 = zrow 71 ∧ ∀ k, k < 3 ∨ 10 ≤ k → H k = F k := by
  unfold g_X2_init
  simp only [letH, Nat.reduceAdd]
  obtain ⟨H1, a1, a2, a3⟩ := pV_x (H := dz (va_up F 3 (.inr (2, [.null, .null, .int 0]))) 4 1 fpg) (a := 3) (ci := 2) (k := 0) (fs := [.null, .null, .int 0]) (.ref 4) (by rw [dz_n (by omega), va_up_self]) (by decide)
  obtain ⟨H2, b1, b2, b3⟩ := pV_x (H := va_up H1 9 (.inl (0, 71, .inl (fun _ => 0)))) (a := 3) (ci := 2) (fs := [.ref 4, .null, .int 0]) (k := 1) (.ref 9) (by rw [va_up_ne _ _ (by omega)]; exact a2) (by simp)
  obtain ⟨H3, c1, c2, c3⟩ := pV_x (k := 2) (.int 0) b2 (by simp)
  refine ⟨H3, ?_, c2, ?_, ?_, fun k k1 => ?_⟩
  · rw [c_newDz (F := va_up F 3 (.inr (2, [.null, .null, .int 0]))) (a := 4) 5 rfl, Option.bind_some, a1, Option.bind_some, b1, Option.bind_some, c1, Option.bind_some]
  · refine isDz_fr (isDz_dz (va_up F 3 (.inr (2, [.null, .null, .int 0]))) 4 1 fpg) (fun k k1 k2 => ?_)
    rw [c3 k (by omega), b3 k (by omega), va_up_ne _ _ (by omega), a3 k (by omega)]
  · rw [c3 9 (by omega), b3 9 (by omega)]
    exact va_up_self _ _ _
  · rw [c3 k (by omega), b3 k (by omega), va_up_ne _ _ (by omega), a3 k (by omega), dz_n (by omega), va_up_ne _ _ (by omega)]
theorem i_X4 (F : Hp) : ∃ H, g_X4_init 93 (va_up F 92 (.inr (4, [.null, .null, .int 0]))) 92 = some H ∧ H 92 = .inr (4, [.ref 93, .ref 94, .int 0]) ∧ H 93 = zrow 6 ∧ H 94 = zrow 6 ∧ ∀ k, k < 92 ∨ 95 ≤ k → H k = F k := by
  unfold g_X4_init
  simp only [letH, Nat.reduceAdd]
  obtain ⟨H1, a1, a2, a3⟩ := pV_x (H := va_up (va_up F 92 (.inr (4, [.null, .null, .int 0]))) 93 (.inl (0, 6, .inl (fun _ => 0)))) (a := 92) (ci := 4) (k := 0) (fs := [.null, .null, .int 0]) (.ref 93) (by rw [va_up_ne _ _ (by omega), va_up_self]) (by decide)
  obtain ⟨H2, b1, b2, b3⟩ := pV_x (H := va_up H1 94 (.inl (0, 6, .inl (fun _ => 0)))) (a := 92) (ci := 4) (fs := [.ref 93, .null, .int 0]) (k := 1) (.ref 94) (by rw [va_up_ne _ _ (by omega)]; exact a2) (by simp)
  obtain ⟨H3, c1, c2, c3⟩ := pV_x (k := 2) (.int 0) b2 (by simp)
  refine ⟨H3, ?_, c2, ?_, ?_, fun k k1 => ?_⟩
  · rw [a1, Option.bind_some, b1, Option.bind_some, c1, Option.bind_some]
  · rw [c3 93 (by omega), b3 93 (by omega), va_up_ne _ _ (by omega), a3 93 (by omega)]
    exact va_up_self _ _ _
  · rw [c3 94 (by omega), b3 94 (by omega)]
    exact va_up_self _ _ _
  · rw [c3 k (by omega), b3 k (by omega), va_up_ne _ _ (by omega), a3 k (by omega), va_up_ne _ _ (by omega), va_up_ne _ _ (by omega)]
theorem i_X5_95 (F : Hp) : ∃ H, g_X5_init 96 (va_up F 95 (.inr (5, [.null, .int 0]))) 95 = some H ∧ H 95 = .inr (5, [.ref 96, .int 0]) ∧ isDz H 96 1 fpg ∧ ∀ k, k < 95 ∨ 101 ≤ k → H k = F k := by
  unfold g_X5_init
  simp only [letH, Nat.reduceAdd]
  obtain ⟨H1, a1, a2, a3⟩ := pV_x (H := dz (va_up F 95 (.inr (5, [.null, .int 0]))) 96 1 fpg) (a := 95) (ci := 5) (k := 0) (fs := [.null, .int 0]) (.ref 96) (by rw [dz_n (by omega), va_up_self]) (by decide)
  obtain ⟨H2, b1, b2, b3⟩ := pV_x (k := 1) (.int 0) a2 (by simp)
  refine ⟨H2, ?_, b2, ?_, fun k k1 => ?_⟩
  · rw [c_newDz (F := va_up F 95 (.inr (5, [.null, .int 0]))) (a := 96) 97 rfl, Option.bind_some, a1, Option.bind_some, pZ, if_pos (Or.inl rfl), b1, Option.bind_some]
  · refine isDz_fr (isDz_dz (va_up F 95 (.inr (5, [.null, .int 0]))) 96 1 fpg) (fun k k1 k2 => ?_)
    rw [b3 k (by omega), a3 k (by omega)]
  · rw [b3 k (by omega), a3 k (by omega), dz_n (by omega), va_up_ne _ _ (by omega)]
theorem i_X5_101 (F : Hp) : ∃ H, g_X5_init 102 (va_up F 101 (.inr (5, [.null, .int 0]))) 101 = some H ∧ H 101 = .inr (5, [.ref 102, .int 0]) ∧ isDz H 102 1 fpg ∧ ∀ k, k < 101 ∨ 107 ≤ k → H k = F k := by
  unfold g_X5_init
  simp only [letH, Nat.reduceAdd]
  obtain ⟨H1, a1, a2, a3⟩ := pV_x (H := dz (va_up F 101 (.inr (5, [.null, .int 0]))) 102 1 fpg) (a := 101) (ci := 5) (k := 0) (fs := [.null, .int 0]) (.ref 102) (by rw [dz_n (by omega), va_up_self]) (by decide)
  obtain ⟨H2, b1, b2, b3⟩ := pV_x (k := 1) (.int 0) a2 (by simp)
  refine ⟨H2, ?_, b2, ?_, fun k k1 => ?_⟩
  · rw [c_newDz (F := va_up F 101 (.inr (5, [.null, .int 0]))) (a := 102) 103 rfl, Option.bind_some, a1, Option.bind_some, pZ, if_pos (Or.inl rfl), b1, Option.bind_some]
  · refine isDz_fr (isDz_dz (va_up F 101 (.inr (5, [.null, .int 0]))) 102 1 fpg) (fun k k1 k2 => ?_)
    rw [b3 k (by omega), a3 k (by omega)]
  · rw [b3 k (by omega), a3 k (by omega), dz_n (by omega), va_up_ne _ _ (by omega)]
