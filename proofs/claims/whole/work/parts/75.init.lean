/-! the start: a new Doze -/
def fpg : Nat → Int32 := fun i => if i = 9 then 1 else if i = 10 then 2 else if i = 11 ∨ i = 12 ∨ i = 13 ∨ i = 14 ∨ i = 25 ∨ i = 26 ∨ i = 27 ∨ i = 28 then 1 else 0
def mk (F : Hp) (a : Nat) (A S0 L0 S1 L1 : va_E) : Hp := fun k => if k = a then A else if k = a + 1 then S0 else if k = a + 2 then L0 else if k = a + 3 then S1 else if k = a + 4 then L1 else F k
section IN
variable {F : Hp} {a : Nat} {A S0 L0 S1 L1 : va_E}
theorem mk_0 : mk F a A S0 L0 S1 L1 a = A := by unfold mk; rw [if_pos rfl]
theorem mk_1 : mk F a A S0 L0 S1 L1 (a + 1) = S0 := by unfold mk; rw [if_neg (by omega), if_pos rfl]
theorem mk_3 : mk F a A S0 L0 S1 L1 (a + 3) = S1 := by unfold mk; rw [if_neg (by omega), if_neg (by omega), if_neg (by omega), if_pos rfl]
theorem mk_u0 (v : va_E) : va_up (mk F a A S0 L0 S1 L1) a v = mk F a v S0 L0 S1 L1 := by
  funext k
  by_cases q : k = a
  · subst q
    rw [va_up_self, mk_0]
  · rw [va_up_ne _ _ q]
    unfold mk
    rw [if_neg q, if_neg q]
theorem mk_u1 (v : va_E) : va_up (mk F a A S0 L0 S1 L1) (a + 1) v = mk F a A v L0 S1 L1 := by
  funext k
  by_cases q : k = a + 1
  · subst q
    rw [va_up_self, mk_1]
  · rw [va_up_ne _ _ q]
    unfold mk
    rw [if_neg q, if_neg q]
theorem mk_u2 (v : va_E) : va_up (mk F a A S0 L0 S1 L1) (a + 2) v = mk F a A S0 v S1 L1 := by
  funext k
  by_cases q : k = a + 2
  · subst q
    rw [va_up_self]
    unfold mk
    rw [if_neg (by omega), if_neg (by omega), if_pos rfl]
  · rw [va_up_ne _ _ q]
    unfold mk
    rw [if_neg q, if_neg q]
theorem mk_u3 (v : va_E) : va_up (mk F a A S0 L0 S1 L1) (a + 3) v = mk F a A S0 L0 v L1 := by
  funext k
  by_cases q : k = a + 3
  · subst q
    rw [va_up_self, mk_3]
  · rw [va_up_ne _ _ q]
    unfold mk
    rw [if_neg q, if_neg q]
theorem mk_u4 (v : va_E) : va_up (mk F a A S0 L0 S1 L1) (a + 4) v = mk F a A S0 L0 S1 v := by
  funext k
  by_cases q : k = a + 4
  · subst q
    rw [va_up_self]
    unfold mk
    rw [if_neg (by omega), if_neg (by omega), if_neg (by omega), if_neg (by omega), if_pos rfl]
  · rw [va_up_ne _ _ q]
    unfold mk
    rw [if_neg q, if_neg q]
theorem mk_F : F = mk F a (F a) (F (a + 1)) (F (a + 2)) (F (a + 3)) (F (a + 4)) := by
  funext k
  unfold mk
  by_cases q0 : k = a
  · rw [if_pos q0, q0]
  · rw [if_neg q0]
    by_cases q1 : k = a + 1
    · rw [if_pos q1, q1]
    · rw [if_neg q1]
      by_cases q2 : k = a + 2
      · rw [if_pos q2, q2]
      · rw [if_neg q2]
        by_cases q3 : k = a + 3
        · rw [if_pos q3, q3]
        · rw [if_neg q3]
          by_cases q4 : k = a + 4
          · rw [if_pos q4, q4]
          · rw [if_neg q4]
theorem mk_p0 {ci k : Nat} {fs : List Value} (v : Value) (h : k < fs.length) : pV (mk F a (.inr (ci, fs)) S0 L0 S1 L1) a ci k v = some (mk F a (.inr (ci, fs.set k v)) S0 L0 S1 L1) := by
  unfold pV
  rw [mk_0]
  show (if ci = ci ∧ k < fs.length then some (va_up (mk F a (.inr (ci, fs)) S0 L0 S1 L1) a (.inr (ci, fs.set k v))) else none) = _
  rw [if_pos ⟨rfl, h⟩, mk_u0]
theorem mk_p1 {ci k : Nat} {fs : List Value} (v : Value) (h : k < fs.length) : pV (mk F a A (.inr (ci, fs)) L0 S1 L1) (a + 1) ci k v = some (mk F a A (.inr (ci, fs.set k v)) L0 S1 L1) := by
  unfold pV
  rw [mk_1]
  show (if ci = ci ∧ k < fs.length then some (va_up (mk F a A (.inr (ci, fs)) L0 S1 L1) (a + 1) (.inr (ci, fs.set k v))) else none) = _
  rw [if_pos ⟨rfl, h⟩, mk_u1]
theorem mk_p3 {ci k : Nat} {fs : List Value} (v : Value) (h : k < fs.length) : pV (mk F a A S0 L0 (.inr (ci, fs)) L1) (a + 3) ci k v = some (mk F a A S0 L0 (.inr (ci, fs.set k v)) L1) := by
  unfold pV
  rw [mk_3]
  show (if ci = ci ∧ k < fs.length then some (va_up (mk F a A S0 L0 (.inr (ci, fs)) L1) (a + 3) (.inr (ci, fs.set k v))) else none) = _
  rw [if_pos ⟨rfl, h⟩, mk_u3]
theorem mk_dz : mk F a (.inr (1, dzO a 1 fpg)) (.inr (3, dzS 11 fpg (a + 2))) (.inl (0, 9, .inl (fun _ => 0))) (.inr (3, dzS 25 fpg (a + 4))) (.inl (0, 9, .inl (fun _ => 0))) = dz F a 1 fpg := by
  have l1 : lf 16 fpg = fun _ => 0 := by
    funext k
    unfold lf fpg
    split
    · rw [if_neg (by omega), if_neg (by omega), if_neg (by omega)]
    · rfl
  have l2 : lf 30 fpg = fun _ => 0 := by
    funext k
    unfold lf fpg
    split
    · rw [if_neg (by omega), if_neg (by omega), if_neg (by omega)]
    · rfl
  funext k
  unfold mk dz
  rw [l1, l2]
theorem c_newDm : g_X1_init (a + 1) (va_up (mk F a A S0 L0 S1 L1) a (.inr (1, [.null, .null, .int 0, .int 0, .int 0, .int 0, .int 0, .int 0, .int 0, .int 0, .int 0, .int 0, .int 0, .int 0]))) a = some (mk F a (.inr (1, dzO a 1 fpg)) (.inr (3, dzS 11 fpg (a + 2))) (.inl (0, 9, .inl (fun _ => 0))) (.inr (3, dzS 25 fpg (a + 4))) (.inl (0, 9, .inl (fun _ => 0)))) := by
  rw [mk_u0, g_X1_init, letH, mk_u1, g_X3_init]
  rw [mk_p1 _ (by simp), Option.bind_some, mk_p1 _ (by simp), Option.bind_some, mk_p1 _ (by simp), Option.bind_some, mk_p1 _ (by simp), Option.bind_some, mk_p1 _ (by simp), Option.bind_some, letH, show a + 1 + 1 = a + 2 from rfl, mk_u2, mk_p1 _ (by simp), Option.bind_some, Option.bind_some, mk_p0 _ (by simp), Option.bind_some, letH, show a + 1 + 2 = a + 3 from rfl, mk_u3, g_X3_init, mk_p3 _ (by simp), Option.bind_some, mk_p3 _ (by simp), Option.bind_some, mk_p3 _ (by simp), Option.bind_some, mk_p3 _ (by simp), Option.bind_some, mk_p3 _ (by simp), Option.bind_some, letH, show a + 1 + 3 = a + 4 from rfl, mk_u4, mk_p3 _ (by simp), Option.bind_some, Option.bind_some, mk_p0 _ (by simp), Option.bind_some, pZ, if_pos (Or.inr rfl), mk_p0 _ (by simp), Option.bind_some, mk_p0 _ (by simp), Option.bind_some, mk_p0 _ (by simp), Option.bind_some, mk_p0 _ (by simp), Option.bind_some, mk_p0 _ (by simp), Option.bind_some, mk_p0 _ (by simp), Option.bind_some, mk_p0 _ (by simp), Option.bind_some, mk_p0 _ (by simp), Option.bind_some, mk_p0 _ (by simp), Option.bind_some, mk_p0 _ (by simp), Option.bind_some, mk_p0 _ (by simp), Option.bind_some, mk_p0 _ (by simp), Option.bind_some]
  rfl
theorem c_newDz (n : Nat) (hn : n = a + 1) : g_X1_init n (va_up F a (.inr (1, [.null, .null, .int 0, .int 0, .int 0, .int 0, .int 0, .int 0, .int 0, .int 0, .int 0, .int 0, .int 0, .int 0]))) a = some (dz F a 1 fpg) := by
  subst hn
  have g := c_newDm (F := F) (a := a) (A := F a) (S0 := F (a + 1)) (L0 := F (a + 2)) (S1 := F (a + 3)) (L1 := F (a + 4))
  rw [← mk_F, mk_dz] at g
  exact g
end IN
