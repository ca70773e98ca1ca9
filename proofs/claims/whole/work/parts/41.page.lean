/-! pages: what both sides do to a link, as functions of a row of 39 numbers -/
def pg (F : Hp) (q : Nat) (w : Nat → Int32) : Hp := va_up F q (.inl (0, 39, .inl w))
theorem pg_self (F : Hp) (q : Nat) (w : Nat → Int32) : pg F q w q = .inl (0, 39, .inl w) := va_up_self _ _ _
theorem pg_ne {F : Hp} {q k : Nat} {w : Nat → Int32} (h : k ≠ q) : pg F q w k = F k := va_up_ne _ _ h
theorem va_up2 {α : Type} (f : Nat → α) (k : Nat) (v v' : α) : va_up (va_up f k v) k v' = va_up f k v' := by
  funext j
  by_cases h : j = k
  · subst h; rw [va_up_self, va_up_self]
  · rw [va_up_ne _ _ h, va_up_ne _ _ h, va_up_ne _ _ h]
theorem va_up_eta {α : Type} {f : Nat → α} {k : Nat} {v : α} (h : f k = v) : va_up f k v = f := by
  funext j
  by_cases hj : j = k
  · subst hj; rw [va_up_self, h]
  · rw [va_up_ne _ _ hj]
theorem pg_of {F : Hp} {q : Nat} {w : Nat → Int32} (h : F q = .inl (0, 39, .inl w)) : pg F q w = F := va_up_eta h
theorem pg_pg (F : Hp) (q : Nat) (w w' : Nat → Int32) : pg (pg F q w) q w' = pg F q w' := va_up2 _ _ _ _
theorem pg_ldl (F : Hp) (q : Nat) (w : Nat → Int32) (i : Int32) : aI (pg F q w) q 0 i = if i < 0 ∨ 39 ≤ i.toNatClampNeg then none else some (w i.toNatClampNeg) := by
  simp only [aI, gA, pg_self]
  rfl
theorem pg_stl (F : Hp) (q : Nat) (w : Nat → Int32) (i x : Int32) : sI (pg F q w) q 0 i x = if i < 0 ∨ 39 ≤ i.toNatClampNeg then none else some (pg F q (upd w i.toNatClampNeg x)) := by
  simp only [sI, gA, pg_self]
  simp only [if_true, pg, va_up2]
theorem pg_ld (F : Hp) (q : Nat) (w : Nat → Int32) {j : Nat} (hj : j < 39) : aI (pg F q w) q 0 (nI j) = some (w j) := by
  rw [pg_ldl, nI_clamp (by omega), if_neg]
  intro h
  rcases h with h | h
  · exact nI_pos (by omega) h
  · omega
theorem pg_st (F : Hp) (q : Nat) (w : Nat → Int32) {j : Nat} (x : Int32) (hj : j < 39) : sI (pg F q w) q 0 (nI j) x = some (pg F q (upd w j x)) := by
  rw [pg_stl, nI_clamp (by omega), if_neg]
  intro h
  rcases h with h | h
  · exact nI_pos (by omega) h
  · omega
theorem pg_gI {F : Hp} {q m ci k : Nat} {w : Nat → Int32} (h : m ≠ q) : gI (pg F q w) m ci k = gI F m ci k := by
  simp only [gI, gV, pg_ne h]
theorem pg_isO {F : Hp} {q m ci : Nat} {w : Nat → Int32} (h : m ≠ q) : isO (pg F q w) m ci = isO F m ci := by
  simp only [isO, pg_ne h]
theorem isO_of {F : Hp} {m ci k : Nat} {x : Int32} (h : gI F m ci k = some x) : isO F m ci = true := by
  obtain ⟨fs, h1, -⟩ := gI_spec h
  simp [isO, h1]
theorem ckO_t {α : Type} {F : Hp} {a ci : Nat} {A : Option α} (h : isO F a ci = true) : ckO F a ci A = A := by
  simp [ckO, h]
theorem bnd2_s {α β γ : Type} (a : α) (b : β) (K : α → β → Option γ) : bnd2 (some (a, b)) K = K a b := rfl
theorem upd_s (f : Nat → Int32) (k : Nat) (x : Int32) : upd f k x k = x := by simp [upd]
theorem upd_n (f : Nat → Int32) {k j : Nat} (x : Int32) (h : j ≠ k) : upd f k x j = f j := by simp [upd, h]
theorem at_e (e : Nat) : (11 + 14 * nI e : Int32) = nI (11 + 14 * e) := by
  rw [show (14 : Int32) = nI 14 from rfl, show (11 : Int32) = nI 11 from rfl, nI_mul, nI_add]
theorem nI_p2 (a : Nat) : nI a + 2 = nI (a + 2) := nI_add a 2
theorem nI_p3 (a : Nat) : nI a + 3 = nI (a + 3) := nI_add a 3
theorem nI_p4 (a : Nat) : nI a + 4 = nI (a + 4) := nI_add a 4
theorem nI_p5 (a : Nat) : nI a + 5 = nI (a + 5) := nI_add a 5
/-! the functions -/
def hN (e : Nat) (w : Nat → Int32) : Nat := (w (15 + 14 * e)).toNatClampNeg
def cnd (u : Bool) (e : Nat) (w : Nat → Int32) (k : Nat) : Bool := decide (0 < jrem (w (16 + 14 * e + k)) 10) || decide (w (13 + 14 * e) ≤ w 3 - w (16 + 14 * e + k) / 10) || !u
def dueL (u : Bool) (e : Nat) (w : Nat → Int32) : Nat → Nat → Bool
  | 0, _ => false
  | r + 1, k => cnd u e w k || dueL u e w r (k + 1)
def due (u : Bool) (e : Nat) (w : Nat → Int32) : Bool := decide (w (12 + 14 * e) ≤ w (15 + 14 * e)) || dueL u e w (hN e w) 0
def mx (v x : Int32) : Int32 := if x ≤ v then v else x
def wk (w : Nat → Int32) : Int32 := mx (mx (mx (mx 0 (w 11)) (w 14)) (w 25)) (w 28)
def shf (b h : Nat) (w : Nat → Int32) : Nat → Int32 := fun i => if b ≤ i ∧ i + 1 < b + h then w (i + 1) else w i
def snd (e : Nat) (w : Nat → Int32) : Nat → Int32 :=
  if w (15 + 14 * e) ≤ 0 then w else
    upd (upd (upd (upd (upd (shf (16 + 14 * e) (hN e w) w) (15 + 14 * e) (w (15 + 14 * e) - 1)) 5 (w 5 + 1)) 6 (w 6 + (w 3 - w (16 + 14 * e) / 10))) 7 (mx (w 7) (w 3 - w (16 + 14 * e) / 10))) (28 - 14 * e) (if jrem (w (16 + 14 * e)) 10 ≤ 0 then w (28 - 14 * e) else jrem (w (16 + 14 * e)) 10)
def emp (w : Nat → Int32) : Bool := decide (w 15 = 0) && decide (w 29 = 0)
def pwr (w : Nat → Int32) : Int32 := if w 0 = 2 then (if jrem (w 2 + 1) (w 10) = 0 then 5 else 1) else 9
def tk1 (w : Nat → Int32) : Nat → Int32 := upd (upd w 4 (w 4 + pwr w)) 3 (w 3 + 1)
def tkA (mg : Bool) (w2 : Nat → Int32) : Nat → Int32 := if emp w2 && mg then upd (upd w2 0 1) 1 (w2 9) else w2
def tkG (w2 : Nat → Int32) : Nat → Int32 := if w2 1 = 0 then upd (upd w2 0 2) 2 0 else upd (upd w2 0 1) 2 0
def tkS (u0 u1 : Bool) (w2 : Nat → Int32) : Nat → Int32 := if due u0 0 w2 || due u1 1 w2 then upd (upd (upd w2 0 3) 1 (wk w2)) 2 0 else w2
def tkW (w2 : Nat → Int32) : Nat → Int32 := if w2 1 = 0 then upd w2 0 0 else upd w2 0 3
/-- a tick -/
def tk (mg u0 u1 : Bool) (w : Nat → Int32) : Nat → Int32 :=
  if w 0 = 0 then tkA mg (snd 1 (snd 0 (tk1 w)))
  else if w 0 = 1 then tkG (upd (tk1 w) 1 (w 1 - 1))
  else if w 0 = 2 then tkS u0 u1 (upd (tk1 w) 2 (w 2 + 1))
  else tkW (upd (tk1 w) 1 (w 1 - 1))
/-- a letter comes -/
def cm (e : Nat) (t : Int32) (w : Nat → Int32) : Nat → Int32 := upd (upd w (16 + 14 * e + hN e w) (10 * w 3 + t)) (15 + 14 * e) (w (15 + 14 * e) + 1)
def bit (sv : Int32) (e : Int32) : Bool := decide (((sv >>> (e &&& 31)) &&& 1) = 1)
