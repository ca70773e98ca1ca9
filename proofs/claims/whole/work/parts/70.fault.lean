/-! fault: what the text says -/
def fg (x : Int32) : Bool := decide (1 ≤ x - 48 ∧ x - 48 ≤ 9)
def ltr (x : Int32) : Bool := decide (x = 97 ∨ x = 98)
def okS (p : Nat) (x : Int32) : Bool := if p = 0 then decide (x = 76) else if p = 2 ∧ x = 49 then false else fg x || (decide (9 ≤ p) && ltr x)
def fp (t : Nat → Int32) : Nat → Nat → Int32
  | 0, p => if p < 9 then nI p else -9
  | r + 1, p => if okS p (t p) = true then fp t r (p + 1) else nI p
theorem may29 {F : Hp} {p : Nat} {x : Int32} (hp : p < 80) : g_X6_mayStand_b29 F (nI p) x = some (if (fg x || (decide (9 ≤ p) && ltr x)) = true then 1 else 0, F) := by
  unfold g_X6_mayStand_b29 g_X6_mayStand_b57
  rw [c_isFigure, bnd2_s]
  by_cases h : 1 ≤ x - 48 ∧ x - 48 ≤ 9
  · rw [if_pos h, if_neg (by decide), show fg x = true from decide_eq_true h, Bool.true_or, if_pos rfl]
  · rw [if_neg h, if_pos rfl, show fg x = false from decide_eq_false h, Bool.false_or]
    by_cases h9 : 9 ≤ p
    · rw [if_neg (show ¬ nI p < 9 from nI_nlt (b := 9) h9 (by omega)), show decide (9 ≤ p) = true from decide_eq_true h9, Bool.true_and]
      by_cases a : x = 97
      · rw [if_pos a, show ltr x = true from decide_eq_true (Or.inl a), if_pos rfl]
      · rw [if_neg a]
        by_cases b : x = 98
        · rw [if_pos b, show ltr x = true from decide_eq_true (Or.inr b), if_pos rfl]
        · have lf' : ltr x = false := decide_eq_false (not_or.mpr ⟨a, b⟩)
          rw [if_neg b, lf']
          rfl
    · rw [if_pos (show nI p < 9 from nI_lt (b := 9) (by omega) (by omega)), show decide (9 ≤ p) = false from decide_eq_false h9, Bool.false_and]
      rfl
theorem c_may {F : Hp} {p : Nat} {x : Int32} (hp : p < 80) : g_X6_mayStand F (nI p) x = some (if okS p x = true then 1 else 0, F) := by
  unfold g_X6_mayStand okS
  rw [may29 hp]
  by_cases p0 : p = 0
  · subst p0
    rw [if_pos (show nI 0 = 0 from rfl), if_pos rfl]
    by_cases a : x = 76
    · rw [if_pos a, show decide (x = 76) = true from decide_eq_true a, if_pos rfl]
    · rw [if_neg a, show decide (x = 76) = false from decide_eq_false a]
      rfl
  · rw [if_neg (show ¬ nI p = 0 from fun z => p0 ((nI_eq (b := 0) (by omega) (by omega)).mp z)), if_neg p0]
    by_cases p2 : p = 2
    · rw [if_pos (show nI p = 2 from (nI_eq (b := 2) (by omega) (by omega)).mpr p2)]
      by_cases a : x = 49
      · rw [if_pos a, if_pos (show p = 2 ∧ x = 49 from ⟨p2, a⟩)]
        rfl
      · rw [if_neg a, if_neg (show ¬ (p = 2 ∧ x = 49) from fun z => a z.2)]
    · rw [if_neg (show ¬ nI p = 2 from fun z => p2 ((nI_eq (b := 2) (by omega) (by omega)).mp z)), if_neg (show ¬ (p = 2 ∧ x = 49) from fun z => p2 z.1)]
section FA
variable {F : Hp} {N : Nat → Nat} {T : Nat → Nat → Int32} {c : Nat → Nat} {G : Nat → Nat → Int32} {sd : Int64}
theorem c_sign {p : Nat} (h8 : N 0 ≤ 80) (hp : p < N 0) (h1 : F 1 = .inr (6, [.ref 2, .int (nI (N 0))])) (h2 : F 2 = .inl (0, 80, .inl (T 0))) : g_X6_signAt F 1 (nI p) = some (T 0 p, F) := by
  have g1 : gI F 1 6 1 = some (nI (N 0)) := by simp only [gI, gV, h1]; rfl
  have g0 : gR F 1 6 0 = some 2 := by simp only [gR, gV, h1]; rfl
  have n2 : aN F 2 = some (nI 80) := by simp only [aN, h2]; rfl
  rw [g_X6_signAt, if_neg (nI_pos (by omega)), g1, Option.bind_some, if_neg (nI_ge hp (by omega)), g0, Option.bind_some, n2, Option.bind_some, if_neg (nI_ge (by omega) (by omega)), Option.bind_some, arr_ld h2 (by omega) (by omega), Option.bind_some]
theorem c_faL (h8 : N 0 ≤ 80) (hC : CS F N T c G sd) : ∀ (r p n : Nat), p + r = N 0 → r < n → g_X6_faultPlace_b2 n F 1 (nI p) = some (fp (T 0) r p, F) := by
  intro r
  induction r with
  | zero =>
    intro p n hp hn
    obtain ⟨n, rfl⟩ : ∃ n', n = n' + 1 := ⟨n - 1, by omega⟩
    obtain rfl : p = N 0 := by omega
    rw [g_X6_faultPlace_b2, CS_t1 hC, Option.bind_some, if_pos (nI_le (by omega) (by omega)), Option.bind_some, fp]
    by_cases q : N 0 < 9
    · rw [if_neg (show ¬ (9 : Int32) ≤ nI (N 0) from nI_ge (b := 9) q (by omega)), if_pos q, Option.bind_some]
    · rw [if_pos (show (9 : Int32) ≤ nI (N 0) from nI_le (a := 9) (by omega) (by omega)), if_neg q]
  | succ r ih =>
    intro p n hp hn
    obtain ⟨n, rfl⟩ : ∃ n', n = n' + 1 := ⟨n - 1, by omega⟩
    rw [g_X6_faultPlace_b2, CS_t1 hC, Option.bind_some, if_neg (nI_ge (by omega) (by omega)), ckO_t (CS_to hC), c_sign h8 (by omega) hC.2.1.1 hC.2.1.2, bnd2_s, c_may (by omega), bnd2_s, nI_1, fp]
    by_cases q : okS p (T 0 p) = true
    · rw [if_pos q, if_neg (by decide), if_pos q]
      exact ih (p + 1) n (by omega) (by omega)
    · rw [if_neg q, if_pos rfl, if_neg q]
theorem c_fault {B : Nat} (hW : WS B N T c G) (hC : CS F N T c G sd) : g_X6_faultPlace F 1 = some (fp (T 0) (N 0) 0, F) := c_faL hW.1 hC (N 0) 0 gF (by omega) (by have := hW.1; unfold gF; omega)
end FA
/-! the reference reads -/
def l4 (e : Nat) : Nat → Nat → (Nat → Int32) → (Nat → Int32)
  | 0, _, w => w
  | r + 1, j, w => l4 e r (j + 1) (upd w (11 + 14 * e + j) 1)
def zr (k : Nat) (w : Nat → Int32) : Nat → Int32 := fun i => if i < k then 0 else w i
def frst (w : Nat → Int32) : Nat → Int32 := l4 1 4 0 (l4 0 4 0 (upd (upd (zr 39 w) 9 1) 10 2))
section LF
variable {F : Hp} {s : Nat → Int32} {sd : Int64} {ar : Nat → Nat → Int32}
theorem m_l37 {p e : Nat} {rec : Hp → Nat → Int32 → Option Hp} (hp : p = 109 ∨ p = 111 ∨ p = 112 ∨ p = 114) (he : e = 0 ∨ e = 1) : ∀ (r j n : Nat) (w : Nat → Int32), j + r = 4 → r < n → g_X8_layFirst_b37 rec n (mh F s sd (va_up ar p w)) p (nI e) (nI j) = rec (mh F s sd (va_up ar p (l4 e r j w))) p (nI (e + 1)) := by
  obtain ⟨p1, p7, pn, pk⟩ := pq39 hp
  intro r
  induction r with
  | zero =>
    intro j n w hj hn
    obtain ⟨n, rfl⟩ : ∃ n', n = n' + 1 := ⟨n - 1, by omega⟩
    rw [g_X8_layFirst_b37, if_pos (show (4 : Int32) ≤ nI j from nI_le (a := 4) (by omega) (by omega)), nI_1, l4]
  | succ r ih =>
    intro j n w hj hn
    obtain ⟨n, rfl⟩ : ∃ n', n = n' + 1 := ⟨n - 1, by omega⟩
    rw [g_X8_layFirst_b37, if_neg (show ¬ (4 : Int32) ≤ nI j from nI_ge (b := 4) (by omega) (by omega)), at_e, nI_add, mh_st _ _ _ _ p1 pk pn (by omega) (by omega), Option.bind_some, nI_1, va_up_self, va_up2, l4]
    exact ih (j + 1) n _ (by omega) (by omega)
theorem m_lfL {p : Nat} (hp : p = 109 ∨ p = 111 ∨ p = 112 ∨ p = 114) : ∀ (r k n : Nat), k + r = 39 → r < n → g_X8_layFirst_b2 n (mh F s sd (va_up ar p (zr k (ar p)))) p (nI k) = some (mh F s sd (va_up ar p (frst (ar p)))) := by
  obtain ⟨p1, p7, pn, pk⟩ := pq39 hp
  intro r
  induction r with
  | zero =>
    intro k n hk hn
    obtain ⟨n, rfl⟩ : ∃ n', n = n' + 1 := ⟨n - 1, by omega⟩
    obtain rfl : k = 39 := by omega
    rw [g_X8_layFirst_b2, if_pos (show (39 : Int32) ≤ nI 39 by decide), show sI (mh F s sd (va_up ar p (zr 39 (ar p)))) p 0 9 1 = _ from mh_st _ _ _ _ (j := 9) p1 pk pn (by omega) (by omega) 1, Option.bind_some, va_up_self, va_up2, show sI (mh F s sd (va_up ar p (upd (zr 39 (ar p)) 9 1))) p 0 10 2 = _ from mh_st _ _ _ _ (j := 10) p1 pk pn (by omega) (by omega) 2, Option.bind_some, va_up_self, va_up2]
    have g0 : ∀ n w, g_X8_layFirst_b30 (n + 1 + 1 + 1) (mh F s sd (va_up ar p w)) p (nI 0) = some (mh F s sd (va_up ar p (l4 1 4 0 (l4 0 4 0 w)))) := by
      intro n w
      rw [g_X8_layFirst_b30, if_neg (show ¬ (2 : Int32) ≤ nI 0 by decide), show g_X8_layFirst_b37 (g_X8_layFirst_b30 (n + 1 + 1)) gF (mh F s sd (va_up ar p w)) p (nI 0) 0 = _ from m_l37 hp (Or.inl rfl) 4 0 gF w (by omega) (by unfold gF; omega), g_X8_layFirst_b30, if_neg (show ¬ (2 : Int32) ≤ nI (0 + 1) by decide), show g_X8_layFirst_b37 (g_X8_layFirst_b30 (n + 1)) gF (mh F s sd (va_up ar p (l4 0 4 0 w))) p (nI (0 + 1)) 0 = _ from m_l37 (e := 1) hp (Or.inr rfl) 4 0 gF _ (by omega) (by unfold gF; omega), g_X8_layFirst_b30, if_pos (show (2 : Int32) ≤ nI (1 + 1) by decide)]
    exact g0 997 _
  | succ r ih =>
    intro k n hk hn
    obtain ⟨n, rfl⟩ : ∃ n', n = n' + 1 := ⟨n - 1, by omega⟩
    have e1 : upd (zr k (ar p)) k 0 = zr (k + 1) (ar p) := by
      funext i
      by_cases q : i = k
      · subst q
        rw [upd_s]
        unfold zr
        rw [if_pos (by omega)]
      · rw [upd_n _ _ q]
        unfold zr
        by_cases q2 : i < k
        · rw [if_pos q2, if_pos (by omega)]
        · rw [if_neg q2, if_neg (by omega)]
    rw [g_X8_layFirst_b2, if_neg (show ¬ (39 : Int32) ≤ nI k from nI_ge (b := 39) (by omega) (by omega)), mh_st _ _ _ _ p1 pk pn (show k < 39 by omega) (by omega), Option.bind_some, nI_1, va_up_self, va_up2, e1]
    exact ih (k + 1) n (by omega) (by omega)
theorem m_layFirst {p : Nat} (hp : p = 109 ∨ p = 111 ∨ p = 112 ∨ p = 114) : g_X8_layFirst (mh F s sd ar) p = some (mh F s sd (va_up ar p (frst (ar p)))) := by
  have g := m_lfL (F := F) (s := s) (sd := sd) (ar := ar) hp 39 0 gF (by omega) (by unfold gF; omega)
  rw [show zr 0 (ar p) = ar p from by funext i; unfold zr; rw [if_neg (by omega)], va_up_eta rfl] at g
  exact g
end LF
