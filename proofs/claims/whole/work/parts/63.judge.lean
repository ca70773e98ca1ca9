/-! judge: both sides -/
section JD
variable {F : Hp} {sd : Int64} {s : Nat → Int32} {ar : Nat → Nat → Int32} {a e t : Nat} {w : Nat → Int32}
theorem rs_f (k : ¬ dok a e t w = true) : some ((0 : Int32), dz F 15 1 w) = some (if dok a e t w = true then 1 else 0, dz F 15 1 (dop a e t w)) := by rw [if_neg k, dop, if_neg k]
theorem rs_t {p : Nat → Int32} (k : dok a e t w = true) (hp : (if a = 1 then cm e 0 w else if a = 2 then tkN true true true (10 * e + t) w else if a = 7 then upd w (11 + 14 * e + 1) (nI t) else w) = p) : some ((1 : Int32), dz F 15 1 p) = some (if dok a e t w = true then 1 else 0, dz F 15 1 (dop a e t w)) := by rw [if_pos k, dop, if_pos k, hp]
theorem rm_f (k : ¬ dok a e t (ar 114) = true) : some ((0 : Int32), mh F s sd ar) = some (if dok a e t (ar 114) = true then 1 else 0, mh F s sd (va_up ar 114 (dop a e t (ar 114)))) := by rw [if_neg k, dop, if_neg k, va_up_eta rfl]
theorem rm_0 (k : dok a e t (ar 114) = true) (hp : (if a = 1 then cm e 0 (ar 114) else if a = 2 then tkN true true true (10 * e + t) (ar 114) else if a = 7 then upd (ar 114) (11 + 14 * e + 1) (nI t) else (ar 114)) = ar 114) : some ((1 : Int32), mh F s sd ar) = some (if dok a e t (ar 114) = true then 1 else 0, mh F s sd (va_up ar 114 (dop a e t (ar 114)))) := by rw [if_pos k, dop, if_pos k, hp, va_up_eta rfl]
theorem rm_t {p : Nat → Int32} (k : dok a e t (ar 114) = true) (hp : (if a = 1 then cm e 0 (ar 114) else if a = 2 then tkN true true true (10 * e + t) (ar 114) else if a = 7 then upd (ar 114) (11 + 14 * e + 1) (nI t) else (ar 114)) = p) : some ((1 : Int32), mh F s sd (va_up ar 114 p)) = some (if dok a e t (ar 114) = true then 1 else 0, mh F s sd (va_up ar 114 (dop a e t (ar 114)))) := by rw [if_pos k, dop, if_pos k, hp]
theorem c_admits {C d : Nat} (hd : d = 100 * a + 10 * e + t) (ha : a ≤ 9) (hs : e ≤ 9) (ht : t ≤ 9) (hC : C + 20 < 100000000) (hw : Wf C w) : g_X1_admits (dz F 15 1 w) 15 (nI d) = some (if dok a e t w = true then 1 else 0, dz F 15 1 (dop a e t w)) := by
  have h1 : nI d / 100 = nI a := by
    rw [show (100 : Int32) = nI 100 from rfl, nI_div (by omega) (by omega) (by omega)]
    congr 1
    omega
  have h2 : jrem (nI d / 10) 10 = nI e := by
    rw [show (10 : Int32) = nI 10 from rfl, nI_div (by omega) (by omega) (by omega), nI_rem (by omega) (by omega) (by omega)]
    congr 1
    omega
  have h3 : jrem (nI d) 10 = nI t := by
    rw [show (10 : Int32) = nI 10 from rfl, nI_rem (by omega) (by omega) (by omega)]
    congr 1
    omega
  have h4 : jrem (nI d) 100 = nI (10 * e + t) := by
    rw [show (100 : Int32) = nI 100 from rfl, nI_rem (by omega) (by omega) (by omega)]
    congr 1
    omega
  have hE : e ≤ 1 → ∃ h, h ≤ 9 ∧ w (15 + 14 * e) = nI h ∧ ∀ k, k < h → ∃ v, v ≤ 10 * C + 9 ∧ w (16 + 14 * e + k) = nI v := fun q => hw.2.2.2.2.2.2 e (by omega)
  have is := ise hs
  unfold g_X1_admits
  rw [h1, h2, h3, h4]
  rcases (show a = 1 ∨ a = 2 ∨ a = 3 ∨ a = 4 ∨ a = 5 ∨ a = 6 ∨ a = 7 ∨ (a = 0 ∨ 8 ≤ a) by omega) with rfl | rfl | rfl | rfl | rfl | rfl | rfl | hz
  · rw [if_pos (show nI 1 = 1 from rfl), c_isEnd, bnd2_s]
    by_cases q : e ≤ 1
    · obtain ⟨h, h9, hh, -⟩ := hE q
      rw [if_pos (is.mpr q), if_neg (by decide)]
      by_cases q2 : t = 0
      · subst q2
        rw [if_pos (show nI 0 = 0 from rfl), ckO_t (dz_isO _ _ _ _), c_receive (by omega) hh h9]
        by_cases q3 : h < 9
        · rw [if_pos q3, bnd2_s, if_neg (by decide)]
          exact rs_t (by unfold dok; rw [if_pos rfl]; exact decide_eq_true ⟨q, rfl, by rw [hN_of hh h9]; exact q3⟩) (if_pos rfl)
        · rw [if_neg q3, bnd2_s, if_pos rfl]
          exact rs_f (by unfold dok; rw [if_pos rfl]; intro z; have := of_decide_eq_true z; rw [hN_of hh h9] at this; omega)
      · rw [if_neg (show ¬ nI t = 0 from fun z => q2 ((nI_eq (b := 0) (by omega) (by omega)).mp z))]
        exact rs_f (by unfold dok; rw [if_pos rfl]; intro z; have := of_decide_eq_true z; omega)
    · rw [if_neg (fun z => q (is.mp z)), if_pos rfl]
      exact rs_f (by unfold dok; rw [if_pos rfl]; intro z; have := of_decide_eq_true z; omega)
  · rw [if_neg (show ¬ nI 2 = 1 by decide), if_pos (show nI 2 = 2 from rfl), ckO_t (dz_isO _ _ _ _), g_X1_admitsTicks, c_isWithin, bnd2_s]
    by_cases q : 1 ≤ 10 * e + t ∧ 10 * e + t ≤ 20
    · have ce := c_elapse (F := F) (a := 15) (mg := 1) (m := 10 * e + t) (C := C) (by omega) (by omega) hw
      rw [show (decide (¬ (1 : Int32) = 0)) = true from rfl] at ce
      rw [if_pos ((rng20 (by omega)).mpr q), if_neg (by decide), ckO_t (dz_isO _ _ _ _), ce, Option.bind_some, bnd2_s, if_pos (Or.inr rfl)]
      exact rs_t (by unfold dok; rw [if_neg (by omega), if_pos rfl]; exact decide_eq_true q) (by rw [if_neg (by omega), if_pos rfl])
    · rw [if_neg (fun z => q ((rng20 (by omega)).mp z)), if_pos rfl, bnd2_s, if_pos (Or.inl rfl)]
      exact rs_f (by unfold dok; rw [if_neg (by omega), if_pos rfl]; intro z; exact q (of_decide_eq_true z))
  · rw [if_neg (show ¬ nI 3 = 1 by decide), if_neg (show ¬ nI 3 = 2 by decide), if_pos (show nI 3 = 3 from rfl)]
    by_cases q : e = 0
    · subst q
      rw [if_pos (show nI 0 = 0 from rfl), dz_g5, Option.bind_some]
      by_cases q2 : w 0 = nI t
      · rw [if_pos q2]
        exact rs_t (by unfold dok; rw [if_neg (by omega), if_neg (by omega), if_pos rfl]; exact decide_eq_true ⟨rfl, q2⟩) (by rw [if_neg (by omega), if_neg (by omega), if_neg (by omega)])
      · rw [if_neg q2]
        exact rs_f (by unfold dok; rw [if_neg (by omega), if_neg (by omega), if_pos rfl]; intro z; exact q2 (of_decide_eq_true z).2)
    · rw [if_neg (show ¬ nI e = 0 from fun z => q ((nI_eq (b := 0) (by omega) (by omega)).mp z))]
      exact rs_f (by unfold dok; rw [if_neg (by omega), if_neg (by omega), if_pos rfl]; intro z; exact q (of_decide_eq_true z).1)
  · rw [if_neg (show ¬ nI 4 = 1 by decide), if_neg (show ¬ nI 4 = 2 by decide), if_neg (show ¬ nI 4 = 3 by decide), if_pos (show nI 4 = 4 from rfl), c_isEnd, bnd2_s]
    by_cases q : e ≤ 1
    · rw [if_pos (is.mpr q), if_neg (by decide), ckO_t (dz_isO _ _ _ _), c_side (by omega), bnd2_s, dz_sg4 _ _ _ _ (by omega), Option.bind_some, show 11 + 14 * e + 4 = 15 + 14 * e by omega]
      by_cases q2 : w (15 + 14 * e) = nI t
      · rw [if_pos q2]
        exact rs_t (by unfold dok; rw [if_neg (by omega), if_neg (by omega), if_neg (by omega), if_pos rfl]; exact decide_eq_true ⟨q, q2⟩) (by rw [if_neg (by omega), if_neg (by omega), if_neg (by omega)])
      · rw [if_neg q2]
        exact rs_f (by unfold dok; rw [if_neg (by omega), if_neg (by omega), if_neg (by omega), if_pos rfl]; intro z; exact q2 (of_decide_eq_true z).2)
    · rw [if_neg (fun z => q (is.mp z)), if_pos rfl]
      exact rs_f (by unfold dok; rw [if_neg (by omega), if_neg (by omega), if_neg (by omega), if_pos rfl]; intro z; exact q (of_decide_eq_true z).1)
  · rw [if_neg (show ¬ nI 5 = 1 by decide), if_neg (show ¬ nI 5 = 2 by decide), if_neg (show ¬ nI 5 = 3 by decide), if_neg (show ¬ nI 5 = 4 by decide), if_pos (show nI 5 = 5 from rfl), c_isEnd, bnd2_s]
    by_cases q : e ≤ 1
    · obtain ⟨h, h9, hh, hl⟩ := hE q
      rw [if_pos (is.mpr q), if_neg (by decide), ckO_t (dz_isO _ _ _ _), c_side (by omega), bnd2_s, dz_g8, Option.bind_some, ckO_t (dz_isS _ _ _ _ (by omega)), c_isDue (by omega) hh h9 (fun k hk => by obtain ⟨v, v1, v2⟩ := hl k hk; exact ⟨v, by omega, v2⟩), bnd2_s]
      have key : ∀ x : Int32, (if due true e w = true then (1 : Int32) else 0) = x → g_X1_admits_b168 (dz F 15 1 w) (nI t) x = some (if dok 5 e t w = true then 1 else 0, dz F 15 1 (dop 5 e t w)) := by
        intro x hx
        unfold g_X1_admits_b168
        by_cases q2 : nI t = x
        · rw [if_pos q2]
          exact rs_t (by unfold dok; rw [if_neg (by omega), if_neg (by omega), if_neg (by omega), if_neg (by omega), if_pos rfl]; exact decide_eq_true ⟨q, by rw [hx]; exact q2⟩) (by rw [if_neg (by omega), if_neg (by omega), if_neg (by omega)])
        · rw [if_neg q2]
          exact rs_f (by unfold dok; rw [if_neg (by omega), if_neg (by omega), if_neg (by omega), if_neg (by omega), if_pos rfl]; intro z; have := (of_decide_eq_true z).2; rw [hx] at this; exact q2 this)
      by_cases q3 : due true e w = true
      · rw [if_pos q3, if_neg (by decide)]
        exact key 1 (if_pos q3)
      · rw [if_neg q3, if_pos rfl]
        exact key 0 (if_neg q3)
    · rw [if_neg (fun z => q (is.mp z)), if_pos rfl]
      exact rs_f (by unfold dok; rw [if_neg (by omega), if_neg (by omega), if_neg (by omega), if_neg (by omega), if_pos rfl]; intro z; exact q (of_decide_eq_true z).1)
  · rw [if_neg (show ¬ nI 6 = 1 by decide), if_neg (show ¬ nI 6 = 2 by decide), if_neg (show ¬ nI 6 = 3 by decide), if_neg (show ¬ nI 6 = 4 by decide), if_neg (show ¬ nI 6 = 5 by decide), if_pos (show nI 6 = 6 from rfl), dz_g10, Option.bind_some]
    by_cases q2 : w 5 = nI (10 * e + t)
    · rw [if_pos q2]
      exact rs_t (by unfold dok; rw [if_neg (by omega), if_neg (by omega), if_neg (by omega), if_neg (by omega), if_neg (by omega), if_pos rfl]; exact decide_eq_true q2) (by rw [if_neg (by omega), if_neg (by omega), if_neg (by omega)])
    · rw [if_neg q2]
      exact rs_f (by unfold dok; rw [if_neg (by omega), if_neg (by omega), if_neg (by omega), if_neg (by omega), if_neg (by omega), if_pos rfl]; intro z; exact q2 (of_decide_eq_true z))
  · rw [if_neg (show ¬ nI 7 = 1 by decide), if_neg (show ¬ nI 7 = 2 by decide), if_neg (show ¬ nI 7 = 3 by decide), if_neg (show ¬ nI 7 = 4 by decide), if_neg (show ¬ nI 7 = 5 by decide), if_neg (show ¬ nI 7 = 6 by decide), if_pos (show nI 7 = 7 from rfl), c_isEnd, bnd2_s]
    by_cases q : e ≤ 1
    · have fg : ((1 : Int32) ≤ nI t ∧ nI t ≤ 9) ↔ 1 ≤ t := by
        rw [show ((1 : Int32) ≤ nI t) ↔ 1 ≤ t from nI_le_iff (a := 1) (by omega) (by omega), show (nI t ≤ 9) ↔ t ≤ 9 from nI_le_iff (b := 9) (by omega) (by omega)]
        omega
      rw [if_pos (is.mpr q), if_neg (by decide), ckO_t (dz_isO _ _ _ _), g_X1_admitsCount, c_isFigure, bnd2_s]
      by_cases q2 : 1 ≤ t
      · rw [if_pos (fg.mpr q2), if_neg (by decide), ckO_t (dz_isO _ _ _ _), c_side (by omega), bnd2_s, dz_sp1 _ _ _ _ (by omega), Option.bind_some, bnd2_s, if_neg (by decide)]
        exact rs_t (by unfold dok; rw [if_neg (by omega), if_neg (by omega), if_neg (by omega), if_neg (by omega), if_neg (by omega), if_neg (by omega), if_pos rfl]; exact decide_eq_true ⟨q, q2⟩) (by rw [if_neg (by omega), if_neg (by omega), if_pos rfl])
      · rw [if_neg (fun z => q2 (fg.mp z)), if_pos rfl, bnd2_s, if_pos rfl]
        exact rs_f (by unfold dok; rw [if_neg (by omega), if_neg (by omega), if_neg (by omega), if_neg (by omega), if_neg (by omega), if_neg (by omega), if_pos rfl]; intro z; exact q2 (of_decide_eq_true z).2)
    · rw [if_neg (fun z => q (is.mp z)), if_pos rfl]
      exact rs_f (by unfold dok; rw [if_neg (by omega), if_neg (by omega), if_neg (by omega), if_neg (by omega), if_neg (by omega), if_neg (by omega), if_pos rfl]; intro z; exact q (of_decide_eq_true z).1)
  · have ne : ∀ k : Nat, 1 ≤ k → k ≤ 7 → ¬ nI a = nI k := fun k k1 k2 z => by have := nI_inj (by omega) (by omega) z; omega
    rw [if_neg (show ¬ nI a = 1 from ne 1 (by omega) (by omega)), if_neg (show ¬ nI a = 2 from ne 2 (by omega) (by omega)), if_neg (show ¬ nI a = 3 from ne 3 (by omega) (by omega)), if_neg (show ¬ nI a = 4 from ne 4 (by omega) (by omega)), if_neg (show ¬ nI a = 5 from ne 5 (by omega) (by omega)), if_neg (show ¬ nI a = 6 from ne 6 (by omega) (by omega)), if_neg (show ¬ nI a = 7 from ne 7 (by omega) (by omega))]
    exact rs_f (by unfold dok; rw [if_neg (by omega), if_neg (by omega), if_neg (by omega), if_neg (by omega), if_neg (by omega), if_neg (by omega), if_neg (by omega)]; decide)
theorem m_doesL {b : Nat} (hs : s 21 = 7) (hb : b ≤ 99) : ∀ (r k n C : Nat) (ar : Nat → Nat → Int32), k + r = b → (b ≤ 20 ∨ k = 0) → (b ≤ 20 → r < n) → 0 < n → C + 20 < 100000000 + k → Wf C (ar 114) → C + r ≤ 99999990 → g_X8_does_b100 n (mh F s sd ar) 107 (nI b) (nI k) = some (if 1 ≤ b ∧ b ≤ 20 then 1 else 0, mh F s sd (va_up ar 114 (if b ≤ 20 then tkN true true true r (ar 114) else ar 114))) := by
  have b128 : ∀ G : Hp, g_X8_does_b128 G (nI b) = some (if 1 ≤ b ∧ b ≤ 20 then 1 else 0, G) := by
    intro G
    unfold g_X8_does_b128
    rw [m_in _ _ 1 20 1 20 (by decide) (by decide), bnd2_s]
    by_cases q : 1 ≤ b ∧ b ≤ 20
    · rw [if_pos ((rng20 hb).mpr q), if_pos (Or.inr rfl), if_pos q]
    · rw [if_neg (fun z => q ((rng20 hb).mp z)), if_pos (Or.inl rfl), if_neg q]
  intro r
  induction r with
  | zero =>
    intro k n C ar hk hk2 hn hn0 hC hw hCr
    obtain ⟨n, rfl⟩ : ∃ n', n = n' + 1 := ⟨n - 1, by omega⟩
    rw [g_X8_does_b100, if_pos (nI_le (by omega) (by omega)), b128, tkN, show (if b ≤ 20 then ar 114 else ar 114) = ar 114 by split <;> rfl, va_up_eta rfl]
  | succ r ih =>
    intro k n C ar hk hk2 hn hn0 hC hw hCr
    obtain ⟨n, rfl⟩ : ∃ n', n = n' + 1 := ⟨n - 1, by omega⟩
    by_cases q : b ≤ 20
    · have hw2 := Wf_tk true true true (by omega) hw
      have hi := ih (k + 1) n (C + 1) (va_up ar 114 (tk true true true (ar 114))) (by omega) (by omega) (by omega) (by omega) (by omega) (by rw [va_up_self]; exact hw2) (by omega)
      rw [va_up_self, va_up2, if_pos q] at hi
      rw [g_X8_does_b100, if_neg (nI_ge (by omega) (by omega)), if_neg (show ¬ (21 : Int32) ≤ nI b from nI_ge (b := 21) (by omega) (by omega)), mh_r11, Option.bind_some, ckO_t (mh_isO _ _ _ _), mt (by omega) hw, Option.bind_some, nI_1, hs, if_pos q]
      exact hi
    · rw [g_X8_does_b100, if_neg (nI_ge (by omega) (by omega)), if_pos (show (21 : Int32) ≤ nI b from nI_le (a := 21) (by omega) (by omega)), b128, if_neg q, va_up_eta rfl]
theorem m_does {C : Nat} (h7 : s 21 = 7) (ha : a ≤ 9) (hs : e ≤ 9) (ht : t ≤ 9) (hC : C + 120 < 99999990) (hw : Wf C (ar 114)) : g_X8_does (mh F s sd ar) 107 (nI a) (nI e) (nI t) = some (if dok a e t (ar 114) = true then 1 else 0, mh F s sd (va_up ar 114 (dop a e t (ar 114)))) := by
  have hE : e ≤ 1 → ∃ h, h ≤ 9 ∧ ar 114 (15 + 14 * e) = nI h := fun q => by
    obtain ⟨h, h1, h2, -⟩ := hw.2.2.2.2.2.2 e (by omega)
    exact ⟨h, h1, h2⟩
  have is := ise hs
  have b20 : g_X8_does (mh F s sd ar) 107 (nI a) (nI e) (nI t) = g_X8_does_b20 (mh F s sd ar) 107 (nI a) (nI e) (nI t) (nI (10 * e + t)) (if e ≤ 1 then 1 else 0) := by
    unfold g_X8_does
    rw [m_noEnd, bnd2_s, show (10 * nI e + nI t : Int32) = nI (10 * e + t) by rw [show (10 : Int32) = nI 10 from rfl, nI_mul, nI_add]]
    by_cases q : e ≤ 1
    · rw [if_pos (is.mpr q), if_pos rfl, if_pos q]
    · rw [if_neg (fun z => q (is.mp z)), if_neg (by decide), if_neg q]
  rw [b20]
  unfold g_X8_does_b20
  rcases (show a = 1 ∨ a = 2 ∨ a = 3 ∨ a = 4 ∨ a = 5 ∨ a = 6 ∨ a = 7 ∨ (a = 0 ∨ 8 ≤ a) by omega) with rfl | rfl | rfl | rfl | rfl | rfl | rfl | hz
  · rw [if_pos (show nI 1 = 1 from rfl)]
    by_cases q : e ≤ 1
    · obtain ⟨h, h9, hh⟩ := hE q
      rw [if_pos q, if_neg (by decide)]
      by_cases q2 : t = 0
      · subst q2
        rw [if_pos (show nI 0 = 0 from rfl), mh_r11, Option.bind_some, m_isFull (by omega) (by omega) hh h9, bnd2_s]
        by_cases q3 : h < 9
        · rw [if_pos q3, if_pos rfl, mh_r11, Option.bind_some, m_comeOn 0 (by omega) (by omega) hh q3, Option.bind_some]
          exact rm_t (by unfold dok; rw [if_pos rfl]; exact decide_eq_true ⟨q, rfl, by rw [hN_of hh h9]; exact q3⟩) (if_pos rfl)
        · rw [if_neg q3, if_neg (by decide)]
          exact rm_f (by unfold dok; rw [if_pos rfl]; intro z; have := of_decide_eq_true z; rw [hN_of hh h9] at this; omega)
      · rw [if_neg (show ¬ nI t = 0 from fun z => q2 ((nI_eq (b := 0) (by omega) (by omega)).mp z))]
        exact rm_f (by unfold dok; rw [if_pos rfl]; intro z; have := of_decide_eq_true z; omega)
    · rw [if_neg q, if_pos rfl]
      exact rm_f (by unfold dok; rw [if_pos rfl]; intro z; have := of_decide_eq_true z; omega)
  · rw [if_neg (show ¬ nI 2 = 1 by decide), if_pos (show nI 2 = 2 from rfl)]
    have g := m_doesL (F := F) (sd := sd) (s := s) (b := 10 * e + t) h7 (by omega) (10 * e + t) 0 gF C ar (by omega) (by omega) (by unfold gF; omega) (by unfold gF; omega) (by omega) hw (by omega)
    rw [show g_X8_does_b100 gF (mh F s sd ar) 107 (nI (10 * e + t)) 0 = _ from g]
    by_cases q : 1 ≤ 10 * e + t ∧ 10 * e + t ≤ 20
    · rw [if_pos q, if_pos q.2]
      exact rm_t (by unfold dok; rw [if_neg (by omega), if_pos rfl]; exact decide_eq_true q) (by rw [if_neg (by omega), if_pos rfl])
    · rw [if_neg q]
      have e2 : (if 10 * e + t ≤ 20 then tkN true true true (10 * e + t) (ar 114) else ar 114) = ar 114 := by
        by_cases q2 : 10 * e + t ≤ 20
        · rw [if_pos q2, show 10 * e + t = 0 by omega, tkN]
        · rw [if_neg q2]
      rw [e2, va_up_eta rfl]
      exact rm_f (by unfold dok; rw [if_neg (by omega), if_pos rfl]; intro z; exact q (of_decide_eq_true z))
  · rw [if_neg (show ¬ nI 3 = 1 by decide), if_neg (show ¬ nI 3 = 2 by decide), if_pos (show nI 3 = 3 from rfl)]
    by_cases q : e = 0
    · subst q
      rw [if_pos (show nI 0 = 0 from rfl), mh_r11, Option.bind_some, show aI (mh F s sd ar) 114 0 0 = some (ar 114 0) from m_trial (j := 0) (by omega), Option.bind_some]
      by_cases q2 : ar 114 0 = nI t
      · rw [if_pos q2]
        exact rm_0 (by unfold dok; rw [if_neg (by omega), if_neg (by omega), if_pos rfl]; exact decide_eq_true ⟨rfl, q2⟩) (by rw [if_neg (by omega), if_neg (by omega), if_neg (by omega)])
      · rw [if_neg q2]
        exact rm_f (by unfold dok; rw [if_neg (by omega), if_neg (by omega), if_pos rfl]; intro z; exact q2 (of_decide_eq_true z).2)
    · rw [if_neg (show ¬ nI e = 0 from fun z => q ((nI_eq (b := 0) (by omega) (by omega)).mp z))]
      exact rm_f (by unfold dok; rw [if_neg (by omega), if_neg (by omega), if_pos rfl]; intro z; exact q (of_decide_eq_true z).1)
  · rw [if_neg (show ¬ nI 4 = 1 by decide), if_neg (show ¬ nI 4 = 2 by decide), if_neg (show ¬ nI 4 = 3 by decide), if_pos (show nI 4 = 4 from rfl)]
    by_cases q : e ≤ 1
    · rw [if_pos q, if_neg (by decide), mh_r11, Option.bind_some, m_at, bnd2_s, nI_p4, m_trial (by omega), Option.bind_some, show 11 + 14 * e + 4 = 15 + 14 * e by omega]
      by_cases q2 : ar 114 (15 + 14 * e) = nI t
      · rw [if_pos q2]
        exact rm_0 (by unfold dok; rw [if_neg (by omega), if_neg (by omega), if_neg (by omega), if_pos rfl]; exact decide_eq_true ⟨q, q2⟩) (by rw [if_neg (by omega), if_neg (by omega), if_neg (by omega)])
      · rw [if_neg q2]
        exact rm_f (by unfold dok; rw [if_neg (by omega), if_neg (by omega), if_neg (by omega), if_pos rfl]; intro z; exact q2 (of_decide_eq_true z).2)
    · rw [if_neg q, if_pos rfl]
      exact rm_f (by unfold dok; rw [if_neg (by omega), if_neg (by omega), if_neg (by omega), if_pos rfl]; intro z; exact q (of_decide_eq_true z).1)
  · rw [if_neg (show ¬ nI 5 = 1 by decide), if_neg (show ¬ nI 5 = 2 by decide), if_neg (show ¬ nI 5 = 3 by decide), if_neg (show ¬ nI 5 = 4 by decide), if_pos (show nI 5 = 5 from rfl)]
    by_cases q : e ≤ 1
    · obtain ⟨h, h9, hh⟩ := hE q
      rw [if_pos q, if_neg (by decide)]
      by_cases q4 : 2 ≤ t
      · rw [if_pos (show (2 : Int32) ≤ nI t from nI_le (a := 2) q4 (by omega))]
        refine rm_f ?_
        unfold dok
        rw [if_neg (by omega), if_neg (by omega), if_neg (by omega), if_neg (by omega), if_pos rfl]
        intro z
        have z2 := (of_decide_eq_true z).2
        by_cases q5 : due true e (ar 114) = true
        · rw [if_pos q5] at z2
          have := (nI_eq (b := 1) (by omega) (by omega)).mp z2
          omega
        · rw [if_neg q5] at z2
          have := (nI_eq (b := 0) (by omega) (by omega)).mp z2
          omega
      · rw [if_neg (show ¬ (2 : Int32) ≤ nI t from nI_ge (b := 2) (by omega) (by omega)), mh_r11, Option.bind_some, ckO_t (mh_isO _ _ _ _), m_due (by omega) h7 (by omega) hh h9, bnd2_s]
        have key : ∀ x : Int32, nI t = x → g_X8_does_b214 (mh F s sd ar) (if due true e (ar 114) = true then (1 : Int32) else 0) x = some (if dok 5 e t (ar 114) = true then 1 else 0, mh F s sd (va_up ar 114 (dop 5 e t (ar 114)))) := by
          intro x hx
          unfold g_X8_does_b214
          by_cases q2 : (if due true e (ar 114) = true then (1 : Int32) else 0) = x
          · rw [if_pos q2]
            exact rm_0 (by unfold dok; rw [if_neg (by omega), if_neg (by omega), if_neg (by omega), if_neg (by omega), if_pos rfl]; exact decide_eq_true ⟨q, by rw [hx]; exact q2.symm⟩) (by rw [if_neg (by omega), if_neg (by omega), if_neg (by omega)])
          · rw [if_neg q2]
            exact rm_f (by unfold dok; rw [if_neg (by omega), if_neg (by omega), if_neg (by omega), if_neg (by omega), if_pos rfl]; intro z; have := (of_decide_eq_true z).2; rw [hx] at this; exact q2 this.symm)
        rcases (show t = 0 ∨ t = 1 by omega) with rfl | rfl
        · rw [if_neg (show ¬ nI 0 = 1 by decide)]
          exact key 0 rfl
        · rw [if_pos (show nI 1 = 1 from rfl)]
          exact key 1 rfl
    · rw [if_neg q, if_pos rfl]
      exact rm_f (by unfold dok; rw [if_neg (by omega), if_neg (by omega), if_neg (by omega), if_neg (by omega), if_pos rfl]; intro z; exact q (of_decide_eq_true z).1)
  · rw [if_neg (show ¬ nI 6 = 1 by decide), if_neg (show ¬ nI 6 = 2 by decide), if_neg (show ¬ nI 6 = 3 by decide), if_neg (show ¬ nI 6 = 4 by decide), if_neg (show ¬ nI 6 = 5 by decide), if_pos (show nI 6 = 6 from rfl), mh_r11, Option.bind_some, show aI (mh F s sd ar) 114 0 5 = some (ar 114 5) from m_trial (j := 5) (by omega), Option.bind_some]
    by_cases q2 : ar 114 5 = nI (10 * e + t)
    · rw [if_pos q2]
      exact rm_0 (by unfold dok; rw [if_neg (by omega), if_neg (by omega), if_neg (by omega), if_neg (by omega), if_neg (by omega), if_pos rfl]; exact decide_eq_true q2) (by rw [if_neg (by omega), if_neg (by omega), if_neg (by omega)])
    · rw [if_neg q2]
      exact rm_f (by unfold dok; rw [if_neg (by omega), if_neg (by omega), if_neg (by omega), if_neg (by omega), if_neg (by omega), if_pos rfl]; intro z; exact q2 (of_decide_eq_true z))
  · rw [if_neg (show ¬ nI 7 = 1 by decide), if_neg (show ¬ nI 7 = 2 by decide), if_neg (show ¬ nI 7 = 3 by decide), if_neg (show ¬ nI 7 = 4 by decide), if_neg (show ¬ nI 7 = 5 by decide), if_neg (show ¬ nI 7 = 6 by decide), if_pos (show nI 7 = 7 from rfl)]
    by_cases q : e ≤ 1
    · rw [if_pos q, if_neg (by decide)]
      by_cases q2 : 1 ≤ t
      · rw [if_neg (show ¬ nI t = 0 from fun z => by have := (nI_eq (b := 0) (by omega) (by omega)).mp z; omega), mh_r11, Option.bind_some, m_at, bnd2_s, nI_1, mh_st _ _ _ _ (p := 114) (kd := 0) (n := 39) (by omega) rfl rfl (by omega) (by omega), Option.bind_some]
        exact rm_t (by unfold dok; rw [if_neg (by omega), if_neg (by omega), if_neg (by omega), if_neg (by omega), if_neg (by omega), if_neg (by omega), if_pos rfl]; exact decide_eq_true ⟨q, q2⟩) (by rw [if_neg (by omega), if_neg (by omega), if_pos rfl])
      · rw [if_pos (show nI t = 0 by rw [show t = 0 by omega]; rfl)]
        exact rm_f (by unfold dok; rw [if_neg (by omega), if_neg (by omega), if_neg (by omega), if_neg (by omega), if_neg (by omega), if_neg (by omega), if_pos rfl]; intro z; exact q2 (of_decide_eq_true z).2)
    · rw [if_neg q, if_pos rfl]
      exact rm_f (by unfold dok; rw [if_neg (by omega), if_neg (by omega), if_neg (by omega), if_neg (by omega), if_neg (by omega), if_neg (by omega), if_pos rfl]; intro z; exact q (of_decide_eq_true z).1)
  · have ne : ∀ k : Nat, 1 ≤ k → k ≤ 7 → ¬ nI a = nI k := fun k k1 k2 z => by have := nI_inj (by omega) (by omega) z; omega
    rw [if_neg (show ¬ nI a = 1 from ne 1 (by omega) (by omega)), if_neg (show ¬ nI a = 2 from ne 2 (by omega) (by omega)), if_neg (show ¬ nI a = 3 from ne 3 (by omega) (by omega)), if_neg (show ¬ nI a = 4 from ne 4 (by omega) (by omega)), if_neg (show ¬ nI a = 5 from ne 5 (by omega) (by omega)), if_neg (show ¬ nI a = 6 from ne 6 (by omega) (by omega)), if_neg (show ¬ nI a = 7 from ne 7 (by omega) (by omega))]
    exact rm_f (by unfold dok; rw [if_neg (by omega), if_neg (by omega), if_neg (by omega), if_neg (by omega), if_neg (by omega), if_neg (by omega), if_neg (by omega)]; decide)
end JD
