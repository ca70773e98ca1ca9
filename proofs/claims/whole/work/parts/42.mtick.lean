/-! the reference's tick on a page -/
theorem m_at (F : Hp) (e : Nat) : g_X8_at F (nI e) = some (nI (11 + 14 * e), F) := by unfold g_X8_at; rw [at_e]
theorem m_has (F : Hp) (sv e : Int32) : g_X8_has F sv e = some (if bit sv e = true then 1 else 0, F) := by
  unfold g_X8_has bit
  by_cases h : ((sv >>> (e &&& 31)) &&& 1) = 1 <;> simp [h]
theorem m_dueL {F : Hp} {q m : Nat} {w : Nat → Int32} {sv : Int32} (hm : m ≠ q) (hsv : gI F m 8 21 = some sv) {e h : Nat} (he : e = 0 ∨ e = 1) (hh : w (15 + 14 * e) = nI h) (h9 : h ≤ 9) : ∀ (r k n : Nat) (v : Bool), k + r = h → r < n → g_X8_isDue_b28 n (pg F q w) m q (nI e) (nI (11 + 14 * e)) (if v = true then 1 else 0) (nI k) = some (if (v || dueL (bit sv (nI e)) e w r k) = true then 1 else 0, pg F q w) := by
  intro r
  induction r with
  | zero =>
    intro k n v hk hn
    obtain ⟨n, rfl⟩ : ∃ n', n = n' + 1 := ⟨n - 1, by omega⟩
    rw [g_X8_isDue_b28, nI_p4, pg_ld _ _ _ (by omega), Option.bind_some, show 11 + 14 * e + 4 = 15 + 14 * e by omega, hh, if_pos (nI_le (by omega) (by omega)), if_pos (b01 v)]
    simp [dueL]
  | succ r ih =>
    intro k n v hk hn
    obtain ⟨n, rfl⟩ : ∃ n', n = n' + 1 := ⟨n - 1, by omega⟩
    have key : ∀ v' : Bool, v' = (v || cnd (bit sv (nI e)) e w k) → g_X8_isDue_b28 n (pg F q w) m q (nI e) (nI (11 + 14 * e)) (if v' = true then 1 else 0) (nI k + 1) = some (if (v || dueL (bit sv (nI e)) e w (r + 1) k) = true then 1 else 0, pg F q w) := by
      intro v' hv
      rw [nI_1, ih (k + 1) n v' (by omega) (by omega), hv, dueL, Bool.or_assoc]
    have k1 : v = true ∨ cnd (bit sv (nI e)) e w k = true → g_X8_isDue_b28 n (pg F q w) m q (nI e) (nI (11 + 14 * e)) 1 (nI k + 1) = some (if (v || dueL (bit sv (nI e)) e w (r + 1) k) = true then 1 else 0, pg F q w) := fun hc => key true (by rcases hc with hc | hc <;> simp [hc])
    have k0 : v = false → cnd (bit sv (nI e)) e w k = false → g_X8_isDue_b28 n (pg F q w) m q (nI e) (nI (11 + 14 * e)) 0 (nI k + 1) = some (if (v || dueL (bit sv (nI e)) e w (r + 1) k) = true then 1 else 0, pg F q w) := fun hc hd => key false (by simp [hc, hd])
    rw [g_X8_isDue_b28, nI_p4, nI_p5, nI_add, nI_p2, pg_ld _ _ _ (by omega), Option.bind_some, show 11 + 14 * e + 4 = 15 + 14 * e by omega, hh, if_neg (nI_ge (by omega) (by omega)), pg_ld _ _ _ (by omega), Option.bind_some, show (3 : Int32) = nI 3 from rfl, pg_ld _ _ _ (by omega), Option.bind_some, pg_ld _ _ _ (by omega), Option.bind_some, pg_gI hm, hsv, Option.bind_some, m_has, bnd2_s, show 11 + 14 * e + 5 + k = 16 + 14 * e + k by omega, show 11 + 14 * e + 2 = 13 + 14 * e by omega]
    simp only [g_X8_isDue_b89, g_X8_isDue_b94]
    cases v with
    | true => rw [if_neg (by decide)]; exact k1 (Or.inl rfl)
    | false =>
      rw [if_pos (by decide)]
      by_cases c1 : 0 < jrem (w (16 + 14 * e + k)) 10
      · rw [if_pos c1]; exact k1 (Or.inr (by simp [cnd, c1]))
      · rw [if_neg c1]
        by_cases c2 : w (13 + 14 * e) ≤ w 3 - w (16 + 14 * e + k) / 10
        · rw [if_pos c2]; exact k1 (Or.inr (by simp [cnd, c2]))
        · rw [if_neg c2]
          cases hu : bit sv (nI e) with
          | false => rw [hu] at k1; exact k1 (Or.inr (by simp [cnd]))
          | true => rw [hu] at k0; exact k0 rfl (by simp [cnd, c1, c2])
theorem m_isDue {F : Hp} {q m : Nat} {w : Nat → Int32} {sv : Int32} (hm : m ≠ q) (hsv : gI F m 8 21 = some sv) {e h : Nat} (he : e = 0 ∨ e = 1) (hh : w (15 + 14 * e) = nI h) (h9 : h ≤ 9) : g_X8_isDue (pg F q w) m q (nI e) = some (if due (bit sv (nI e)) e w = true then 1 else 0, pg F q w) := by
  have hN' : hN e w = h := by unfold hN; rw [hh, nI_clamp (by omega)]
  have k1 := m_dueL hm hsv he hh h9 h 0 gF true (by omega) (by unfold gF; omega)
  have k0 := m_dueL hm hsv he hh h9 h 0 gF false (by omega) (by unfold gF; omega)
  unfold g_X8_isDue
  rw [m_at, bnd2_s, nI_p4, nI_1, pg_ld _ _ _ (by omega), Option.bind_some, pg_ld _ _ _ (by omega), Option.bind_some, show 11 + 14 * e + 4 = 15 + 14 * e by omega, show 11 + 14 * e + 1 = 12 + 14 * e by omega]
  simp only [g_X8_isDue_b23]
  unfold due
  rw [hN']
  by_cases c : w (15 + 14 * e) < w (12 + 14 * e)
  · rw [if_pos c]
    have c2 : ¬ w (12 + 14 * e) ≤ w (15 + 14 * e) := by
      rw [Int32.lt_iff_toInt_lt] at c; rw [Int32.le_iff_toInt_le]; omega
    simp only [c2, decide_false, Bool.false_or] at k0 ⊢
    exact k0
  · rw [if_neg c]
    have c2 : w (12 + 14 * e) ≤ w (15 + 14 * e) := by
      rw [Int32.lt_iff_toInt_lt] at c; rw [Int32.le_iff_toInt_le]; omega
    simp only [c2, decide_true, Bool.true_or] at k1 ⊢
    exact k1
theorem m_wakeTime (F : Hp) (q : Nat) (w : Nat → Int32) : g_X8_wakeTime (pg F q w) q = some (wk w, pg F q w) := by
  have e0 : ∀ F : Hp, g_X8_at F 0 = some (nI 11, F) := fun F => m_at F 0
  have e1 : ∀ F : Hp, g_X8_at F (0 + 1) = some (nI 25, F) := fun F => m_at F 1
  unfold g_X8_wakeTime
  rw [show gF = 997 + 1 + 1 + 1 from rfl]
  rw [g_X8_wakeTime_b4, if_neg (by decide), e0, bnd2_s, pg_ld _ _ _ (by omega), Option.bind_some, e0, bnd2_s, pg_ld _ _ _ (by omega), Option.bind_some]
  have b29 : ∀ v : Int32, g_X8_wakeTime_b29 (g_X8_wakeTime_b4 (997 + 1 + 1)) (pg F q w) q 0 v = g_X8_wakeTime_b4 (997 + 1 + 1) (pg F q w) q (mx v (w 14)) (0 + 1) := by
    intro v
    simp only [g_X8_wakeTime_b29, g_X8_wakeTime_b54]
    rw [e0, bnd2_s, nI_p3, pg_ld _ _ _ (by omega), Option.bind_some, e0, bnd2_s, nI_p3, pg_ld _ _ _ (by omega), Option.bind_some]
    unfold mx
    split <;> rfl
  have c29 : ∀ v : Int32, g_X8_wakeTime_b29 (g_X8_wakeTime_b4 (997 + 1)) (pg F q w) q (0 + 1) v = g_X8_wakeTime_b4 (997 + 1) (pg F q w) q (mx v (w 28)) (0 + 1 + 1) := by
    intro v
    simp only [g_X8_wakeTime_b29, g_X8_wakeTime_b54]
    rw [e1, bnd2_s, nI_p3, pg_ld _ _ _ (by omega), Option.bind_some, e1, bnd2_s, nI_p3, pg_ld _ _ _ (by omega), Option.bind_some]
    unfold mx
    split <;> rfl
  have fin : ∀ z : Int32, g_X8_wakeTime_b4 (997 + 1) (pg F q w) q z (0 + 1 + 1) = some (z, pg F q w) := by
    intro z
    rw [g_X8_wakeTime_b4, if_pos (by decide)]
  have b4 : ∀ v : Int32, g_X8_wakeTime_b4 (997 + 1 + 1) (pg F q w) q v (0 + 1) = some (mx (mx v (w 25)) (w 28), pg F q w) := by
    intro v
    rw [g_X8_wakeTime_b4, if_neg (by decide), e1, bnd2_s, pg_ld _ _ _ (by omega), Option.bind_some, e1, bnd2_s, pg_ld _ _ _ (by omega), Option.bind_some, c29, c29, fin, fin]
    unfold mx
    by_cases h : w 25 ≤ v
    · rw [if_pos h, if_pos h]
    · rw [if_neg h, if_neg h]
  rw [b29, b29, b4, b4]
  unfold wk
  generalize h : mx 0 (w 11) = z
  unfold mx at h
  split <;> simp_all
theorem m_isEmpty (F : Hp) (q : Nat) (w : Nat → Int32) : g_X8_isEmpty (pg F q w) q = some (if emp w = true then 1 else 0, pg F q w) := by
  have e0 : ∀ F : Hp, g_X8_at F 0 = some (nI 11, F) := fun F => m_at F 0
  have e1 : ∀ F : Hp, g_X8_at F 1 = some (nI 25, F) := fun F => m_at F 1
  unfold g_X8_isEmpty
  rw [e0, bnd2_s, nI_p4, pg_ld _ _ _ (by omega), Option.bind_some, e1, bnd2_s, nI_p4, pg_ld _ _ _ (by omega), Option.bind_some]
  unfold emp
  by_cases h1 : w 15 = 0
  · by_cases h2 : w 29 = 0 <;> simp [h1, h2]
  · simp [h1]
theorem m_send_e {F : Hp} {q : Nat} {w : Nat → Int32} {e : Nat} (he : e = 0 ∨ e = 1) (L z : Int32) : g_X8_sendOn_b114 (pg F q w) q (nI e) L q 7 z = some (pg F q (upd (upd w 7 z) (28 - 14 * e) (if jrem L 10 ≤ 0 then upd w 7 z (28 - 14 * e) else jrem L 10))) := by
  have e1 : ∀ F : Hp, g_X8_at F (1 - nI e) = some (nI (25 - 14 * e), F) := by
    intro F
    rcases he with rfl | rfl
    · exact m_at F 1
    · exact m_at F 0
  unfold g_X8_sendOn_b114 g_X8_sendOn_b148
  rw [show (7 : Int32) = nI 7 from rfl, pg_st _ _ _ _ (by omega), Option.bind_some, e1, bnd2_s, e1, bnd2_s, nI_p3, pg_ld _ _ _ (by omega), Option.bind_some, pg_st _ _ _ _ (by omega), Option.bind_some, pg_st _ _ _ _ (by omega), Option.bind_some, show 25 - 14 * e + 3 = 28 - 14 * e by omega]
  split <;> rfl
theorem shf_0 (b h : Nat) (w : Nat → Int32) (hh : h ≤ 1) : shf b h w = w := by
  funext i
  unfold shf
  rw [if_neg (by omega)]
theorem m_send_L {F : Hp} {q : Nat} {e h : Nat} (he : e = 0 ∨ e = 1) (h9 : h ≤ 9) (L : Int32) (w0 : Nat → Int32) (hh : w0 (15 + 14 * e) = nI h) (h0 : 0 < h) : ∀ (r k n : Nat) (w : Nat → Int32), k + r + 1 = h → r < n → w = (fun i => if 16 + 14 * e ≤ i ∧ i < 16 + 14 * e + k then w0 (i + 1) else w0 i) →
    g_X8_sendOn_b22 n (pg F q w) q (nI e) (nI (11 + 14 * e)) L (nI k) = some (pg F q (upd (upd (upd (upd (upd (shf (16 + 14 * e) h w0) (15 + 14 * e) (w0 (15 + 14 * e) - 1)) 5 (w0 5 + 1)) 6 (w0 6 + (w0 3 - L / 10))) 7 (mx (w0 7) (w0 3 - L / 10))) (28 - 14 * e) (if jrem L 10 ≤ 0 then w0 (28 - 14 * e) else jrem L 10))) := by
  intro r
  induction r with
  | zero =>
    intro k n w hk hn hw
    obtain ⟨n, rfl⟩ : ∃ n', n = n' + 1 := ⟨n - 1, by omega⟩
    have hws : w = shf (16 + 14 * e) h w0 := by
      rw [hw]
      funext i
      unfold shf
      by_cases hi : 16 + 14 * e ≤ i ∧ i < 16 + 14 * e + k
      · rw [if_pos hi, if_pos (by omega)]
      · rw [if_neg hi, if_neg (by omega)]
    have lo : ∀ i, i < 16 → w i = w0 i := fun i hi => by rw [hw]; exact if_neg (by omega)
    have hi5 : ∀ i, 16 + 14 * e + 9 ≤ i → w i = w0 i := fun i hi => by rw [hw]; exact if_neg (by omega)
    have hd : w (28 - 14 * e) = w0 (28 - 14 * e) := by
      rcases he with rfl | rfl
      · exact hi5 _ (by omega)
      · exact lo _ (by omega)
    have h15 : w (15 + 14 * e) = w0 (15 + 14 * e) := by rw [hw]; exact if_neg (by omega)
    rw [g_X8_sendOn_b22, nI_1, nI_p4, show 11 + 14 * e + 4 = 15 + 14 * e by omega, pg_ld _ _ _ (by omega), Option.bind_some, h15, hh, if_pos (nI_le (by omega) (by omega)), Option.bind_some, pg_st _ _ _ _ (by omega), Option.bind_some]
    simp only [show (3 : Int32) = nI 3 from rfl, show (5 : Int32) = nI 5 from rfl, show (6 : Int32) = nI 6 from rfl]
    rw [pg_ld _ _ _ (by omega), Option.bind_some, pg_ld _ _ _ (by omega), Option.bind_some, pg_st _ _ _ _ (by omega), Option.bind_some, pg_ld _ _ _ (by omega), Option.bind_some, pg_st _ _ _ _ (by omega), Option.bind_some, show (7 : Int32) = nI 7 from rfl, pg_ld _ _ _ (by omega), Option.bind_some]
    rw [show (nI 7 : Int32) = 7 from rfl, m_send_e he, m_send_e he]
    have a3 : upd w (15 + 14 * e) (nI h - 1) 3 = w0 3 := by rw [upd_n _ _ (by omega), lo _ (by omega)]
    have a5 : upd w (15 + 14 * e) (nI h - 1) 5 = w0 5 := by rw [upd_n _ _ (by omega), lo _ (by omega)]
    have a6 : ∀ z, upd (upd w (15 + 14 * e) (nI h - 1)) 5 z 6 = w0 6 := fun z => by rw [upd_n _ _ (by omega), upd_n _ _ (by omega), lo _ (by omega)]
    have a7 : ∀ z y, upd (upd (upd w (15 + 14 * e) (nI h - 1)) 5 z) 6 y 7 = w0 7 := fun z y => by rw [upd_n _ _ (by omega), upd_n _ _ (by omega), upd_n _ _ (by omega), lo _ (by omega)]
    have a28 : ∀ z y x, upd (upd (upd (upd w (15 + 14 * e) (nI h - 1)) 5 z) 6 y) 7 x (28 - 14 * e) = w0 (28 - 14 * e) := fun z y x => by rw [upd_n _ _ (by omega), upd_n _ _ (by omega), upd_n _ _ (by omega), upd_n _ _ (by omega), hd]
    rw [a3, a5, a6, a7, a28, a28, hws]
    unfold mx
    by_cases c : w0 3 - L / 10 ≤ w0 7
    · rw [if_pos c, if_pos c]
    · rw [if_neg c, if_neg c]
  | succ r ih =>
    intro k n w hk hn hw
    obtain ⟨n, rfl⟩ : ∃ n', n = n' + 1 := ⟨n - 1, by omega⟩
    have h15 : w (15 + 14 * e) = nI h := by rw [← hh, hw]; exact if_neg (by omega)
    rw [g_X8_sendOn_b22, nI_1, nI_p4, nI_p5, nI_add, nI_1, show 11 + 14 * e + 4 = 15 + 14 * e by omega, pg_ld _ _ _ (by omega), Option.bind_some, h15, if_neg (nI_ge (by omega) (by omega)), pg_ld _ _ _ (by omega), Option.bind_some, pg_st _ _ _ _ (by omega), Option.bind_some]
    refine ih (k + 1) n _ (by omega) (by omega) ?_
    funext i
    by_cases hi : i = 11 + 14 * e + 5 + k
    · subst hi
      rw [upd_s, if_pos (by omega), hw]
      exact if_neg (by omega)
    · rw [upd_n _ _ hi, hw]
      show (if 16 + 14 * e ≤ i ∧ i < 16 + 14 * e + k then w0 (i + 1) else w0 i) = _
      by_cases hj : 16 + 14 * e ≤ i ∧ i < 16 + 14 * e + k
      · rw [if_pos hj, if_pos (by omega)]
      · rw [if_neg hj, if_neg (by omega)]
theorem m_sendOn {F : Hp} {q : Nat} {w : Nat → Int32} {e h : Nat} (he : e = 0 ∨ e = 1) (hh : w (15 + 14 * e) = nI h) (h9 : h ≤ 9) : g_X8_sendOn (pg F q w) q (nI e) = some (pg F q (snd e w)) := by
  unfold g_X8_sendOn snd
  rw [m_at, bnd2_s, nI_p4, show 11 + 14 * e + 4 = 15 + 14 * e by omega, pg_ld _ _ _ (by omega), Option.bind_some, nI_p5, pg_ld _ _ _ (by omega), Option.bind_some, show 11 + 14 * e + 5 = 16 + 14 * e by omega]
  by_cases h0 : h = 0
  · subst h0
    rw [hh, if_pos (by decide), if_pos (by decide)]
  · rw [hh, if_neg (nI_nle (by omega) (by omega)), if_neg (nI_nle (by omega) (by omega)), ← hh]
    have hN' : hN e w = h := by unfold hN; rw [hh, nI_clamp (by omega)]
    rw [hN']
    exact m_send_L he h9 _ w hh (by omega) (h - 1) 0 gF w (by omega) (by unfold gF; omega) (by funext i; rw [if_neg (by omega)])
/-- what every page of ours is: its clock is at most C -/
def Wf (C : Nat) (w : Nat → Int32) : Prop :=
  (w 0 = 0 ∨ w 0 = 1 ∨ w 0 = 2 ∨ w 0 = 3) ∧ ((w 0 = 0 ∨ w 0 = 2) → w 1 = 0) ∧ (¬ w 0 = 2 → w 2 = 0) ∧
  (∃ c, c ≤ C ∧ w 3 = nI c) ∧ (∃ r, 1 ≤ r ∧ r ≤ 9 ∧ w 10 = nI r) ∧
  (∀ i, i = 11 ∨ i = 12 ∨ i = 13 ∨ i = 14 ∨ i = 25 ∨ i = 26 ∨ i = 27 ∨ i = 28 → ∃ v, 1 ≤ v ∧ v ≤ 9 ∧ w i = nI v) ∧
  ∀ e, e = 0 ∨ e = 1 → ∃ h, h ≤ 9 ∧ w (15 + 14 * e) = nI h ∧ ∀ k, k < h → ∃ v, v ≤ 10 * C + 9 ∧ w (16 + 14 * e + k) = nI v
theorem snd_n {e : Nat} {w : Nat → Int32} {i : Nat} (h1 : i < 5 ∨ 7 < i) (h2 : i < 15 + 14 * e ∨ 16 + 14 * e + hN e w ≤ i) (h3 : i ≠ 28 - 14 * e) : snd e w i = w i := by
  unfold snd
  split
  · rfl
  · rw [upd_n _ _ h3, upd_n _ _ (by omega), upd_n _ _ (by omega), upd_n _ _ (by omega), upd_n _ _ (by omega)]
    unfold shf
    rw [if_neg (by omega)]
