/-! the reference's tick on a page -/
theorem m_at (F : Hp) (e : Nat) : g_X8_at F (nI e) = some (nI (11 + 14 * e), F) := by unfold g_X8_at; rw [at_e]
theorem m_has (F : Hp) (sv e : Int32) : g_X8_has F sv e = some (if bit sv e = true then 1 else 0, F) := by
  unfold g_X8_has bit
  by_cases h : ((sv >>> (e &&& 31)) &&& 1) = 1 <;> simp [h]
theorem m_dueL {F : Hp} {q m : Nat} {w : Nat → Int32} {sv : Int32} (hm : m ≠ q) (hsv : gI F m 8 21 = some sv) {e h : Nat} (he : e = 0 ∨ e = 1) (hh : w (15 + 14 * e) = nI h) (h9 : h ≤ 9) : ∀ (r k n : Nat) (v : Bool), k + r = h → r < n → g_X8_isDue_b28 n (pg F q w) m q (nI e) (nI (11 + 14 * e)) (if v = true then 1 else 0) (nI k) = some (if (v || dueL (bit sv (nI e)) e w r k) = true then 1 else 0, pg F q w) := by
  intro r
  induction r with
  | zero =>
    intro k n v hk hn
    obtain ⟨n, rfl⟩ : ∃ n', n = n' + 1 := ⟨n - 1, by omega⟩
    rw [g_X8_isDue_b28, nI_p4, pg_ld _ _ _ (by omega), Option.bind_some, show 11 + 14 * e + 4 = 15 + 14 * e by omega, hh, if_pos (nI_le (by omega) (by omega)), if_pos (b01 v)]
    simp [dueL]
  | succ r ih =>
    intro k n v hk hn
    obtain ⟨n, rfl⟩ : ∃ n', n = n' + 1 := ⟨n - 1, by omega⟩
    have key : ∀ v' : Bool, v' = (v || cnd (bit sv (nI e)) e w k) → g_X8_isDue_b28 n (pg F q w) m q (nI e) (nI (11 + 14 * e)) (if v' = true then 1 else 0) (nI k + 1) = some (if (v || dueL (bit sv (nI e)) e w (r + 1) k) = true then 1 else 0, pg F q w) := by
      intro v' hv
      rw [nI_1, ih (k + 1) n v' (by omega) (by omega), hv, dueL, Bool.or_assoc]
    have k1 : v = true ∨ cnd (bit sv (nI e)) e w k = true → g_X8_isDue_b28 n (pg F q w) m q (nI e) (nI (11 + 14 * e)) 1 (nI k + 1) = some (if (v || dueL (bit sv (nI e)) e w (r + 1) k) = true then 1 else 0, pg F q w) := fun hc => key true (by rcases hc with hc | hc <;> simp [hc])
    have k0 : v = false → cnd (bit sv (nI e)) e w k = false → g_X8_isDue_b28 n (pg F q w) m q (nI e) (nI (11 + 14 * e)) 0 (nI k + 1) = some (if (v || dueL (bit sv (nI e)) e w (r + 1) k) = true then 1 else 0, pg F q w) := fun hc hd => key false (by simp [hc, hd])
    rw [g_X8_isDue_b28, nI_p4, nI_p5, nI_add, nI_p2, pg_ld _ _ _ (by omega), Option.bind_some, show 11 + 14 * e + 4 = 15 + 14 * e by omega, hh, if_neg (nI_ge (by omega) (by omega)), pg_ld _ _ _ (by omega), Option.bind_some, show (3 : Int32) = nI 3 from rfl, pg_ld _ _ _ (by omega), Option.bind_some, pg_ld _ _ _ (by omega), Option.bind_some, pg_gI hm, hsv, Option.bind_some, m_has, bnd2_s, show 11 + 14 * e + 5 + k = 16 + 14 * e + k by omega, show 11 + 14 * e + 2 = 13 + 14 * e by omega]
    simp only [g_X8_isDue_b89, g_X8_isDue_b94]
    cases v with
    | true => rw [if_neg (by decide)]; exact k1 (Or.inl rfl)
    | false =>
      rw [if_pos (by decide)]
      by_cases c1 : 0 < jrem (w (16 + 14 * e + k)) 10
      · rw [if_pos c1]; exact k1 (Or.inr (by simp [cnd, c1]))
      · rw [if_neg c1]
        by_cases c2 : w (13 + 14 * e) ≤ w 3 - w (16 + 14 * e + k) / 10
        · rw [if_pos c2]; exact k1 (Or.inr (by simp [cnd, c2]))
        · rw [if_neg c2]
          cases hu : bit sv (nI e) with
          | false => rw [hu] at k1; exact k1 (Or.inr (by simp [cnd]))
          | true => rw [hu] at k0; exact k0 rfl (by simp [cnd, c1, c2])
theorem m_isDue {F : Hp} {q m : Nat} {w : Nat → Int32} {sv : Int32} (hm : m ≠ q) (hsv : gI F m 8 21 = some sv) {e h : Nat} (he : e = 0 ∨ e = 1) (hh : w (15 + 14 * e) = nI h) (h9 : h ≤ 9) : g_X8_isDue (pg F q w) m q (nI e) = some (if due (bit sv (nI e)) e w = true then 1 else 0, pg F q w) := by
  have hN' : hN e w = h := by unfold hN; rw [hh, nI_clamp (by omega)]
  have k1 := m_dueL hm hsv he hh h9 h 0 gF true (by omega) (by unfold gF; omega)
  have k0 := m_dueL hm hsv he hh h9 h 0 gF false (by omega) (by unfold gF; omega)
  unfold g_X8_isDue
  rw [m_at, bnd2_s, nI_p4, nI_1, pg_ld _ _ _ (by omega), Option.bind_some, pg_ld _ _ _ (by omega), Option.bind_some, show 11 + 14 * e + 4 = 15 + 14 * e by omega, show 11 + 14 * e + 1 = 12 + 14 * e by omega]
  simp only [g_X8_isDue_b23]
  unfold due
  rw [hN']
  by_cases c : w (15 + 14 * e) < w (12 + 14 * e)
  · rw [if_pos c]
    have c2 : ¬ w (12 + 14 * e) ≤ w (15 + 14 * e) := by
      rw [Int32.lt_iff_toInt_lt] at c; rw [Int32.le_iff_toInt_le]; omega
    simp only [c2, decide_false, Bool.false_or] at k0 ⊢
    exact k0
  · rw [if_neg c]
    have c2 : w (12 + 14 * e) ≤ w (15 + 14 * e) := by
      rw [Int32.lt_iff_toInt_lt] at c; rw [Int32.le_iff_toInt_le]; omega
    simp only [c2, decide_true, Bool.true_or] at k1 ⊢
    exact k1
theorem m_wakeTime (F : Hp) (q : Nat) (w : Nat → Int32) : g_X8_wakeTime (pg F q w) q = some (wk w, pg F q w) := by
  have e0 : ∀ F : Hp, g_X8_at F 0 = some (nI 11, F) := fun F => m_at F 0
  have e1 : ∀ F : Hp, g_X8_at F (0 + 1) = some (nI 25, F) := fun F => m_at F 1
  unfold g_X8_wakeTime
  rw [show gF = 997 + 1 + 1 + 1 from rfl]
  rw [g_X8_wakeTime_b4, if_neg (by decide), e0, bnd2_s, pg_ld _ _ _ (by omega), Option.bind_some, e0, bnd2_s, pg_ld _ _ _ (by omega), Option.bind_some]
  have b29 : ∀ v : Int32, g_X8_wakeTime_b29 (g_X8_wakeTime_b4 (997 + 1 + 1)) (pg F q w) q 0 v = g_X8_wakeTime_b4 (997 + 1 + 1) (pg F q w) q (mx v (w 14)) (0 + 1) := by
    intro v
    simp only [g_X8_wakeTime_b29, g_X8_wakeTime_b54]
    rw [e0, bnd2_s, nI_p3, pg_ld _ _ _ (by omega), Option.bind_some, e0, bnd2_s, nI_p3, pg_ld _ _ _ (by omega), Option.bind_some]
    unfold mx
    split <;> rfl
  have c29 : ∀ v : Int32, g_X8_wakeTime_b29 (g_X8_wakeTime_b4 (997 + 1)) (pg F q w) q (0 + 1) v = g_X8_wakeTime_b4 (997 + 1) (pg F q w) q (mx v (w 28)) (0 + 1 + 1) := by
    intro v
    simp only [g_X8_wakeTime_b29, g_X8_wakeTime_b54]
    rw [e1, bnd2_s, nI_p3, pg_ld _ _ _ (by omega), Option.bind_some, e1, bnd2_s, nI_p3, pg_ld _ _ _ (by omega), Option.bind_some]
    unfold mx
    split <;> rfl
  have fin : ∀ z : Int32, g_X8_wakeTime_b4 (997 + 1) (pg F q w) q z (0 + 1 + 1) = some (z, pg F q w) := by
    intro z
    rw [g_X8_wakeTime_b4, if_pos (by decide)]
  have b4 : ∀ v : Int32, g_X8_wakeTime_b4 (997 + 1 + 1) (pg F q w) q v (0 + 1) = some (mx (mx v (w 25)) (w 28), pg F q w) := by
    intro v
    rw [g_X8_wakeTime_b4, if_neg (by decide), e1, bnd2_s, pg_ld _ _ _ (by omega), Option.bind_some, e1, bnd2_s, pg_ld _ _ _ (by omega), Option.bind_some, c29, c29, fin, fin]
    unfold mx
    by_cases h : w 25 ≤ v
    · rw [if_pos h, if_pos h]
    · rw [if_neg h, if_neg h]
  rw [b29, b29, b4, b4]
  unfold wk
  generalize h : mx 0 (w 11) = z
  unfold mx at h
  split <;> simp_all
theorem m_isEmpty (F : Hp) (q : Nat) (w : Nat → Int32) : g_X8_isEmpty (pg F q w) q = some (if emp w = true then 1 else 0, pg F q w) := by
  have e0 : ∀ F : Hp, g_X8_at F 0 = some (nI 11, F) := fun F => m_at F 0
  have e1 : ∀ F : Hp, g_X8_at F 1 = some (nI 25, F) := fun F => m_at F 1
  unfold g_X8_isEmpty
  rw [e0, bnd2_s, nI_p4, pg_ld _ _ _ (by omega), Option.bind_some, e1, bnd2_s, nI_p4, pg_ld _ _ _ (by omega), Option.bind_some]
  unfold emp
  by_cases h1 : w 15 = 0
  · by_cases h2 : w 29 = 0 <;> simp [h1, h2]
  · simp [h1]
theorem m_send_e {F : Hp} {q : Nat} {w : Nat → Int32} {e : Nat} (he : e = 0 ∨ e = 1) (L z : Int32) : g_X8_sendOn_b114 (pg F q w) q (nI e) L q 7 z = some (pg F q (upd (upd w 7 z) (28 - 14 * e) (if jrem L 10 ≤ 0 then upd w 7 z (28 - 14 * e) else jrem L 10))) := by
  have e1 : ∀ F : Hp, g_X8_at F (1 - nI e) = some (nI (25 - 14 * e), F) := by
    intro F
    rcases he with rfl | rfl
    · exact m_at F 1
    · exact m_at F 0
  unfold g_X8_sendOn_b114 g_X8_sendOn_b148
  rw [show (7 : Int32) = nI 7 from rfl, pg_st _ _ _ _ (by omega), Option.bind_some, e1, bnd2_s, e1, bnd2_s, nI_p3, pg_ld _ _ _ (by omega), Option.bind_some, pg_st _ _ _ _ (by omega), Option.bind_some, pg_st _ _ _ _ (by omega), Option.bind_some, show 25 - 14 * e + 3 = 28 - 14 * e by omega]
  split <;> rfl
theorem shf_0 (b h : Nat) (w : Nat → Int32) (hh : h ≤ 1) : shf b h w = w := by
  funext i
  unfold shf
  rw [if_neg (by omega)]
theorem m_send_L {F : Hp} {q : Nat} {e h : Nat} (he : e = 0 ∨ e = 1) (h9 : h ≤ 9) (L : Int32) (w0 : Nat → Int32) (hh : w0 (15 + 14 * e) = nI h) (h0 : 0 < h) : ∀ (r k n : Nat) (w : Nat → Int32), k + r + 1 = h → r < n → w = (fun i => if 16 + 14 * e ≤ i ∧ i < 16 + 14 * e + k then w0 (i + 1) else w0 i) →
    g_X8_sendOn_b22 n (pg F q w) q (nI e) (nI (11 + 14 * e)) L (nI k) = some (pg F q (upd (upd (upd (upd (upd (shf (16 + 14 * e) h w0) (15 + 14 * e) (w0 (15 + 14 * e) - 1)) 5 (w0 5 + 1)) 6 (w0 6 + (w0 3 - L / 10))) 7 (mx (w0 7) (w0 3 - L / 10))) (28 - 14 * e) (if jrem L 10 ≤ 0 then w0 (28 - 14 * e) else jrem L 10))) := by
  intro r
  induction r with
  | zero =>
    intro k n w hk hn hw
    obtain ⟨n, rfl⟩ : ∃ n', n = n' + 1 := ⟨n - 1, by omega⟩
    have hws : w = shf (16 + 14 * e) h w0 := by
      rw [hw]
      funext i
      unfold shf
      by_cases hi : 16 + 14 * e ≤ i ∧ i < 16 + 14 * e + k
      · rw [if_pos hi, if_pos (by omega)]
      · rw [if_neg hi, if_neg (by omega)]
    have lo : ∀ i, i < 16 → w i = w0 i := fun i hi => by rw [hw]; exact if_neg (by omega)
    have hi5 : ∀ i, 16 + 14 * e + 9 ≤ i → w i = w0 i := fun i hi => by rw [hw]; exact if_neg (by omega)
    have hd : w (28 - 14 * e) = w0 (28 - 14 * e) := by
      rcases he with rfl | rfl
      · exact hi5 _ (by omega)
      · exact lo _ (by omega)
    have h15 : w (15 + 14 * e) = w0 (15 + 14 * e) := by rw [hw]; exact if_neg (by omega)
    rw [g_X8_sendOn_b22, nI_1, nI_p4, show 11 + 14 * e + 4 = 15 + 14 * e by omega, pg_ld _ _ _ (by omega), Option.bind_some, h15, hh, if_pos (nI_le (by omega) (by omega)), Option.bind_some, pg_st _ _ _ _ (by omega), Option.bind_some]
    simp only [show (3 : Int32) = nI 3 from rfl, show (5 : Int32) = nI 5 from rfl, show (6 : Int32) = nI 6 from rfl]
    rw [pg_ld _ _ _ (by omega), Option.bind_some, pg_ld _ _ _ (by omega), Option.bind_some, pg_st _ _ _ _ (by omega), Option.bind_some, pg_ld _ _ _ (by omega), Option.bind_some, pg_st _ _ _ _ (by omega), Option.bind_some, show (7 : Int32) = nI 7 from rfl, pg_ld _ _ _ (by omega), Option.bind_some]
    rw [show (nI 7 : Int32) = 7 from rfl, Option.bind_some, m_send_e he, m_send_e he]
    have a3 : upd w (15 + 14 * e) (nI h - 1) 3 = w0 3 := by rw [upd_n _ _ (by omega), lo _ (by omega)]
    have a5 : upd w (15 + 14 * e) (nI h - 1) 5 = w0 5 := by rw [upd_n _ _ (by omega), lo _ (by omega)]
    have a6 : ∀ z, upd (upd w (15 + 14 * e) (nI h - 1)) 5 z 6 = w0 6 := fun z => by rw [upd_n _ _ (by omega), upd_n _ _ (by omega), lo _ (by omega)]
    have a7 : ∀ z y, upd (upd (upd w (15 + 14 * e) (nI h - 1)) 5 z) 6 y 7 = w0 7 := fun z y => by rw [upd_n _ _ (by omega), upd_n _ _ (by omega), upd_n _ _ (by omega), lo _ (by omega)]
    have a28 : ∀ z y x, upd (upd (upd (upd w (15 + 14 * e) (nI h - 1)) 5 z) 6 y) 7 x (28 - 14 * e) = w0 (28 - 14 * e) := fun z y x => by rw [upd_n _ _ (by omega), upd_n _ _ (by omega), upd_n _ _ (by omega), upd_n _ _ (by omega), hd]
    rw [a3, a5, a6, a7, a28, a28, hws]
    unfold mx
    by_cases c : w0 3 - L / 10 ≤ w0 7
    · rw [if_pos c, if_pos c]
    · rw [if_neg c, if_neg c]
  | succ r ih =>
    intro k n w hk hn hw
    obtain ⟨n, rfl⟩ : ∃ n', n = n' + 1 := ⟨n - 1, by omega⟩
    have h15 : w (15 + 14 * e) = nI h := by rw [← hh, hw]; exact if_neg (by omega)
    rw [g_X8_sendOn_b22, nI_1, nI_p4, nI_p5, nI_add, nI_1, show 11 + 14 * e + 4 = 15 + 14 * e by omega, pg_ld _ _ _ (by omega), Option.bind_some, h15, if_neg (nI_ge (by omega) (by omega)), pg_ld _ _ _ (by omega), Option.bind_some, pg_st _ _ _ _ (by omega), Option.bind_some]
    refine ih (k + 1) n _ (by omega) (by omega) ?_
    funext i
    by_cases hi : i = 11 + 14 * e + 5 + k
    · subst hi
      rw [upd_s, if_pos (by omega), hw]
      exact if_neg (by omega)
    · rw [upd_n _ _ hi, hw]
      show (if 16 + 14 * e ≤ i ∧ i < 16 + 14 * e + k then w0 (i + 1) else w0 i) = _
      by_cases hj : 16 + 14 * e ≤ i ∧ i < 16 + 14 * e + k
      · rw [if_pos hj, if_pos (by omega)]
      · rw [if_neg hj, if_neg (by omega)]
theorem m_sendOn {F : Hp} {q : Nat} {w : Nat → Int32} {e h : Nat} (he : e = 0 ∨ e = 1) (hh : w (15 + 14 * e) = nI h) (h9 : h ≤ 9) : g_X8_sendOn (pg F q w) q (nI e) = some (pg F q (snd e w)) := by
  unfold g_X8_sendOn snd
  rw [m_at, bnd2_s, nI_p4, show 11 + 14 * e + 4 = 15 + 14 * e by omega, pg_ld _ _ _ (by omega), Option.bind_some, nI_p5, pg_ld _ _ _ (by omega), Option.bind_some, show 11 + 14 * e + 5 = 16 + 14 * e by omega]
  by_cases h0 : h = 0
  · subst h0
    rw [hh, if_pos (by decide), if_pos (by decide)]
  · rw [hh, if_neg (nI_nle (by omega) (by omega)), if_neg (nI_nle (by omega) (by omega)), ← hh]
    have hN' : hN e w = h := by unfold hN; rw [hh, nI_clamp (by omega)]
    rw [hN']
    exact m_send_L he h9 _ w hh (by omega) (h - 1) 0 gF w (by omega) (by unfold gF; omega) (by funext i; rw [if_neg (by omega)])
/-- what every page of ours is: its clock is at most C -/
def Wf (C : Nat) (w : Nat → Int32) : Prop :=
  (w 0 = 0 ∨ w 0 = 1 ∨ w 0 = 2 ∨ w 0 = 3) ∧ ((w 0 = 0 ∨ w 0 = 2) → w 1 = 0) ∧ (¬ w 0 = 2 → w 2 = 0) ∧
  (∃ c, c ≤ C ∧ w 3 = nI c) ∧ (∃ r, 1 ≤ r ∧ r ≤ 9 ∧ w 10 = nI r) ∧
  (∀ i, i = 11 ∨ i = 12 ∨ i = 13 ∨ i = 14 ∨ i = 25 ∨ i = 26 ∨ i = 27 ∨ i = 28 → ∃ v, 1 ≤ v ∧ v ≤ 9 ∧ w i = nI v) ∧
  ∀ e, e = 0 ∨ e = 1 → ∃ h, h ≤ 9 ∧ w (15 + 14 * e) = nI h ∧ ∀ k, k < h → ∃ v, v ≤ 10 * C + 9 ∧ w (16 + 14 * e + k) = nI v
theorem snd_n {e : Nat} {w : Nat → Int32} {i : Nat} (h1 : i < 5 ∨ 7 < i) (h2 : i < 15 + 14 * e ∨ 16 + 14 * e + hN e w ≤ i) (h3 : i ≠ 28 - 14 * e) : snd e w i = w i := by
  unfold snd
  split
  · rfl
  · rw [upd_n _ _ h3, upd_n _ _ (by omega), upd_n _ _ (by omega), upd_n _ _ (by omega), upd_n _ _ (by omega)]
    unfold shf
    rw [if_neg (by omega)]
theorem snd_hold {e : Nat} (he : e = 0 ∨ e = 1) {w : Nat → Int32} {h : Nat} (hh : w (15 + 14 * e) = nI h) (h9 : h ≤ 9) : snd e w (15 + 14 * e) = nI (h - 1) := by
  unfold snd
  by_cases h0 : h = 0
  · subst h0
    rw [hh, if_pos (by decide), hh]
  · rw [hh, if_neg (nI_nle (by omega) (by omega)), upd_n _ _ (by omega), upd_n _ _ (by omega), upd_n _ _ (by omega), upd_n _ _ (by omega), upd_s]
    obtain ⟨k, rfl⟩ : ∃ k, h = k + 1 := ⟨h - 1, by omega⟩
    exact nI_pred k
theorem hN_of {e h : Nat} {w : Nat → Int32} (hh : w (15 + 14 * e) = nI h) (h9 : h ≤ 9) : hN e w = h := by unfold hN; rw [hh, nI_clamp (by omega)]
theorem m_tick {F : Hp} {q m : Nat} {w : Nat → Int32} {sv : Int32} (hm : m ≠ q) (hsv : gI F m 8 21 = some sv) {h0 h1 : Nat} (hh0 : w 15 = nI h0) (hh1 : w 29 = nI h1) (h90 : h0 ≤ 9) (h91 : h1 ≤ 9) (hr : ¬ w 10 = 0) : g_X8_tick (pg F q w) m q = some (pg F q (tk (bit sv 2) (bit sv 0) (bit sv 1) w)) := by
  have hO : ∀ w', isO (pg F q w') m 8 = true := fun w' => by rw [pg_isO hm]; exact isO_of hsv
  have hsp : ∀ w', gI (pg F q w') m 8 21 = some sv := fun w' => by rw [pg_gI hm]; exact hsv
  have t15 : tk1 w 15 = nI h0 := by unfold tk1; rw [upd_n _ _ (by omega), upd_n _ _ (by omega)]; exact hh0
  have t29 : tk1 w 29 = nI h1 := by unfold tk1; rw [upd_n _ _ (by omega), upd_n _ _ (by omega)]; exact hh1
  have t1 : tk1 w 1 = w 1 := by unfold tk1; rw [upd_n _ _ (by omega), upd_n _ _ (by omega)]
  have t2 : tk1 w 2 = w 2 := by unfold tk1; rw [upd_n _ _ (by omega), upd_n _ _ (by omega)]
  have main : ∀ z : Int32, z = pwr w → g_X8_tick_b36 (pg F q w) m q (w 0) q 4 (w 4) z = some (pg F q (tk (bit sv 2) (bit sv 0) (bit sv 1) w)) := by
    intro z hz
    unfold g_X8_tick_b36 tk
    rw [show (4 : Int32) = nI 4 from rfl, pg_st _ _ _ _ (by omega), Option.bind_some, show (3 : Int32) = nI 3 from rfl, pg_ld _ _ _ (by omega), Option.bind_some, pg_st _ _ _ _ (by omega), Option.bind_some]
    have e1 : upd (upd w 4 (w 4 + z)) 3 (upd w 4 (w 4 + z) 3 + 1) = tk1 w := by rw [hz, upd_n _ _ (by omega)]; rfl
    rw [e1]
    by_cases c0 : w 0 = 0
    · rw [if_pos c0, if_pos c0]
      have s0 := m_sendOn (F := F) (q := q) (e := 0) (Or.inl rfl) t15 h90
      rw [nI_0] at s0
      have n29 : snd 0 (tk1 w) 29 = nI h1 := by
        rw [snd_n (by omega) (by rw [hN_of t15 h90]; omega) (by omega)]; exact t29
      have s1 := m_sendOn (F := F) (q := q) (e := 1) (Or.inr rfl) n29 h91
      rw [show nI 1 = 1 from rfl] at s1
      rw [s0, Option.bind_some, s1, Option.bind_some, m_isEmpty, bnd2_s, hsp, Option.bind_some, m_has, bnd2_s]
      unfold tkA
      generalize snd 1 (snd 0 (tk1 w)) = w2
      cases hE : emp w2 with
      | false => simp
      | true =>
        cases hB : bit sv 2 with
        | false => simp
        | true =>
          rw [if_neg (by decide), if_neg (by decide), show sI (pg F q w2) q 0 0 1 = some (pg F q (upd w2 0 1)) from pg_st F q w2 (j := 0) 1 (by omega), Option.bind_some, show (9 : Int32) = nI 9 from rfl, pg_ld _ _ _ (by omega), Option.bind_some, show ∀ z, sI (pg F q (upd w2 0 1)) q 0 1 z = some (pg F q (upd (upd w2 0 1) 1 z)) from fun z => pg_st F q _ (j := 1) z (by omega), Option.bind_some, upd_n _ _ (by omega)]
          rfl
    · rw [if_neg c0, if_neg c0]
      by_cases c1 : w 0 = 1
      · rw [if_pos c1, if_pos c1]
        rw [show aI (pg F q (tk1 w)) q 0 1 = some (tk1 w 1) from pg_ld F q _ (j := 1) (by omega), Option.bind_some, t1, show ∀ z, sI (pg F q (tk1 w)) q 0 1 z = some (pg F q (upd (tk1 w) 1 z)) from fun z => pg_st F q _ (j := 1) z (by omega), Option.bind_some]
        generalize upd (tk1 w) 1 (w 1 - 1) = w2
        rw [show aI (pg F q w2) q 0 1 = some (w2 1) from pg_ld F q _ (j := 1) (by omega), Option.bind_some]
        unfold g_X8_tick_b116 tkG
        rw [show ∀ z, sI (pg F q w2) q 0 0 z = some (pg F q (upd w2 0 z)) from fun z => pg_st F q _ (j := 0) z (by omega), show ∀ z, sI (pg F q w2) q 0 0 z = some (pg F q (upd w2 0 z)) from fun z => pg_st F q _ (j := 0) z (by omega), Option.bind_some, Option.bind_some]
        rw [show ∀ w3 z, sI (pg F q w3) q 0 2 z = some (pg F q (upd w3 2 z)) from fun w3 z => pg_st F q _ (j := 2) z (by omega), show ∀ w3 z, sI (pg F q w3) q 0 2 z = some (pg F q (upd w3 2 z)) from fun w3 z => pg_st F q _ (j := 2) z (by omega)]
        split <;> rfl
      · rw [if_neg c1, if_neg c1]
        by_cases c2 : w 0 = 2
        · rw [if_pos c2, if_pos c2]
          rw [show aI (pg F q (tk1 w)) q 0 2 = some (tk1 w 2) from pg_ld F q _ (j := 2) (by omega), Option.bind_some, t2, show ∀ z, sI (pg F q (tk1 w)) q 0 2 z = some (pg F q (upd (tk1 w) 2 z)) from fun z => pg_st F q _ (j := 2) z (by omega), Option.bind_some]
          have u15 : upd (tk1 w) 2 (w 2 + 1) 15 = nI h0 := by rw [upd_n _ _ (by omega)]; exact t15
          have u29 : upd (tk1 w) 2 (w 2 + 1) 29 = nI h1 := by rw [upd_n _ _ (by omega)]; exact t29
          generalize upd (tk1 w) 2 (w 2 + 1) = w2 at u15 u29
          have d0 := m_isDue (F := F) (q := q) (m := m) (e := 0) hm hsv (Or.inl rfl) u15 h90
          have d1 := m_isDue (F := F) (q := q) (m := m) (e := 1) hm hsv (Or.inr rfl) u29 h91
          rw [nI_0] at d0
          rw [show nI 1 = 1 from rfl] at d1
          have b154 : g_X8_tick_b154 (pg F q w2) q = some (pg F q (upd (upd (upd w2 0 3) 1 (wk w2)) 2 0)) := by
            unfold g_X8_tick_b154
            rw [show sI (pg F q w2) q 0 0 3 = some (pg F q (upd w2 0 3)) from pg_st F q _ (j := 0) 3 (by omega), Option.bind_some, m_wakeTime, bnd2_s, show ∀ w3 z, sI (pg F q w3) q 0 1 z = some (pg F q (upd w3 1 z)) from fun w3 z => pg_st F q _ (j := 1) z (by omega), Option.bind_some, show ∀ w3 z, sI (pg F q w3) q 0 2 z = some (pg F q (upd w3 2 z)) from fun w3 z => pg_st F q _ (j := 2) z (by omega), Option.bind_some]
            rw [show wk (upd w2 0 3) = wk w2 from rfl]
          rw [ckO_t (hO _), d0, bnd2_s, ckO_t (hO _), d1, bnd2_s, b154]
          unfold tkS
          cases due (bit sv 0) 0 w2 with
          | true => simp
          | false =>
            cases due (bit sv 1) 1 w2 with
            | true => simp
            | false => simp
        · rw [if_neg c2, if_neg c2]
          rw [show aI (pg F q (tk1 w)) q 0 1 = some (tk1 w 1) from pg_ld F q _ (j := 1) (by omega), Option.bind_some, t1, show ∀ z, sI (pg F q (tk1 w)) q 0 1 z = some (pg F q (upd (tk1 w) 1 z)) from fun z => pg_st F q _ (j := 1) z (by omega), Option.bind_some]
          generalize upd (tk1 w) 1 (w 1 - 1) = w2
          rw [show aI (pg F q w2) q 0 1 = some (w2 1) from pg_ld F q _ (j := 1) (by omega), Option.bind_some]
          unfold g_X8_tick_b192 tkW
          rw [show ∀ z, sI (pg F q w2) q 0 0 z = some (pg F q (upd w2 0 z)) from fun z => pg_st F q _ (j := 0) z (by omega), show ∀ z, sI (pg F q w2) q 0 0 z = some (pg F q (upd w2 0 z)) from fun z => pg_st F q _ (j := 0) z (by omega)]
          split <;> rfl
  unfold g_X8_tick
  rw [show aI (pg F q w) q 0 0 = some (w 0) from pg_ld F q _ (j := 0) (by omega), Option.bind_some, show aI (pg F q w) q 0 4 = some (w 4) from pg_ld F q _ (j := 4) (by omega), Option.bind_some, show aI (pg F q w) q 0 2 = some (w 2) from pg_ld F q _ (j := 2) (by omega), Option.bind_some, show aI (pg F q w) q 0 10 = some (w 10) from pg_ld F q _ (j := 10) (by omega), Option.bind_some, if_neg hr]
  have hp : pwr w = if w 0 = 2 then (if jrem (w 2 + 1) (w 10) = 0 then 5 else 1) else 9 := rfl
  by_cases c : w 0 = 2
  · rw [if_pos c]
    rw [if_pos c] at hp
    by_cases d : jrem (w 2 + 1) (w 10) = 0
    · rw [if_pos d]; rw [if_pos d] at hp; exact main _ hp.symm
    · rw [if_neg d]; rw [if_neg d] at hp; exact main _ hp.symm
  · rw [if_neg c]
    rw [if_neg c] at hp
    exact main _ hp.symm
