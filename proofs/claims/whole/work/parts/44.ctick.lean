/-! the program's ends and its tick, over a page -/
theorem upd_same {w : Nat → Int32} {i : Nat} {x : Int32} (h : w i = x) : upd w i x = w := by
  funext j
  by_cases hj : j = i
  · subst hj; rw [upd_s, h]
  · rw [upd_n _ _ hj]
theorem upd_comm (w : Nat → Int32) {i j : Nat} (x y : Int32) (h : i ≠ j) : upd (upd w i x) j y = upd (upd w j y) i x := by
  funext k
  by_cases h1 : k = j
  · subst h1; rw [upd_s, upd_n _ _ (Ne.symm h), upd_s]
  · rw [upd_n _ _ h1]
    by_cases h2 : k = i
    · subst h2; rw [upd_s, upd_s]
    · rw [upd_n _ _ h2, upd_n _ _ h2, upd_n _ _ h1]
theorem upd_upd (w : Nat → Int32) (i : Nat) (x y : Int32) : upd (upd w i x) i y = upd w i y := by
  funext k
  by_cases h1 : k = i
  · subst h1; rw [upd_s, upd_s]
  · rw [upd_n _ _ h1, upd_n _ _ h1, upd_n _ _ h1]
section CT
variable {F : Hp} {a : Nat} {mg : Int32} {w : Nat → Int32} {e h : Nat}
theorem rem_pos {v : Nat} (hv : v < 2 ^ 31) : (jrem (nI v) 10 = 0) ↔ ¬ 0 < jrem (nI v) 10 := by
  have e : jrem (nI v) 10 = nI (v % 10) := nI_rem hv (b := 10) (by omega) (by omega)
  rw [e, show (0 : Int32) = nI 0 from rfl, nI_eq (by omega) (by omega), nI_ltI (by omega) (by omega)]
  omega
theorem c_dueL (he : e = 0 ∨ e = 1) (hh : w (15 + 14 * e) = nI h) (h9 : h ≤ 9) (hl : ∀ k, k < h → ∃ v, v < 2 ^ 31 ∧ w (16 + 14 * e + k) = nI v) : ∀ (r k n : Nat), k + r = h → r < n → g_X3_isDue_b15 n (dz F a mg w) (a + 1 + 2 * e) (w 3) (nI k) = some (if dueL true e w r k = true then 1 else 0, dz F a mg w) := by
  intro r
  induction r with
  | zero =>
    intro k n hk hn
    obtain ⟨n, rfl⟩ : ∃ n', n = n' + 1 := ⟨n - 1, by omega⟩
    rw [g_X3_isDue_b15, dz_sg4 _ _ _ _ he, Option.bind_some, show 11 + 14 * e + 4 = 15 + 14 * e by omega, hh, if_pos (nI_le (by omega) (by omega))]
    rfl
  | succ r ih =>
    intro k n hk hn
    obtain ⟨n, rfl⟩ : ∃ n', n = n' + 1 := ⟨n - 1, by omega⟩
    rw [g_X3_isDue_b15, dz_sg4 _ _ _ _ he, Option.bind_some, show 11 + 14 * e + 4 = 15 + 14 * e by omega, hh, if_neg (nI_ge (by omega) (by omega)), dz_sg5 _ _ _ _ he, Option.bind_some, dz_len _ _ _ _ he, Option.bind_some, if_neg (nI_ge (b := 9) (by omega) (by omega)), Option.bind_some, dz_ld _ _ _ _ he (by omega), Option.bind_some, dz_sg2 _ _ _ _ he, Option.bind_some, show 11 + 14 * e + 2 = 13 + 14 * e by omega, nI_1, ih (k + 1) n (by omega) (by omega), dueL]
    obtain ⟨v, hv, hw⟩ := hl k (by omega)
    have hc := rem_pos hv
    rw [← hw] at hc
    unfold cnd
    by_cases c1 : 0 < jrem (w (16 + 14 * e + k)) 10
    · rw [if_neg (fun q => (hc.mp q) c1)]
      simp [c1]
    · rw [if_pos (hc.mpr c1)]
      by_cases c2 : w (13 + 14 * e) ≤ w 3 - w (16 + 14 * e + k) / 10
      · rw [if_neg (by rw [Int32.lt_iff_toInt_lt]; rw [Int32.le_iff_toInt_le] at c2; omega)]
        simp [c2]
      · rw [if_pos (by rw [Int32.lt_iff_toInt_lt]; rw [Int32.le_iff_toInt_le] at c2; omega)]
        simp [c1, c2]
theorem c_isDue (he : e = 0 ∨ e = 1) (hh : w (15 + 14 * e) = nI h) (h9 : h ≤ 9) (hl : ∀ k, k < h → ∃ v, v < 2 ^ 31 ∧ w (16 + 14 * e + k) = nI v) : g_X3_isDue (dz F a mg w) (a + 1 + 2 * e) (w 3) = some (if due true e w = true then 1 else 0, dz F a mg w) := by
  have k0 := c_dueL (F := F) (a := a) (mg := mg) he hh h9 hl h 0 gF (by omega) (by unfold gF; omega)
  unfold g_X3_isDue due
  rw [hN_of hh h9, dz_sg4 _ _ _ _ he, Option.bind_some, dz_sg1 _ _ _ _ he, Option.bind_some, show 11 + 14 * e + 4 = 15 + 14 * e by omega, show 11 + 14 * e + 1 = 12 + 14 * e by omega]
  by_cases c : w (15 + 14 * e) < w (12 + 14 * e)
  · rw [if_pos c]
    have c2 : ¬ w (12 + 14 * e) ≤ w (15 + 14 * e) := by
      rw [Int32.lt_iff_toInt_lt] at c; rw [Int32.le_iff_toInt_le]; omega
    simp only [c2, decide_false, Bool.false_or]
    exact k0
  · rw [if_neg c]
    have c2 : w (12 + 14 * e) ≤ w (15 + 14 * e) := by
      rw [Int32.lt_iff_toInt_lt] at c; rw [Int32.le_iff_toInt_le]; omega
    simp [c2]
theorem c_letterAt (he : e = 0 ∨ e = 1) (hh : w (15 + 14 * e) = nI h) (h9 : h ≤ 9) (i : Int32) : g_X3_letterAt (dz F a mg w) (a + 1 + 2 * e) i = some (if 0 ≤ i ∧ i ≤ w (15 + 14 * e) - 1 then w (16 + 14 * e + i.toNatClampNeg) else -9, dz F a mg w) := by
  unfold g_X3_letterAt
  by_cases c : i < 0
  · rw [if_pos c, if_neg]
    intro q
    rw [Int32.lt_iff_toInt_lt] at c
    rw [Int32.le_iff_toInt_le] at q
    omega
  · rw [if_neg c]
    obtain ⟨j, hj, rfl⟩ := nI_of c
    rw [dz_sg4 _ _ _ _ he, Option.bind_some, show 11 + 14 * e + 4 = 15 + 14 * e by omega, hh, nI_clamp hj]
    by_cases d : j < h
    · have e1 : nI h - 1 = nI (h - 1) := by
        obtain ⟨k, rfl⟩ : ∃ k, h = k + 1 := ⟨h - 1, by omega⟩
        exact nI_pred k
      rw [if_neg (nI_ge d (by omega)), dz_sg5 _ _ _ _ he, Option.bind_some, dz_len _ _ _ _ he, Option.bind_some, if_neg (nI_ge (b := 9) (by omega) (by omega)), Option.bind_some, dz_ld _ _ _ _ he (by omega), Option.bind_some, e1, if_pos ⟨nI_pos' hj, nI_le (by omega) (by omega)⟩]
    · rw [if_pos (nI_le (by omega) hj), if_neg]
      intro q
      have q2 := q.2
      by_cases h0 : h = 0
      · subst h0
        have : nI 0 - 1 = -1 := by decide
        rw [this, Int32.le_iff_toInt_le, nI_toInt hj] at q2
        have : (-1 : Int32).toInt = -1 := by decide
        omega
      · have e1 : nI h - 1 = nI (h - 1) := by
          obtain ⟨k, rfl⟩ : ∃ k, h = k + 1 := ⟨h - 1, by omega⟩
          exact nI_pred k
        rw [e1, nI_leI hj (by omega)] at q2
        omega
theorem c_dropL {w0 : Nat → Int32} (he : e = 0 ∨ e = 1) (hh : w0 (15 + 14 * e) = nI h) (h9 : h ≤ 9) (h0 : 0 < h) : ∀ (r k n : Nat) (w : Nat → Int32), k + r + 1 = h → r < n → w = (fun i => if 16 + 14 * e ≤ i ∧ i < 16 + 14 * e + k then w0 (i + 1) else w0 i) →
    g_X3_dropFirst_b2 n (dz F a mg w) (a + 1 + 2 * e) (nI (k + 1)) = some (dz F a mg (upd (shf (16 + 14 * e) h w0) (15 + 14 * e) (w0 (15 + 14 * e) - 1))) := by
  intro r
  induction r with
  | zero =>
    intro k n w hk hn hw
    obtain ⟨n, rfl⟩ : ∃ n', n = n' + 1 := ⟨n - 1, by omega⟩
    have hws : w = shf (16 + 14 * e) h w0 := by
      rw [hw]
      funext i
      unfold shf
      by_cases hi : 16 + 14 * e ≤ i ∧ i < 16 + 14 * e + k
      · rw [if_pos hi, if_pos (by omega)]
      · rw [if_neg hi, if_neg (by omega)]
    have h15 : w (15 + 14 * e) = w0 (15 + 14 * e) := by rw [hw]; exact if_neg (by omega)
    rw [g_X3_dropFirst_b2, dz_sg4 _ _ _ _ he, Option.bind_some, show 11 + 14 * e + 4 = 15 + 14 * e by omega, h15, hh, if_pos (nI_le (by omega) (by omega))]
    unfold g_X3_dropFirst_b39
    rw [dz_sg4 _ _ _ _ he, Option.bind_some, show 11 + 14 * e + 4 = 15 + 14 * e by omega, h15, hh, if_neg (nI_nle (by omega) (by omega)), Option.bind_some, dz_sp4 _ _ _ _ he, Option.bind_some, show 11 + 14 * e + 4 = 15 + 14 * e by omega, hws]
  | succ r ih =>
    intro k n w hk hn hw
    obtain ⟨n, rfl⟩ : ∃ n', n = n' + 1 := ⟨n - 1, by omega⟩
    have h15 : w (15 + 14 * e) = nI h := by rw [← hh, hw]; exact if_neg (by omega)
    rw [g_X3_dropFirst_b2, dz_sg4 _ _ _ _ he, Option.bind_some, show 11 + 14 * e + 4 = 15 + 14 * e by omega, h15, if_neg (nI_ge (by omega) (by omega)), dz_sg5 _ _ _ _ he, Option.bind_some, dz_len _ _ _ _ he, Option.bind_some, if_neg (nI_ge (b := 9) (by omega) (by omega)), Option.bind_some, Option.bind_some, dz_ld _ _ _ _ he (by omega), Option.bind_some, nI_pred, dz_st _ _ _ _ he (by omega), Option.bind_some, nI_1]
    refine ih (k + 1) n _ (by omega) (by omega) ?_
    funext i
    by_cases hi : i = 16 + 14 * e + k
    · subst hi
      rw [upd_s, if_pos (by omega), hw]
      exact if_neg (by omega)
    · rw [upd_n _ _ hi, hw]
      show (if 16 + 14 * e ≤ i ∧ i < 16 + 14 * e + k then w0 (i + 1) else w0 i) = _
      by_cases hj : 16 + 14 * e ≤ i ∧ i < 16 + 14 * e + k
      · rw [if_pos hj, if_pos (by omega)]
      · rw [if_neg hj, if_neg (by omega)]
theorem c_dropFirst (he : e = 0 ∨ e = 1) (hh : w (15 + 14 * e) = nI h) (h9 : h ≤ 9) (h0 : 0 < h) : g_X3_dropFirst (dz F a mg w) (a + 1 + 2 * e) = some (dz F a mg (upd (shf (16 + 14 * e) h w) (15 + 14 * e) (w (15 + 14 * e) - 1))) :=
  c_dropL he hh h9 h0 (h - 1) 0 gF w (by omega) (by unfold gF; omega) (by funext i; rw [if_neg (by omega)])
theorem c_append (he : e = 0 ∨ e = 1) (hh : w (15 + 14 * e) = nI h) (h9 : h ≤ 9) (x : Int32) : g_X3_append (dz F a mg w) (a + 1 + 2 * e) x = some (if h < 9 then (1, dz F a mg (upd (upd w (16 + 14 * e + h) x) (15 + 14 * e) (w (15 + 14 * e) + 1))) else (0, dz F a mg w)) := by
  unfold g_X3_append
  rw [dz_sg4 _ _ _ _ he, Option.bind_some, show 11 + 14 * e + 4 = 15 + 14 * e by omega, hh, if_neg (nI_pos (by omega)), Option.bind_some, dz_sg5 _ _ _ _ he, Option.bind_some, dz_len _ _ _ _ he, Option.bind_some]
  by_cases c : h < 9
  · rw [if_pos (nI_lt (b := 9) c (by omega)), Option.bind_some, Option.bind_some, dz_st _ _ _ _ he c, Option.bind_some, dz_sg4 _ _ _ _ he, Option.bind_some, dz_sp4 _ _ _ _ he, Option.bind_some, show 11 + 14 * e + 4 = 15 + 14 * e by omega, upd_n _ _ (by omega), hh, if_pos c]
  · rw [if_neg (nI_nlt (b := 9) (by omega) (by omega)), if_neg c]
theorem c_side (he : e = 0 ∨ e = 1) : g_X1_side (dz F a mg w) a (nI e) = some (a + 1 + 2 * e, dz F a mg w) := by
  unfold g_X1_side
  rcases he with rfl | rfl
  · rw [if_pos (by decide), dz_g0]; rfl
  · rw [if_neg (by decide), dz_g1]; rfl
theorem c_receive (he : e = 0 ∨ e = 1) (hh : w (15 + 14 * e) = nI h) (h9 : h ≤ 9) (t : Int32) : g_X1_receive (dz F a mg w) a (nI e) t = some (if h < 9 then (1, dz F a mg (cm e t w)) else (0, dz F a mg w)) := by
  unfold g_X1_receive
  rw [ckO_t (dz_isO _ _ _ _), c_side he, bnd2_s, dz_g8, Option.bind_some, ckO_t (dz_isS _ _ _ _ he), c_append he hh h9]
  by_cases c : h < 9
  · rw [if_pos c, if_pos c, bnd2_s, if_pos (Or.inr rfl)]
    unfold cm
    rw [hN_of hh h9]
  · rw [if_neg c, if_neg c, bnd2_s, if_pos (Or.inl rfl)]
theorem c_letter0 (he : e = 0 ∨ e = 1) (hh : w (15 + 14 * e) = nI h) (h9 : h ≤ 9) (h0 : 0 < h) : g_X3_letterAt (dz F a mg w) (a + 1 + 2 * e) 0 = some (w (16 + 14 * e), dz F a mg w) := by
  have e1 : nI h - 1 = nI (h - 1) := by
    obtain ⟨k, rfl⟩ : ∃ k, h = k + 1 := ⟨h - 1, by omega⟩
    exact nI_pred k
  rw [c_letterAt he hh h9, hh, e1, if_pos]
  · rfl
  · exact ⟨by decide, by rw [show (0 : Int32) = nI 0 from rfl]; exact nI_le (by omega) (by omega)⟩
theorem c_letterN (he : e = 0 ∨ e = 1) (hh : w (15 + 14 * e) = nI 0) : g_X3_letterAt (dz F a mg w) (a + 1 + 2 * e) 0 = some (-9, dz F a mg w) := by
  rw [c_letterAt he hh (by omega), hh, if_neg (by decide)]
theorem c_send (he : e = 0 ∨ e = 1) (hh : w (15 + 14 * e) = nI h) (h9 : h ≤ 9) (hl : 0 < h → ∃ v, v < 2 ^ 31 ∧ w (16 + 14 * e) = nI v) : g_X1_send (dz F a mg w) a (a + 1 + 2 * e) (a + 1 + 2 * (1 - e)) = some (dz F a mg (snd e w)) := by
  unfold g_X1_send snd
  rw [ckO_t (dz_isS _ _ _ _ he)]
  by_cases h0 : h = 0
  · subst h0
    rw [c_letterN he hh, bnd2_s, if_pos rfl, hh, if_pos (by decide)]
  · obtain ⟨v, hv, hw⟩ := hl (by omega)
    have e1 : nI h - 1 = nI (h - 1) := by
      obtain ⟨k, rfl⟩ : ∃ k, h = k + 1 := ⟨h - 1, by omega⟩
      exact nI_pred k
    have hne : ¬ w (16 + 14 * e) = -9 := by
      rw [hw]
      intro q
      have := congrArg Int32.toInt q
      rw [nI_toInt hv] at this
      have h2 : (-9 : Int32).toInt = -9 := by decide
      omega
    have hc := rem_pos hv
    rw [← hw] at hc
    have hle : ¬ w (15 + 14 * e) ≤ 0 := by rw [hh]; exact nI_nle (by omega) (by omega)
    rw [c_letter0 he hh h9 (by omega), bnd2_s, if_neg hne, ckO_t (dz_isS _ _ _ _ he), c_dropFirst he hh h9 (by omega), Option.bind_some, dz_g8, Option.bind_some, dz_g10, Option.bind_some, dz_p10, Option.bind_some, dz_g11, Option.bind_some, dz_p11, Option.bind_some, dz_g12, Option.bind_some, dz_p12, Option.bind_some, if_neg hle, hN_of hh h9]
    have he' : 1 - e = 0 ∨ 1 - e = 1 := by omega
    have h28 : 11 + 14 * (1 - e) + 3 = 28 - 14 * e := by rcases he with rfl | rfl <;> rfl
    rw [dz_sp3 _ _ _ _ he', h28]
    have sh : ∀ i, i < 16 → shf (16 + 14 * e) h w i = w i := fun i hi => by unfold shf; rw [if_neg (by omega)]
    have b3 : upd (shf (16 + 14 * e) h w) (15 + 14 * e) (w (15 + 14 * e) - 1) 3 = w 3 := by rw [upd_n _ _ (by omega), sh _ (by omega)]
    have b5 : upd (shf (16 + 14 * e) h w) (15 + 14 * e) (w (15 + 14 * e) - 1) 5 = w 5 := by rw [upd_n _ _ (by omega), sh _ (by omega)]
    have b6 : ∀ z, upd (upd (shf (16 + 14 * e) h w) (15 + 14 * e) (w (15 + 14 * e) - 1)) 5 z 6 = w 6 := fun z => by rw [upd_n _ _ (by omega), upd_n _ _ (by omega), sh _ (by omega)]
    have b7 : ∀ z y, upd (upd (upd (shf (16 + 14 * e) h w) (15 + 14 * e) (w (15 + 14 * e) - 1)) 5 z) 6 y 7 = w 7 := fun z y => by rw [upd_n _ _ (by omega), upd_n _ _ (by omega), upd_n _ _ (by omega), sh _ (by omega)]
    have b28 : shf (16 + 14 * e) h w (28 - 14 * e) = w (28 - 14 * e) := by unfold shf; rw [if_neg (by omega)]
    rw [b3, b5, b6, b7]
    have jm : jmax (w 7) (w 3 - w (16 + 14 * e) / 10) = mx (w 7) (w 3 - w (16 + 14 * e) / 10) := by
      unfold jmax mx
      by_cases c : w 7 < w 3 - w (16 + 14 * e) / 10
      · rw [if_pos c, if_neg (by rw [Int32.le_iff_toInt_le]; rw [Int32.lt_iff_toInt_lt] at c; omega)]
      · rw [if_neg c, if_pos (by rw [Int32.le_iff_toInt_le]; rw [Int32.lt_iff_toInt_lt] at c; omega)]
    rw [jm]
    by_cases c : 0 < jrem (w (16 + 14 * e)) 10
    · rw [if_neg (fun q => hc.mp q c), Option.bind_some, if_neg (by rw [Int32.le_iff_toInt_le]; rw [Int32.lt_iff_toInt_lt] at c; omega)]
    · rw [if_pos (hc.mpr c), if_pos (by rw [Int32.le_iff_toInt_le]; rw [Int32.lt_iff_toInt_lt] at c; omega)]
      rw [upd_same (i := 28 - 14 * e)]
      rw [upd_n _ _ (by omega), upd_n _ _ (by omega), upd_n _ _ (by omega), upd_n _ _ (by omega), b28]
end CT
section CT2
variable {F : Hp} {a : Nat} {mg : Int32} {w : Nat → Int32}
theorem jmax_nI {x y : Nat} (hx : x < 2 ^ 31) (hy : y < 2 ^ 31) : jmax (nI x) (nI y) = nI (max x y) := by
  unfold jmax
  by_cases c : x < y
  · rw [if_pos (nI_lt c hy), Nat.max_eq_right (by omega)]
  · rw [if_neg (nI_nlt (by omega) hx), Nat.max_eq_left (by omega)]
theorem mx_nI {x y : Nat} (hx : x < 2 ^ 31) (hy : y < 2 ^ 31) : mx (nI x) (nI y) = nI (max x y) := by
  unfold mx
  by_cases c : x < y
  · rw [if_neg (nI_ge c hy), Nat.max_eq_right (by omega)]
  · rw [if_pos (nI_le (by omega) hx), Nat.max_eq_left (by omega)]
theorem wk_eq (h : ∀ i, i = 11 ∨ i = 14 ∨ i = 25 ∨ i = 28 → ∃ v, v ≤ 9 ∧ w i = nI v) : jmax (jmax (w 11) (w 25)) (jmax (w 14) (w 28)) = wk w := by
  obtain ⟨v1, b1, e1⟩ := h 11 (by omega)
  obtain ⟨v2, b2, e2⟩ := h 14 (by omega)
  obtain ⟨v3, b3, e3⟩ := h 25 (by omega)
  obtain ⟨v4, b4, e4⟩ := h 28 (by omega)
  unfold wk
  rw [e1, e2, e3, e4, show (0 : Int32) = nI 0 from rfl, jmax_nI (by omega) (by omega), jmax_nI (by omega) (by omega), jmax_nI (by omega) (by omega), mx_nI (by omega) (by omega), mx_nI (by omega) (by omega), mx_nI (by omega) (by omega), mx_nI (by omega) (by omega)]
  congr 1
  omega
theorem c_wakeTime (h : ∀ i, i = 11 ∨ i = 14 ∨ i = 25 ∨ i = 28 → ∃ v, v ≤ 9 ∧ w i = nI v) : g_X1_wakeTime (dz F a mg w) a = some (wk w, dz F a mg w) := by
  have s0 : ∀ j, gI (dz F a mg w) (a + 1) 3 j = gI (dz F a mg w) (a + 1 + 2 * 0) 3 j := fun _ => rfl
  have s1 : ∀ j, gI (dz F a mg w) (a + 3) 3 j = gI (dz F a mg w) (a + 1 + 2 * 1) 3 j := fun _ => rfl
  unfold g_X1_wakeTime
  rw [dz_g0, Option.bind_some, s0, dz_sg0 _ _ _ _ (Or.inl rfl), Option.bind_some, dz_g1, Option.bind_some, s1, dz_sg0 _ _ _ _ (Or.inr rfl), Option.bind_some, Option.bind_some, s0, dz_sg3 _ _ _ _ (Or.inl rfl), Option.bind_some, Option.bind_some, s1, dz_sg3 _ _ _ _ (Or.inr rfl), Option.bind_some, ← wk_eq h]
theorem c_holdsNone : g_X1_holdsNone (dz F a mg w) a = some (if emp w = true then 1 else 0, dz F a mg w) := by
  have s0 : ∀ j, gI (dz F a mg w) (a + 1) 3 j = gI (dz F a mg w) (a + 1 + 2 * 0) 3 j := fun _ => rfl
  have s1 : ∀ j, gI (dz F a mg w) (a + 3) 3 j = gI (dz F a mg w) (a + 1 + 2 * 1) 3 j := fun _ => rfl
  unfold g_X1_holdsNone emp
  rw [dz_g0, Option.bind_some, s0, dz_sg4 _ _ _ _ (Or.inl rfl), Option.bind_some, dz_g1, Option.bind_some, s1, dz_sg4 _ _ _ _ (Or.inr rfl), Option.bind_some]
  by_cases h1 : w 15 = 0
  · by_cases h2 : w 29 = 0 <;> simp [h1, h2]
  · simp [h1]
theorem c_power (h : 0 < w 10) : g_X1_power (dz F a mg w) a = some (pwr w, dz F a mg w) := by
  have h1 : ¬ w 10 ≤ 0 := by rw [Int32.le_iff_toInt_le]; rw [Int32.lt_iff_toInt_lt] at h; omega
  have h2 : ¬ w 10 = 0 := by intro q; rw [q] at h; exact absurd h (by decide)
  unfold g_X1_power pwr
  rw [dz_g5, Option.bind_some, dz_g4, Option.bind_some, if_neg h1, dz_g7, Option.bind_some, Option.bind_some, if_neg h2]
  by_cases c : w 0 = 2
  · rw [if_pos c, if_pos c]
    split <;> rfl
  · rw [if_neg c, if_neg c]
theorem c_tick {C : Nat} (hC : C < 100000000) (hw : Wf C w) : g_X1_tick (dz F a mg w) a = some (dz F a mg (tk (decide (¬ mg = 0)) true true w)) := by
  obtain ⟨hp, hl, hs, ⟨cl, hcl, h3⟩, ⟨rf, hr1, hr2, h10⟩, hfig, hE⟩ := hw
  obtain ⟨h0, h90, hh0, hl0⟩ := hE 0 (Or.inl rfl)
  obtain ⟨h1, h91, hh1, hl1⟩ := hE 1 (Or.inr rfl)
  have hrp : 0 < w 10 := by rw [h10, show (0 : Int32) = nI 0 from rfl]; exact nI_lt (by omega) (by omega)
  have t15 : tk1 w 15 = nI h0 := by unfold tk1; rw [upd_n _ _ (by omega), upd_n _ _ (by omega)]; exact hh0
  have t29 : tk1 w 29 = nI h1 := by unfold tk1; rw [upd_n _ _ (by omega), upd_n _ _ (by omega)]; exact hh1
  have t1 : tk1 w 1 = w 1 := by unfold tk1; rw [upd_n _ _ (by omega), upd_n _ _ (by omega)]
  have t2 : tk1 w 2 = w 2 := by unfold tk1; rw [upd_n _ _ (by omega), upd_n _ _ (by omega)]
  have t0 : tk1 w 0 = w 0 := by unfold tk1; rw [upd_n _ _ (by omega), upd_n _ _ (by omega)]
  have tl : ∀ i, 5 ≤ i → tk1 w i = w i := fun i hi => by unfold tk1; rw [upd_n _ _ (by omega), upd_n _ _ (by omega)]
  have fg : ∀ i, i = 11 ∨ i = 14 ∨ i = 25 ∨ i = 28 → ∃ v, v ≤ 9 ∧ w i = nI v := fun i hi => by
    obtain ⟨v, -, hv, e⟩ := hfig i (by omega)
    exact ⟨v, hv, e⟩
  unfold g_X1_tick tk
  rw [dz_g9, Option.bind_some, ckO_t (dz_isO _ _ _ _), c_power hrp, bnd2_s, dz_p9, Option.bind_some, dz_g8, Option.bind_some, dz_p8, Option.bind_some, upd_n _ _ (by omega)]
  rw [show upd (upd w 4 (w 4 + pwr w)) 3 (w 3 + 1) = tk1 w from rfl]
  rw [dz_g5, Option.bind_some, t0]
  by_cases c0 : w 0 = 0
  · rw [if_pos c0, if_pos c0]
    have s0 := c_send (F := F) (a := a) (mg := mg) (w := tk1 w) (e := 0) (Or.inl rfl) t15 h90 (fun q => by
      obtain ⟨v, hv, e⟩ := hl0 0 q
      exact ⟨v, by omega, by rw [tl _ (by omega)]; exact e⟩)
    have n29 : snd 0 (tk1 w) 29 = nI h1 := by
      rw [snd_n (by omega) (by rw [hN_of t15 h90]; omega) (by omega)]; exact t29
    have s1 := c_send (F := F) (a := a) (mg := mg) (w := snd 0 (tk1 w)) (e := 1) (Or.inr rfl) n29 h91 (fun q => by
      obtain ⟨v, hv, e⟩ := hl1 0 q
      refine ⟨v, by omega, ?_⟩
      rw [snd_n (by omega) (by rw [hN_of t15 h90]; omega) (by omega), tl _ (by omega)]; exact e)
    rw [dz_g0, Option.bind_some, dz_g1, Option.bind_some, ckO_t (dz_isO _ _ _ _)]
    rw [show g_X1_send (dz F a mg (tk1 w)) a (a + 1) (a + 3) = some (dz F a mg (snd 0 (tk1 w))) from s0, Option.bind_some, dz_g1, Option.bind_some, dz_g0, Option.bind_some, ckO_t (dz_isO _ _ _ _)]
    rw [show g_X1_send (dz F a mg (snd 0 (tk1 w))) a (a + 3) (a + 1) = some (dz F a mg (snd 1 (snd 0 (tk1 w)))) from s1, Option.bind_some]
    unfold tkA
    generalize snd 1 (snd 0 (tk1 w)) = w2
    rw [dz_g2, Option.bind_some]
    by_cases cm : mg = 0
    · rw [if_pos cm]; simp [cm]
    · rw [if_neg cm, ckO_t (dz_isO _ _ _ _), c_holdsNone, bnd2_s]
      cases hE : emp w2 with
      | false => simp
      | true => rw [if_neg (by decide), dz_p5, Option.bind_some, dz_g3, Option.bind_some, dz_p6, Option.bind_some, upd_n _ _ (by omega)]; simp [cm]
  · rw [if_neg c0, if_neg c0]
    by_cases c1 : w 0 = 1
    · rw [if_pos c1, if_pos c1, dz_g6, Option.bind_some, t1, dz_p6, Option.bind_some]
      have a0 : upd (tk1 w) 1 (w 1 - 1) 0 = 1 := by rw [upd_n _ _ (by omega), t0]; exact c1
      have a2 : upd (tk1 w) 1 (w 1 - 1) 2 = 0 := by rw [upd_n _ _ (by omega), t2]; exact hs (by rw [c1]; decide)
      generalize upd (tk1 w) 1 (w 1 - 1) = w2 at a0 a2
      rw [dz_g6, Option.bind_some]
      unfold tkG
      by_cases d : w2 1 = 0
      · rw [if_pos d, if_pos d, dz_p5, Option.bind_some, dz_p7, Option.bind_some]
      · rw [if_neg d, if_neg d, upd_same a0, upd_same a2]
    · rw [if_neg c1, if_neg c1]
      by_cases c2 : w 0 = 2
      · rw [if_pos c2, if_pos c2, dz_g7, Option.bind_some, t2, dz_p7, Option.bind_some]
        have u15 : upd (tk1 w) 2 (w 2 + 1) 15 = nI h0 := by rw [upd_n _ _ (by omega)]; exact t15
        have u29 : upd (tk1 w) 2 (w 2 + 1) 29 = nI h1 := by rw [upd_n _ _ (by omega)]; exact t29
        have ul : ∀ i, 5 ≤ i → upd (tk1 w) 2 (w 2 + 1) i = w i := fun i hi => by rw [upd_n _ _ (by omega), tl i hi]
        generalize upd (tk1 w) 2 (w 2 + 1) = w2 at u15 u29 ul
        have d0 := c_isDue (F := F) (a := a) (mg := mg) (w := w2) (e := 0) (Or.inl rfl) u15 h90 (fun k hk => by
          obtain ⟨v, hv, e⟩ := hl0 k hk
          exact ⟨v, by omega, by rw [ul _ (by omega)]; exact e⟩)
        have d1 := c_isDue (F := F) (a := a) (mg := mg) (w := w2) (e := 1) (Or.inr rfl) u29 h91 (fun k hk => by
          obtain ⟨v, hv, e⟩ := hl1 k hk
          exact ⟨v, by omega, by rw [ul _ (by omega)]; exact e⟩)
        have b174 : g_X1_tick_b174 (dz F a mg w2) a = some (dz F a mg (upd (upd (upd w2 0 3) 1 (wk w2)) 2 0)) := by
          unfold g_X1_tick_b174
          rw [dz_p5, Option.bind_some, dz_p7, Option.bind_some, ckO_t (dz_isO _ _ _ _), c_wakeTime (fun i hi => by
            obtain ⟨v, hv, e⟩ := fg i hi
            exact ⟨v, hv, by rw [upd_n _ _ (by omega), upd_n _ _ (by omega), ul _ (by omega)]; exact e⟩), bnd2_s, dz_p6, Option.bind_some, upd_comm _ _ _ (by omega)]
          rw [show wk (upd (upd w2 0 3) 2 0) = wk w2 from rfl]
        rw [dz_g0, Option.bind_some, dz_g8, Option.bind_some, ckO_t (dz_isS F a mg w2 (e := 0) (Or.inl rfl))]
        rw [show g_X3_isDue (dz F a mg w2) (a + 1) (w2 3) = _ from d0, bnd2_s, dz_g1, Option.bind_some, dz_g8, Option.bind_some, ckO_t (dz_isS F a mg w2 (e := 1) (Or.inr rfl))]
        rw [show g_X3_isDue (dz F a mg w2) (a + 3) (w2 3) = _ from d1, bnd2_s, b174]
        unfold tkS
        cases due true 0 w2 with
        | true => simp
        | false =>
          cases due true 1 w2 with
          | true => simp
          | false => simp
      · rw [if_neg c2, if_neg c2, dz_g6, Option.bind_some, t1, dz_p6, Option.bind_some]
        have a0 : upd (tk1 w) 1 (w 1 - 1) 0 = 3 := by
          rw [upd_n _ _ (by omega), t0]
          rcases hp with h | h | h | h
          · exact absurd h c0
          · exact absurd h c1
          · exact absurd h c2
          · exact h
        generalize upd (tk1 w) 1 (w 1 - 1) = w2 at a0
        rw [dz_g6, Option.bind_some]
        unfold tkW
        by_cases d : w2 1 = 0
        · rw [if_pos d, if_pos d, dz_p5, Option.bind_some]
        · rw [if_neg d, if_neg d, upd_same a0]
end CT2
