/-! which: how it was at each time -/
def clk (w : Nat → Int32) : Nat := (w 3).toNatClampNeg
theorem clk_w {C : Nat} {w : Nat → Int32} (hC : C < 100000000) (hw : Wf C w) : w 3 = nI (clk w) ∧ clk w ≤ C := by
  obtain ⟨-, -, -, ⟨cl, h1, h2⟩, -⟩ := hw
  unfold clk
  rw [h2, nI_clamp (by omega)]
  exact ⟨rfl, h1⟩
theorem tkA_3 (mg : Bool) (w : Nat → Int32) : tkA mg w 3 = w 3 := by unfold tkA; split <;> rfl
theorem tkG_3 (w : Nat → Int32) : tkG w 3 = w 3 := by unfold tkG; split <;> rfl
theorem tkS_3 (u0 u1 : Bool) (w : Nat → Int32) : tkS u0 u1 w 3 = w 3 := by unfold tkS; split <;> rfl
theorem tkW_3 (w : Nat → Int32) : tkW w 3 = w 3 := by unfold tkW; split <;> rfl
theorem tk_3 {C : Nat} {mg u0 u1 : Bool} {w : Nat → Int32} (hC : C < 100000000) (hw : Wf C w) : tk mg u0 u1 w 3 = w 3 + 1 := by
  have hL : Lw C (tk1 w) := Lw_up _ (by omega) (Lw_up _ (by omega) (Wf_Lw hw))
  have L0 := Lw_snd (Or.inl rfl) hC hL
  unfold tk
  split
  · rw [tkA_3, snd_low (Or.inr rfl) (by omega) (Lw_hN (Or.inr rfl) L0), snd_low (Or.inl rfl) (by omega) (Lw_hN (Or.inl rfl) hL)]
    rfl
  · split
    · rw [tkG_3]
      rfl
    · split
      · rw [tkS_3]
        rfl
      · rw [tkW_3]
        rfl
theorem clk_tk {C : Nat} {mg u0 u1 : Bool} {w : Nat → Int32} (hC : C < 100000000) (hw : Wf C w) : clk (tk mg u0 u1 w) = clk w + 1 := by
  obtain ⟨h1, h2⟩ := clk_w hC hw
  unfold clk at *
  rw [tk_3 hC hw, h1, nI_1, nI_clamp (by omega), nI_clamp (by omega)]
theorem clk_tkN {mg u0 u1 : Bool} : ∀ (n C : Nat) (w : Nat → Int32), C + n < 100000000 → Wf C w → clk (tkN mg u0 u1 n w) = clk w + n
  | 0, _, _, _, _ => rfl
  | n + 1, C, w, hC, hw => by
    rw [tkN, clk_tkN n (C + 1) _ (by omega) (Wf_tk mg u0 u1 (by omega) hw), clk_tk (C := C) (by omega) hw]
    omega
theorem clk_bring (e : Nat) (w : Nat → Int32) : clk (bring e w) = clk w := by
  unfold clk bring cm
  split
  · rw [upd_n _ _ (by omega), upd_n _ _ (by omega)]
  · rw [upd_n _ _ (by omega)]
theorem clk_eqv {w w' : Nat → Int32} (h : Eqv w w') : clk w' = clk w := by unfold clk; rw [h.1 3 (by omega)]
def pT (c : Nat → Nat) (t : Nat) : Nat → Nat → (Nat → Int32) → (Nat → Int32)
  | 0, _, w => tkN true true true (t - clk w) w
  | r + 1, k, w => if t ≤ clk w then w else if c k < 10 then pT c t r (k + 1) (tkN true true true (min (c k) (t - clk w)) w) else pT c t r (k + 1) (bring (c k - 10) w)
theorem pT_done {c : Nat → Nat} {t k : Nat} {w : Nat → Int32} (r : Nat) (h : t ≤ clk w) : pT c t r k w = w := by
  cases r with
  | zero => rw [pT, show t - clk w = 0 by omega, tkN]
  | succ r => rw [pT, if_pos h]
theorem Eqv_pT {c : Nat → Nat} {m t : Nat} (hc : EvOk c m) (ht : t ≤ 99) : ∀ (r k C : Nat) (w w' : Nat → Int32), k + r = m → C + 9 * r + 99 < 100000000 → Wf C w → Eqv w w' → Eqv (pT c t r k w) (pT c t r k w')
  | 0, k, C, w, w', hk, hC, hw, h => by
    rw [pT, pT, clk_eqv h]
    exact Eqv_tkN (C := C) (by omega) hw h
  | r + 1, k, C, w, w', hk, hC, hw, h => by
    rw [pT, pT, clk_eqv h]
    have h2 := hc.2 k (by omega)
    by_cases q : t ≤ clk w
    · rw [if_pos q, if_pos q]
      exact h
    · rw [if_neg q, if_neg q]
      by_cases q2 : c k < 10
      · rw [if_pos q2, if_pos q2]
        have hm : min (c k) (t - clk w) ≤ 9 := Nat.le_trans (Nat.min_le_left _ _) (by omega)
        exact Eqv_pT hc ht r (k + 1) (C + 9) _ _ (by omega) (by omega) (Wf_mono (by omega) (Wf_tkN (by omega) hw)) (Eqv_tkN (C := C) (by omega) hw h)
      · rw [if_neg q2, if_neg q2]
        exact Eqv_pT hc ht r (k + 1) C _ _ (by omega) (by omega) (Wf_bring (by omega) (by omega) hw) (Eqv_bring (by omega) hw h)
theorem jmin_nI {x y : Nat} (hx : x < 2 ^ 31) (hy : y < 2 ^ 31) : jmin (nI x) (nI y) = nI (min x y) := by
  unfold jmin
  by_cases c : y < x
  · rw [if_pos (nI_lt c hx), Nat.min_eq_right (by omega)]
  · rw [if_neg (nI_nlt (by omega) hy), Nat.min_eq_left (by omega)]
section TL
variable {F : Hp} {m : Nat} {c : Nat → Nat}
theorem c_till76 {C t : Nat} {w : Nat → Int32} (ht : t ≤ 99) (hC : C + 99 < 100000000) (hw : Wf C w) : g_X2_performTill_b76 (dz F 15 1 w) 15 (nI t) = some (dz F 15 1 (tkN true true true (t - clk w) w)) := by
  obtain ⟨h1, h2⟩ := clk_w (by omega) hw
  rw [g_X2_performTill_b76, dz_g8, Option.bind_some, ckO_t (dz_isO _ _ _ _), h1]
  by_cases q : clk w ≤ t
  · have ce := c_elapse (F := F) (a := 15) (mg := 1) (m := t - clk w) (C := C) (by omega) (by omega) hw
    rw [show (decide (¬ (1 : Int32) = 0)) = true from rfl] at ce
    rw [nI_sub q, ce, Option.bind_some]
  · have hneg : nI t - nI (clk w) ≤ 0 := by
      rw [Int32.le_iff_toInt_le, Int32.toInt_sub, nI_toInt (by omega), nI_toInt (by omega)]
      have h0 : (0 : Int32).toInt = 0 := by decide
      rw [Int.bmod_eq_of_le (by omega) (by omega)]
      omega
    rw [c_elapse0 hneg, Option.bind_some, show t - clk w = 0 by omega, tkN]
theorem c_tillL {t : Nat} (ht : t ≤ 99) (h : SC F m c) : ∀ (r k fu C : Nat) (w : Nat → Int32), k + r = m → r < fu → C + 9 * r + 99 < 100000000 → Wf C w → g_X2_performTill_b2 fu (dz F 15 1 w) 3 15 (nI t) (nI k) = some (dz F 15 1 (pT c t r k w)) := by
  intro r
  induction r with
  | zero =>
    intro k fu C w hk hfu hC hw
    obtain ⟨fu, rfl⟩ : ∃ n', fu = n' + 1 := ⟨fu - 1, by omega⟩
    have hm := h.2.2.1
    rw [g_X2_performTill_b2, SC_g2 (SC_dz (by omega) h), Option.bind_some, if_pos (nI_le (by omega) (by omega)), c_till76 ht (by omega) hw, pT]
  | succ r ih =>
    intro k fu C w hk hfu hC hw
    obtain ⟨fu, rfl⟩ : ∃ n', fu = n' + 1 := ⟨fu - 1, by omega⟩
    have hm := h.2.2.1
    have hk2 := h.2.2.2 k (by omega)
    have hS := SC_dz (a := 15) (mg := 1) (w := w) (by omega) h
    obtain ⟨h1, h2⟩ := clk_w (by omega) hw
    rw [g_X2_performTill_b2, SC_g2 hS, Option.bind_some, if_neg (nI_ge (by omega) (by omega)), SC_g1 hS, Option.bind_some, SC_n hS, Option.bind_some, if_neg (nI_ge (by omega) (by omega)), dz_g8, Option.bind_some, h1]
    by_cases q : t ≤ clk w
    · rw [if_pos (nI_le q (by omega)), c_till76 ht (by omega) hw, pT_done _ q, show t - clk w = 0 by omega, tkN]
    · rw [if_neg (nI_ge (by omega) (by omega)), Option.bind_some, SC_ld hS (by omega), Option.bind_some, c_isLetter _ hk2.1 hk2.2, bnd2_s, pT, if_neg q]
      by_cases hl : c k < 10
      · have e1 : nI (enc (c k)) - 48 = nI (c k) := by
          unfold enc
          rw [if_pos hl, show (48 : Int32) = nI 48 from rfl, nI_sub (by omega), Nat.add_sub_cancel]
        have hmn : min (c k) (t - clk w) ≤ 9 := Nat.le_trans (Nat.min_le_left _ _) (by omega)
        have ce := c_elapse (F := F) (a := 15) (mg := 1) (m := min (c k) (t - clk w)) (C := C) (by omega) (by omega) hw
        rw [show (decide (¬ (1 : Int32) = 0)) = true from rfl] at ce
        rw [if_pos hl, if_pos rfl, dz_g8, Option.bind_some, ckO_t (dz_isO _ _ _ _), e1, h1, nI_sub (by omega), jmin_nI (by omega) (by omega), ce, Option.bind_some, if_pos hl]
        simp only [g_X2_performTill_b70]
        rw [nI_1]
        exact ih (k + 1) fu (C + 9) _ (by omega) (by omega) (by omega) (Wf_mono (by omega) (Wf_tkN (by omega) hw))
      · have he : c k - 10 = 0 ∨ c k - 10 = 1 := by omega
        have e1 : nI (enc (c k)) = nI (97 + (c k - 10)) := by
          unfold enc
          rw [if_neg hl]
          congr 1
          omega
        rw [if_neg hl, if_neg (by decide), e1, c_bring he hw, Option.bind_some, if_neg hl]
        simp only [g_X2_performTill_b70]
        rw [nI_1]
        exact ih (k + 1) fu C _ (by omega) (by omega) (by omega) (Wf_bring he (by omega) hw)
end TL
/-! what the reference notes -/
def nu (w u : Nat → Int32) : Nat → Int32 := if clk w < 100 then upd u (clk w) (w 0) else u
def nuN : Nat → (Nat → Int32) → (Nat → Int32) → (Nat → Int32)
  | 0, _, u => u
  | r + 1, w, u => nuN r (tk true true true w) (nu (tk true true true w) u)
theorem nuN_t : ∀ (r C : Nat) (w u : Nat → Int32) (t : Nat), t ≤ 99 → C + r < 100000000 → Wf C w → nuN r w u t = if clk w < t ∧ t ≤ clk w + r then tkN true true true (t - clk w) w 0 else u t
  | 0, C, w, u, t, ht, hC, hw => by rw [nuN, if_neg (by omega)]
  | r + 1, C, w, u, t, ht, hC, hw => by
    have hk := clk_tk (mg := true) (u0 := true) (u1 := true) (show C < 100000000 by omega) hw
    rw [nuN, nuN_t r (C + 1) _ _ t ht (by omega) (Wf_tk true true true (by omega) hw), hk]
    by_cases q : clk w + 1 < t ∧ t ≤ clk w + 1 + r
    · rw [if_pos q, if_pos (by omega), show t - clk w = (t - (clk w + 1)) + 1 by omega, tkN]
    · rw [if_neg q, nu, hk]
      by_cases q2 : t = clk w + 1
      · subst q2
        rw [if_pos (by omega), upd_s, if_pos (by omega), show clk w + 1 - clk w = 0 + 1 by omega, tkN, tkN]
      · have e : (if clk w + 1 < 100 then upd u (clk w + 1) (tk true true true w 0) else u) t = u t := by
          split
          · rw [upd_n _ _ q2]
          · rfl
        rw [e, if_neg (by omega)]
def AR (ar : Nat → Nat → Int32) (w u : Nat → Int32) : Nat → Nat → Int32 := va_up (va_up ar 114 w) 120 u
section MW
variable {F : Hp} {s : Nat → Int32} {sd : Int64} {ar : Nat → Nat → Int32} {w u : Nat → Int32} {c : Nat → Nat} {m : Nat}
theorem AR_w : AR ar w u 114 = w := by unfold AR; rw [va_up_ne _ _ (by omega), va_up_self]
theorem AR_u : AR ar w u 120 = u := va_up_self _ _ _
theorem AR_n {k : Nat} (h1 : k ≠ 114) (h2 : k ≠ 120) : AR ar w u k = ar k := by unfold AR; rw [va_up_ne _ _ h2, va_up_ne _ _ h1]
theorem AR_pw (w' : Nat → Int32) : va_up (AR ar w u) 114 w' = AR ar w' u := by
  funext p
  unfold AR
  by_cases q : p = 114
  · subst q
    rw [va_up_self, va_up_ne _ _ (by omega), va_up_self]
  · rw [va_up_ne _ _ q]
    by_cases q2 : p = 120
    · subst q2
      rw [va_up_self, va_up_self]
    · rw [va_up_ne _ _ q2, va_up_ne _ _ q2, va_up_ne _ _ q, va_up_ne _ _ q]
theorem AR_pu (u' : Nat → Int32) : va_up (AR ar w u) 120 u' = AR ar w u' := by unfold AR; rw [va_up2]
theorem m_tn {C : Nat} (h7 : s 21 = 7) (hC : C + 1 < 100000000) (hw : Wf C w) : g_X8_tickNoted (mh F s sd (AR ar w u)) 107 = some (mh F s sd (AR ar (tk true true true w) (nu (tk true true true w) u))) := by
  have hw2 := Wf_tk true true true (by omega) hw
  obtain ⟨k1, k2⟩ := clk_w (by omega) hw2
  have ld : ∀ (i : Nat), i < 39 → aI (mh F s sd (AR ar (tk true true true w) u)) 114 0 (nI i) = some (tk true true true w i) := fun i hi => by rw [m_trial hi, AR_w]
  rw [g_X8_tickNoted, mh_r11, Option.bind_some, ckO_t (mh_isO _ _ _ _), mt (C := C) (by omega) (by rw [AR_w]; exact hw), Option.bind_some, h7, AR_w, AR_pw]
  rw [show bit 7 2 = true from rfl, show bit 7 0 = true from rfl, show bit 7 1 = true from rfl, mh_r11, Option.bind_some, show aI (mh F s sd (AR ar (tk true true true w) u)) 114 0 3 = _ from ld 3 (by omega), Option.bind_some, k1, nu]
  by_cases q : clk (tk true true true w) < 100
  · rw [if_neg (show ¬ (100 : Int32) ≤ nI (clk (tk true true true w)) from nI_ge (b := 100) q (by omega)), if_pos q, mh_r20, Option.bind_some, Option.bind_some, show aI (mh F s sd (AR ar (tk true true true w) u)) 114 0 3 = _ from ld 3 (by omega), Option.bind_some, Option.bind_some, k1, show aI (mh F s sd (AR ar (tk true true true w) u)) 114 0 0 = _ from ld 0 (by omega), Option.bind_some, mh_st _ _ _ _ (p := 120) (kd := 0) (n := 100) (by omega) rfl rfl q (by omega), Option.bind_some, AR_u, AR_pu]
  · rw [if_pos (show (100 : Int32) ≤ nI (clk (tk true true true w)) from nI_le (a := 100) (by omega) (by omega)), if_neg q]
end MW
