/-! judge -/
def dgt (R r : Nat) : Nat := R / 1000 ^ r % 1000
def jdg (R : Nat) : Nat → Nat → (Nat → Int32) → Int32
  | 0, _, _ => -9
  | r + 1, k, w => if dok (dgt R r / 100) (dgt R r / 10 % 10) (dgt R r % 10) w = true then jdg R r (k + 1) (dop (dgt R r / 100) (dgt R r / 10 % 10) (dgt R r % 10) w) else nI k
theorem dgt_lt (R r : Nat) : dgt R r < 1000 := Nat.mod_lt _ (by omega)
theorem Eqv_jdg {R : Nat} : ∀ (r k C : Nat) (w w' : Nat → Int32), C + 20 * r < 100000000 → Wf C w → Eqv w w' → jdg R r k w' = jdg R r k w
  | 0, _, _, _, _, _, _, _ => rfl
  | r + 1, k, C, w, w', hC, hw, h => by
    have := dgt_lt R r
    rw [jdg, jdg, Eqv_dok h, Eqv_jdg r (k + 1) (C + 20) _ _ (by omega) (Wf_dop (by omega) (by omega) hw) (Eqv_dop (by omega) (by omega) hw h)]
section JU
variable {F : Hp} {N : Nat → Nat} {T : Nat → Nat → Int32} {c : Nat → Nat} {G : Nat → Nat → Int32} {sd : Int64}
theorem dg_c {R r : Nat} (hR : R < 2 ^ 63) (hr : r ≤ 3) : lI (1000 ^ (r + 1)) / 1000 = lI (1000 ^ r) ∧ Int64.toInt32 (lI (R % 1000 ^ (r + 1)) / lI (1000 ^ r)) = nI (dgt R r) ∧ jreml (lI (R % 1000 ^ (r + 1))) (lI (1000 ^ r)) = lI (R % 1000 ^ r) := by
  obtain ⟨p1, p2⟩ := p1000 (r := r) (by omega)
  obtain ⟨p3, p4⟩ := p1000 (r := r + 1) (by omega)
  have hm : R % 1000 ^ (r + 1) < 2 ^ 63 := Nat.lt_of_le_of_lt (Nat.mod_le _ _) hR
  have d1 := dgt_lt R r
  have e : R % 1000 ^ (r + 1) / 1000 ^ r = dgt R r := by
    unfold dgt
    rw [Nat.pow_succ, Nat.mod_mul_right_div_self]
  refine ⟨?_, ?_, ?_⟩
  · rw [show (1000 : Int64) = lI 1000 from rfl, lI_div (by omega) (by omega) (by omega), Nat.pow_succ, Nat.mul_div_cancel _ (by omega)]
  · rw [lI_div hm (by omega) p2, e, lI_i32 (by omega)]
  · rw [lI_rem hm (by omega) p2, Nat.mod_mod_of_dvd _ (by rw [Nat.pow_succ]; exact Nat.dvd_mul_right _ _)]
theorem c_juL {R m : Nat} (hR : R < 2 ^ 63) (hm : m ≤ 4) : ∀ (r k n C : Nat) (w : Nat → Int32), k + r = m → r < n → C + 20 * r < 100000000 → Wf C w → CS (dz F 15 1 w) N T c G sd → ∃ w', g_X7_judge_b71 n (dz F 15 1 w) 0 (nI m) (lI (1000 ^ r)) (lI (R % 1000 ^ r)) (nI k) = some (jdg R r k w, dz F 15 1 w') := by
  intro r
  induction r with
  | zero =>
    intro k n C w hk hn hC hw hS
    obtain ⟨n, rfl⟩ : ∃ n', n = n' + 1 := ⟨n - 1, by omega⟩
    refine ⟨w, ?_⟩
    rw [g_X7_judge_b71, if_pos (nI_le (by omega) (by omega)), jdg]
  | succ r ih =>
    intro k n C w hk hn hC hw hS
    obtain ⟨n, rfl⟩ : ∃ n', n = n' + 1 := ⟨n - 1, by omega⟩
    obtain ⟨p1, p2⟩ := p1000 (r := r) (by omega)
    obtain ⟨p3, p4⟩ := p1000 (r := r + 1) (by omega)
    obtain ⟨d1, d2, d3⟩ := dg_c (R := R) (r := r) hR (by omega)
    have dl := dgt_lt R r
    have hge : ¬ lg_cmp (lI (1000 ^ (r + 1))) 1000 < 0 := by
      rw [lgc_lt, show (1000 : Int64) = lI 1000 from rfl, lI_lt (by omega) (by omega), Nat.pow_succ]
      omega
    have hS2 : CS (dz F 15 1 (dop (dgt R r / 100) (dgt R r / 10 % 10) (dgt R r % 10) w)) N T c G sd := by
      have := CS_trial (mg := 1) (w := dop (dgt R r / 100) (dgt R r / 10 % 10) (dgt R r % 10) w) (Or.inr rfl) hS
      rw [dz_dz] at this
      exact this
    rw [g_X7_judge_b71, if_neg (nI_ge (by omega) (by omega)), if_neg hge, CS_r3 hS, Option.bind_some, d1, if_neg (lI_ne0 (by omega) p2), ckO_t (dz_isO _ _ _ _), d2, c_admits (a := dgt R r / 100) (e := dgt R r / 10 % 10) (t := dgt R r % 10) (C := C) (by omega) (by omega) (by omega) (by omega) (by omega) hw, bnd2_s, d3, nI_1, jdg]
    by_cases q : dok (dgt R r / 100) (dgt R r / 10 % 10) (dgt R r % 10) w = true
    · rw [if_pos q, if_neg (by decide), if_pos q, if_neg (lI_ne0 (by omega) p2)]
      exact ih (k + 1) n (C + 20) _ (by omega) (by omega) (by omega) (Wf_dop (by omega) (by omega) hw) hS2
    · rw [if_neg q, if_pos rfl, if_neg q]
      exact ⟨_, rfl⟩
theorem c_unL {row : Int64} {m : Nat} (hm : m ≤ 4) : ∀ (r k n : Nat), k + r = m → r < n → g_X7_judge_b18 n F 0 (nI m) row (lI (1000 ^ k)) (nI k) = g_X7_judge_b18 (0 + 1) F 0 (nI m) row (lI (1000 ^ m)) (nI m) := by
  intro r
  induction r with
  | zero =>
    intro k n hk hn
    obtain ⟨n, rfl⟩ : ∃ n', n = n' + 1 := ⟨n - 1, by omega⟩
    obtain rfl : k = m := by omega
    rw [g_X7_judge_b18, g_X7_judge_b18, if_pos (nI_le (by omega) (by omega)), if_pos (nI_le (by omega) (by omega))]
  | succ r ih =>
    intro k n hk hn
    obtain ⟨n, rfl⟩ : ∃ n', n = n' + 1 := ⟨n - 1, by omega⟩
    have e : lI (1000 ^ k) * 1000 = lI (1000 ^ (k + 1)) := by
      rw [show (1000 : Int64) = lI 1000 from rfl, lI_mul, Nat.pow_succ]
    rw [g_X7_judge_b18, if_neg (nI_ge (by omega) (by omega)), e, nI_1]
    exact ih (k + 1) n (by omega) (by omega)
theorem m_juL {s : Nat → Int32} {R m : Nat} (h7 : s 21 = 7) (hR : R < 2 ^ 63) (hm : m ≤ 4) : ∀ (r k n C : Nat) (ar : Nat → Nat → Int32), k + r = m → r < n → C + 20 * r + 120 < 99999990 → Wf C (ar 114) → ∃ w', g_X8_judge_b51 n (mh F s sd ar) 107 (nI m) (lI R) (nI k) = some (jdg R r k (ar 114), mh F s sd (va_up ar 114 w')) := by
  intro r
  induction r with
  | zero =>
    intro k n C ar hk hn hC hw
    obtain ⟨n, rfl⟩ : ∃ n', n = n' + 1 := ⟨n - 1, by omega⟩
    refine ⟨ar 114, ?_⟩
    rw [g_X8_judge_b51, if_pos (nI_le (by omega) (by omega)), jdg, va_up_eta rfl]
  | succ r ih =>
    intro k n C ar hk hn hC hw
    obtain ⟨n, rfl⟩ : ∃ n', n = n' + 1 := ⟨n - 1, by omega⟩
    obtain ⟨p1, p2⟩ := p1000 (r := r) (by omega)
    have dl := dgt_lt R r
    have e0 : nI m - 1 - nI k = nI r := by
      obtain ⟨m', rfl⟩ : ∃ m', m = m' + 1 := ⟨m - 1, by omega⟩
      rw [nI_pred, nI_sub (by omega)]
      congr 1
      omega
    have e1 : Int64.toInt32 (jreml (lI R / lI (1000 ^ r)) 1000) = nI (dgt R r) := by
      rw [lI_div hR (by omega) p2, show (1000 : Int64) = lI 1000 from rfl, lI_rem (Nat.lt_of_le_of_lt (Nat.div_le_self _ _) hR) (by omega) (by omega)]
      exact lI_i32 (by unfold dgt at dl; omega)
    have f1 : nI (dgt R r) / 100 = nI (dgt R r / 100) := by
      rw [show (100 : Int32) = nI 100 from rfl, nI_div (by omega) (by omega) (by omega)]
    have f2 : jrem (nI (dgt R r) / 10) 10 = nI (dgt R r / 10 % 10) := by
      rw [show (10 : Int32) = nI 10 from rfl, nI_div (by omega) (by omega) (by omega), nI_rem (by omega) (by omega) (by omega)]
    have f3 : jrem (nI (dgt R r)) 10 = nI (dgt R r % 10) := by
      rw [show (10 : Int32) = nI 10 from rfl, nI_rem (by omega) (by omega) (by omega)]
    rw [g_X8_judge_b51, if_neg (nI_ge (by omega) (by omega)), e0, m_lp (by omega), bnd2_s, if_neg (lI_ne0 (by omega) p2), ckO_t (mh_isO _ _ _ _), e1, f1, f2, f3, m_does (C := C) h7 (by omega) (by omega) (by omega) (by omega) hw, bnd2_s, nI_1, jdg]
    by_cases q : dok (dgt R r / 100) (dgt R r / 10 % 10) (dgt R r % 10) (ar 114) = true
    · rw [if_pos q, if_neg (by decide), if_pos q]
      obtain ⟨w', i1⟩ := ih (k + 1) n (C + 20) (va_up ar 114 (dop (dgt R r / 100) (dgt R r / 10 % 10) (dgt R r % 10) (ar 114))) (by omega) (by omega) (by omega) (by rw [va_up_self]; exact Wf_dop (by omega) (by omega) hw)
      rw [va_up_self, va_up2] at i1
      exact ⟨w', i1⟩
    · rw [if_neg q, if_pos rfl, if_neg q]
      exact ⟨_, rfl⟩
end JU
theorem s_judge {B : Nat} (hB : B + 1000 < 99990000) (x : Int32) (row : Int64) : Stp1 B (fun F => g_X7_judge F 0 x row) (fun F => g_X8_judge F 107 x row) := by
  refine stp_of (fun F N T c G sd hW hC hM => ?_)
  have hw := hW.2.2.2.2.2.2.2.1
  by_cases hx : 1 ≤ x ∧ x ≤ 4
  · obtain ⟨m, hm1, hm, rfl⟩ := nI_cases1 (n := 4) rfl hx
    obtain ⟨p1, p2⟩ := p1000 (r := m) hm
    have z0 : (0 : Int64).toInt = 0 := by decide
    have cu : g_X7_judge F 0 (nI m) row = (if (lg_cmp row (0 : Int64)) < 0 then some ((-2), F) else (if (lg_cmp row (lI (1000 ^ m))) < 0 then ((gR F 0 7 3).bind fun q7 => ((gR F 0 7 2).bind fun q8 => (ckO F q7 1 ((g_X1_become F q7 q8).bind fun F9 => g_X7_judge_b71 gF F9 0 (nI m) (lI (1000 ^ m)) row 0)))) else some ((-2), F))) := by
      have u := c_unL (F := F) (row := row) hm m 0 gF (by omega) (by unfold gF; omega)
      unfold g_X7_judge
      rw [c_isWithin, bnd2_s, if_pos hx, if_neg (by decide), show g_X7_judge_b18 gF F 0 (nI m) row 1 0 = _ from u, g_X7_judge_b18, if_pos (nI_le (by omega) (by omega))]
    have mu : ∀ (F1 : Hp) (s : Nat → Int32) (ar : Nat → Nat → Int32), g_X8_judge (mh F1 s sd ar) 107 (nI m) row = (if (lg_cmp row (0 : Int64)) < 0 then some ((-2), mh F1 (upd s 0 0) sd ar) else if 0 < lg_cmp row (lI (1000 ^ m) - 1) then some ((-2), mh F1 (upd s 0 0) sd ar) else g_X8_judge_b51 gF (mh F1 (upd s 0 0) sd (va_up ar 114 (cp (ar 111) (ar 114)))) 107 (nI m) row 0) := by
      intro F1 s ar
      unfold g_X8_judge
      rw [mh_p0, Option.bind_some, m_in _ _ 1 4 1 4 (by decide) (by decide), bnd2_s, if_pos hx, if_neg (by decide), m_lp hm, bnd2_s, g_X8_in]
      by_cases q : lg_cmp row 0 < 0
      · rw [if_pos q, if_pos q, bnd2_s, if_pos rfl]
      · rw [if_neg q, if_neg q]
        by_cases q2 : 0 < lg_cmp row (lI (1000 ^ m) - 1)
        · rw [if_pos q2, if_pos q2, bnd2_s, if_pos rfl]
        · rw [if_neg q2, if_neg q2, bnd2_s, if_neg (by decide), mh_r7, Option.bind_some, mh_r11, Option.bind_some, m_lay (by omega) (by omega) (by omega), Option.bind_some]
    have l1 : lI (1000 ^ m) - 1 = lI (1000 ^ m - 1) := lI_sub (b := 1) (by omega)
    by_cases hr : 0 ≤ row.toInt ∧ row.toInt < (1000 ^ m : Nat)
    · obtain ⟨R, hR, rfl⟩ : ∃ R : Nat, R < 1000 ^ m ∧ row = lI R := by
        refine ⟨row.toInt.toNat, by omega, ?_⟩
        apply Int64.toInt_inj.mp
        rw [lI_toInt (by omega)]
        omega
      obtain ⟨w, g1, g2⟩ := c_tryNow hW hC
      obtain ⟨w', g3⟩ := c_juL (R := R) (m := m) (by omega) hm m 0 gF B w (by omega) (by unfold gF; omega) (by omega) (Wf_eqv g2 hw) (CS_trial (F := F) (mg := 1) (w := w) (Or.inr rfl) hC)
      rw [Nat.mod_eq_of_lt hR] at g3
      have n1 : ¬ lg_cmp (lI R) 0 < 0 := by
        rw [lgc_lt, show (0 : Int64) = lI 0 from rfl, lI_lt (by omega) (by omega)]
        omega
      refine ⟨jdg R m 0 (G 1), N, T, c, G, sd, WS_mono (Nat.le_add_right B 20) hW, ⟨dz F 15 1 w', ?_, CS_trial (Or.inr rfl) hC, fun k hk => dz_n (by omega)⟩, m_keep (fun F1 s ar hB' => ?_)⟩
      · show g_X7_judge F 0 (nI m) (lI R) = _
        rw [cu, if_neg n1, if_pos (by rw [lgc_lt, lI_lt (by omega) (by omega)]; exact hR), CS_r3 hC, Option.bind_some, CS_r2 hC, Option.bind_some, ckO_t (CS_i15 hC), g1, Option.bind_some, ← Eqv_jdg m 0 B _ _ (by omega) hw g2]
        exact g3
      · have e1 := hB'.2.2.1
        have hE := Eqv_cp (ar 114) (Wf_Lw (Wf_eqv e1 hw))
        have hE2 := Eqv_trans e1 hE
        obtain ⟨wq, g⟩ := m_juL (F := F1) (sd := sd) (s := upd s 0 0) (R := R) (m := m) (by rw [upd_n _ _ (by omega)]; exact hB'.1.2.2.2.2) (by omega) hm m 0 gF B (va_up ar 114 (cp (ar 111) (ar 114))) (by omega) (by unfold gF; omega) (by omega) (by rw [va_up_self]; exact Wf_eqv hE2 hw)
        rw [va_up_self, va_up2, Eqv_jdg m 0 B _ _ (by omega) hw hE2] at g
        refine ⟨upd s 0 0, va_up ar 114 wq, ?_, MB_a _ (by omega) (MB_s 0 (by omega) hB')⟩
        show g_X8_judge (mh F1 s sd ar) 107 (nI m) (lI R) = _
        rw [mu, if_neg n1, l1, if_neg (by rw [lgc_gt, lI_lt (by omega) (by omega)]; omega)]
        exact g
    · have key : ∀ (A : Option (Int32 × Hp)) (H : Hp), (if (lg_cmp row (0 : Int64)) < 0 then some ((-2 : Int32), H) else (if (lg_cmp row (lI (1000 ^ m))) < 0 then A else some ((-2), H))) = some (-2, H) := by
        intro A H
        by_cases q : lg_cmp row 0 < 0
        · rw [if_pos q]
        · rw [if_neg q, if_neg]
          rw [lgc_lt, Int64.lt_iff_toInt_lt] at q ⊢
          rw [lI_toInt (by omega)]
          omega
      have key2 : ∀ (A : Option (Int32 × Hp)) (H : Hp), (if (lg_cmp row (0 : Int64)) < 0 then some ((-2 : Int32), H) else (if 0 < (lg_cmp row (lI (1000 ^ m) - 1)) then some ((-2), H) else A)) = some (-2, H) := by
        intro A H
        by_cases q : lg_cmp row 0 < 0
        · rw [if_pos q]
        · rw [if_neg q, if_pos]
          rw [lgc_lt, Int64.lt_iff_toInt_lt] at q
          rw [lgc_gt, Int64.lt_iff_toInt_lt, l1, lI_toInt (by omega)]
          omega
      refine ⟨-2, N, T, c, G, sd, WS_mono (Nat.le_add_right B 20) hW, ⟨F, ?_, hC, fun _ _ => rfl⟩, m_keep (fun F1 s ar hB => ⟨upd s 0 0, ar, ?_, MB_s 0 (by omega) hB⟩)⟩
      · show g_X7_judge F 0 (nI m) row = _
        rw [cu]
        exact key _ _
      · show g_X8_judge (mh F1 s sd ar) 107 (nI m) row = _
        rw [mu]
        exact key2 _ _
  · refine ⟨-2, N, T, c, G, sd, WS_mono (Nat.le_add_right B 20) hW, ⟨F, ?_, hC, fun _ _ => rfl⟩, m_keep (fun F1 s ar hB => ⟨upd s 0 0, ar, ?_, MB_s 0 (by omega) hB⟩)⟩
    · show g_X7_judge F 0 x row = _
      unfold g_X7_judge
      rw [c_isWithin, bnd2_s, if_neg hx, if_pos rfl]
    · show g_X8_judge (mh F1 s sd ar) 107 x row = _
      unfold g_X8_judge
      rw [mh_p0, Option.bind_some, m_in _ _ 1 4 1 4 (by decide) (by decide), bnd2_s, if_neg hx, if_pos rfl]
