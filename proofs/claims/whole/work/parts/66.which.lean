/-! which -/
section MV
variable {F : Hp} {s : Nat → Int32} {sd : Int64} {ar : Nat → Nat → Int32} {c : Nat → Nat} {m : Nat}
theorem m_ev {w u : Nat → Int32} {k : Nat} (hm : m ≤ 71) (hev : ∀ k, k < m → ar 113 k = nI (c k)) (hk : k < m) : aI (mh F s sd (AR ar w u)) 113 0 (nI k) = some (nI (c k)) := by
  rw [mh_ld _ _ _ _ (p := 113) (kd := 0) (n := 80) (by omega) rfl rfl (by omega) (by omega), AR_n (by omega) (by omega), hev k hk]
theorem m_w47 {rec : Hp → Nat → Int32 → Option Hp} {k : Nat} (h7 : s 21 = 7) (hm : m ≤ 71) (hev : ∀ k, k < m → ar 113 k = nI (c k)) (hk : k < m) (hl : c k < 10) : ∀ (r j fu C : Nat) (w u : Nat → Int32), j + r = c k → r < fu → C + r + 1 < 100000000 → Wf C w → g_X8_layWas_b47 rec fu (mh F s sd (AR ar w u)) 107 (nI k) (nI j) = g_X8_layWas_b78 rec (mh F s sd (AR ar (tkN true true true r w) (nuN r w u))) 107 (nI k) := by
  intro r
  induction r with
  | zero =>
    intro j fu C w u hj hfu hC hw
    obtain ⟨fu, rfl⟩ : ∃ n', fu = n' + 1 := ⟨fu - 1, by omega⟩
    rw [g_X8_layWas_b47, mh_r9, Option.bind_some, m_ev hm hev hk, Option.bind_some, if_pos (nI_le (by omega) (by omega)), tkN, nuN]
  | succ r ih =>
    intro j fu C w u hj hfu hC hw
    obtain ⟨fu, rfl⟩ : ∃ n', fu = n' + 1 := ⟨fu - 1, by omega⟩
    rw [g_X8_layWas_b47, mh_r9, Option.bind_some, m_ev hm hev hk, Option.bind_some, if_neg (nI_ge (by omega) (by omega)), Option.bind_some, m_ev hm hev hk, Option.bind_some, if_neg (show ¬ (10 : Int32) ≤ nI (c k) from nI_ge (b := 10) hl (by omega)), ckO_t (mh_isO _ _ _ _), m_tn (C := C) h7 (by omega) hw, Option.bind_some, nI_1, tkN, nuN]
    exact ih (j + 1) fu (C + 1) _ _ (by omega) (by omega) (by omega) (Wf_tk true true true (by omega) hw)
theorem m_w109 (h7 : s 21 = 7) : ∀ (r fu C : Nat) (w u : Nat → Int32), (clk w + r = 99 ∨ (r = 0 ∧ 99 ≤ clk w)) → r < fu → C + r + 1 < 100000000 → Wf C w → g_X8_layWas_b109 fu (mh F s sd (AR ar w u)) 107 = some (mh F s sd (AR ar (tkN true true true r w) (nuN r w u))) := by
  intro r
  induction r with
  | zero =>
    intro fu C w u hj hfu hC hw
    obtain ⟨fu, rfl⟩ : ∃ n', fu = n' + 1 := ⟨fu - 1, by omega⟩
    obtain ⟨k1, k2⟩ := clk_w (by omega) hw
    rw [g_X8_layWas_b109, mh_r11, Option.bind_some, show aI (mh F s sd (AR ar w u)) 114 0 3 = _ from m_trial (j := 3) (by omega), Option.bind_some, AR_w, k1, if_pos (show (99 : Int32) ≤ nI (clk w) from nI_le (a := 99) (by omega) (by omega)), tkN, nuN]
  | succ r ih =>
    intro fu C w u hj hfu hC hw
    obtain ⟨fu, rfl⟩ : ∃ n', fu = n' + 1 := ⟨fu - 1, by omega⟩
    obtain ⟨k1, k2⟩ := clk_w (by omega) hw
    have ck := clk_tk (mg := true) (u0 := true) (u1 := true) (show C < 100000000 by omega) hw
    rw [g_X8_layWas_b109, mh_r11, Option.bind_some, show aI (mh F s sd (AR ar w u)) 114 0 3 = _ from m_trial (j := 3) (by omega), Option.bind_some, AR_w, k1, if_neg (show ¬ (99 : Int32) ≤ nI (clk w) from nI_ge (b := 99) (by omega) (by omega)), ckO_t (mh_isO _ _ _ _), m_tn (C := C) h7 (by omega) hw, Option.bind_some, tkN, nuN]
    exact ih fu (C + 1) _ _ (by omega) (by omega) (by omega) (Wf_tk true true true (by omega) hw)
theorem m_w37 (h7 : s 21 = 7) (hm : s 10 = nI m) (hc : EvOk c m) (hev : ∀ k, k < m → ar 113 k = nI (c k)) : ∀ (r k fu C : Nat) (w u : Nat → Int32), k + r = m → r < fu → C + 9 * r + 200 < 100000000 → Wf C w → ∃ w' u', g_X8_layWas_b37 fu (mh F s sd (AR ar w u)) 107 (nI k) = some (mh F s sd (AR ar w' u')) ∧ ∀ t, t ≤ 99 → u' t = if t ≤ clk w then u t else pT c t r k w 0 := by
  have hm71 := hc.1
  intro r
  induction r with
  | zero =>
    intro k fu C w u hk hfu hC hw
    obtain ⟨fu, rfl⟩ : ∃ n', fu = n' + 1 := ⟨fu - 1, by omega⟩
    refine ⟨tkN true true true (99 - clk w) w, nuN (99 - clk w) w u, ?_, fun t ht => ?_⟩
    · rw [g_X8_layWas_b37, mh_g10, Option.bind_some, hm, if_pos (nI_le (by omega) (by omega)), m_w109 h7 (99 - clk w) gF C _ _ (by omega) (by unfold gF; omega) (by omega) hw]
    · rw [nuN_t _ C _ _ t ht (by omega) hw, pT]
      by_cases q : t ≤ clk w
      · rw [if_neg (by omega), if_pos q]
      · rw [if_pos (by omega), if_neg q]
  | succ r ih =>
    intro k fu C w u hk hfu hC hw
    obtain ⟨fu, rfl⟩ : ∃ n', fu = n' + 1 := ⟨fu - 1, by omega⟩
    have hk2 := hc.2 k (by omega)
    by_cases hl : c k < 10
    · have hw1 := Wf_tkN (mg := true) (u0 := true) (u1 := true) (n := c k) (show C + c k < 100000000 by omega) hw
      have ck := clk_tkN (mg := true) (u0 := true) (u1 := true) (c k) C w (by omega) hw
      obtain ⟨w', u', i1, i2⟩ := ih (k + 1) fu (C + 9) (tkN true true true (c k) w) (nuN (c k) w u) (by omega) (by omega) (by omega) (Wf_mono (by omega) hw1)
      refine ⟨w', u', ?_, fun t ht => ?_⟩
      · have g47 := m_w47 (F := F) (sd := sd) (ar := ar) (rec := g_X8_layWas_b37 fu) h7 hm71 hev (show k < m by omega) hl (c k) 0 gF C w u (by omega) (by unfold gF; omega) (by omega) hw
        rw [g_X8_layWas_b37, mh_g10, Option.bind_some, hm, if_neg (nI_ge (by omega) (by omega)), show g_X8_layWas_b47 (g_X8_layWas_b37 fu) gF (mh F s sd (AR ar w u)) 107 (nI k) 0 = _ from g47, g_X8_layWas_b78, mh_r9, Option.bind_some, m_ev hm71 hev (by omega), Option.bind_some, if_pos (show nI (c k) ≤ 9 from nI_le (b := 9) (by omega) (by omega)), g_X8_layWas_b103, nI_1]
        exact i1
      · rw [i2 t ht, ck, nuN_t _ C _ _ t ht (by omega) hw, pT]
        by_cases q : t ≤ clk w
        · rw [if_pos (by omega), if_neg (by omega), if_pos q]
        · rw [if_neg q, if_pos hl]
          by_cases q2 : t ≤ clk w + c k
          · have hck2 := clk_tkN (mg := true) (u0 := true) (u1 := true) (t - clk w) C w (by omega) hw
            rw [if_pos q2, if_pos (by omega), Nat.min_eq_right (by omega), pT_done r (by rw [hck2]; omega), if_neg q]
          · rw [if_neg q2, if_neg q, Nat.min_eq_left (by omega)]
    · have he : c k - 10 = 0 ∨ c k - 10 = 1 := by omega
      obtain ⟨w', u', i1, i2⟩ := ih (k + 1) fu C (bring (c k - 10) w) u (by omega) (by omega) (by omega) (Wf_bring he (by omega) hw)
      refine ⟨w', u', ?_, fun t ht => ?_⟩
      · have de := m_doEvent (F := F) (s := s) (sd := sd) (ar := AR ar w u) (p := 114) (n := c k) (C := C) (by omega) hk2.1 hk2.2 (by omega) (by rw [AR_w]; exact hw)
        rw [AR_w, AR_pw, doEv, if_neg hl] at de
        have e47 : g_X8_layWas_b47 (g_X8_layWas_b37 fu) gF (mh F s sd (AR ar w u)) 107 (nI k) 0 = g_X8_layWas_b78 (g_X8_layWas_b37 fu) (mh F s sd (AR ar w u)) 107 (nI k) := by
          rw [show gF = 999 + 1 from rfl, g_X8_layWas_b47, mh_r9, Option.bind_some, m_ev hm71 hev (by omega), Option.bind_some, if_neg (show ¬ nI (c k) ≤ 0 from nI_ge (b := c k) (a := 0) (by omega) (by omega)), Option.bind_some, m_ev hm71 hev (by omega), Option.bind_some, if_pos (show (10 : Int32) ≤ nI (c k) from nI_le (a := 10) (by omega) (by omega))]
        rw [g_X8_layWas_b37, mh_g10, Option.bind_some, hm, if_neg (nI_ge (by omega) (by omega)), e47, g_X8_layWas_b78, mh_r9, Option.bind_some, m_ev hm71 hev (by omega), Option.bind_some, if_neg (show ¬ nI (c k) ≤ 9 from nI_ge (a := 9) (by omega) (by omega)), mh_r11, Option.bind_some, Option.bind_some, m_ev hm71 hev (by omega), Option.bind_some, ckO_t (mh_isO _ _ _ _), de, Option.bind_some, g_X8_layWas_b103, nI_1]
        exact i1
      · rw [i2 t ht, clk_bring, pT]
        by_cases q : t ≤ clk w
        · rw [if_pos q, if_pos q]
        · rw [if_neg q, if_neg q, if_neg q, if_neg hl]
theorem m_layWas {W : Nat → Int32} {k : Nat} (h7 : s 21 = 7) (hm : s 10 = nI m) (hc : EvOk c m) (hev : ∀ k, k < m → ar 113 k = nI (c k)) (h1 : 1 ≤ k) (h9 : k ≤ 9) (hW : fresh W) (hE : Eqv W (ar 112)) : ∃ w' u', g_X8_layWas (mh F s sd ar) 107 (nI k) = some (mh F s sd (AR ar w' u')) ∧ ∀ t, t ≤ 99 → u' t = pT c t m 0 (upd W (11 + 14 * 0 + 1) (nI k)) 0 := by
  have hm71 := hc.1
  have hE2 := Eqv_trans hE (Eqv_cp (ar 114) (Wf_Lw (Wf_eqv hE hW.1)))
  have hE3 := Eqv_upd (nI k) (i := 11 + 14 * 0 + 1) (by omega) hE2
  have hw0 := Wf_upF (i := 11 + 14 * 0 + 1) (v := k) (by omega) h1 h9 hW.1
  have hw3 := Wf_eqv hE3 hw0
  have hck : clk (upd W (11 + 14 * 0 + 1) (nI k)) = 0 := by
    unfold clk
    rw [upd_n _ _ (by omega), hW.2.1 3 (by omega)]
    rfl
  have hck2 := clk_eqv hE3
  rw [hck] at hck2
  obtain ⟨w', u', i1, i2⟩ := m_w37 (F := F) (sd := sd) (ar := ar) h7 hm hc hev m 0 gF 0 (upd (cp (ar 112) (ar 114)) (11 + 14 * 0 + 1) (nI k)) (upd (ar 120) 0 ((upd (cp (ar 112) (ar 114)) (11 + 14 * 0 + 1) (nI k)) 0)) (by omega) (by unfold gF; omega) (by omega) hw3
  refine ⟨w', u', ?_, fun t ht => ?_⟩
  · rw [g_X8_layWas, mh_r8, Option.bind_some, mh_r11, Option.bind_some, m_lay (by omega) (by omega) (by omega), Option.bind_some, mh_r11, Option.bind_some, show g_X8_at (mh F s sd (va_up ar 114 (cp (ar 112) (ar 114)))) 0 = _ from m_at _ 0, bnd2_s, nI_1, mh_st _ _ _ _ (p := 114) (kd := 0) (n := 39) (by omega) rfl rfl (by omega) (by omega), Option.bind_some, va_up_self, va_up2, mh_r20, Option.bind_some, mh_r11, Option.bind_some, show aI (mh F s sd (va_up ar 114 (upd (cp (ar 112) (ar 114)) (11 + 14 * 0 + 1) (nI k)))) 114 0 0 = _ from m_trial (j := 0) (by omega), Option.bind_some, va_up_self, show sI (mh F s sd (va_up ar 114 (upd (cp (ar 112) (ar 114)) (11 + 14 * 0 + 1) (nI k)))) 120 0 0 (upd (cp (ar 112) (ar 114)) (11 + 14 * 0 + 1) (nI k) 0) = _ from mh_st _ _ _ _ (p := 120) (kd := 0) (n := 100) (j := 0) (by omega) rfl rfl (by omega) (by omega) _, Option.bind_some, va_up_ne _ _ (show 120 ≠ 114 by omega)]
    exact i1
  · have hp := Eqv_pT (t := t) hc ht m 0 0 _ _ (by omega) (by omega) hw0 hE3
    rw [i2 t ht, hck2, hp.1 0 (by omega)]
    by_cases q : t ≤ 0
    · obtain rfl : t = 0 := by omega
      rw [if_pos (by omega), upd_s, pT_done m (by omega)]
    · rw [if_neg q]
end MV
def expl (ph : Nat → Int32) (T1 T2 : Nat → Int32) : Nat → Nat → Bool
  | 0, _ => true
  | r + 1, i => if ph ((T1 i).toNatClampNeg) = T2 i then expl ph T1 T2 r (i + 1) else false
def whF (ex : Nat → Bool) : Nat → Nat → Int32 → Int32
  | 0, _, v => v
  | r + 1, k, v => whF ex r (k + 1) (if ex k = true then v ||| (1 <<< (nI k &&& 31)) else v)
section WH
variable {N : Nat → Nat} {T : Nat → Nat → Int32} {c : Nat → Nat} {G : Nat → Nat → Int32} {sd : Int64}
theorem CS_s2 {F : Hp} (hC : CS F N T c G sd) : gI F 92 4 2 = some (nI (N 3)) := by
  simp only [gI, gV, hC.2.2.2.2.2.2.2.1.1]
  rfl
theorem CS_so {F : Hp} (hC : CS F N T c G sd) : isO F 92 4 = true := by simp [isO, hC.2.2.2.2.2.2.2.1.1]
theorem CS_time {F : Hp} {i : Nat} (hi : i < 6) (hC : CS F N T c G sd) : g_X4_timeAt F 92 (nI i) = some (T 1 i, F) := by
  have h8 := hC.2.2.2.2.2.2.2.1
  have g0 : gR F 92 4 0 = some 93 := by simp only [gR, gV, h8.1]; rfl
  have n0 : aN F 93 = some (nI 6) := by simp only [aN, h8.2.1]; rfl
  rw [g_X4_timeAt, if_neg (nI_pos (by omega)), g0, Option.bind_some, n0, Option.bind_some, if_neg (nI_ge hi (by omega)), Option.bind_some, arr_ld h8.2.1 hi (by omega), Option.bind_some]
theorem CS_phase {F : Hp} {i : Nat} (hi : i < 6) (hC : CS F N T c G sd) : g_X4_phaseAt F 92 (nI i) = some (T 2 i, F) := by
  have h8 := hC.2.2.2.2.2.2.2.1
  have g0 : gR F 92 4 1 = some 94 := by simp only [gR, gV, h8.1]; rfl
  have n0 : aN F 94 = some (nI 6) := by simp only [aN, h8.2.2]; rfl
  rw [g_X4_phaseAt, if_neg (nI_pos (by omega)), g0, Option.bind_some, n0, Option.bind_some, if_neg (nI_ge hi (by omega)), Option.bind_some, arr_ld h8.2.2 hi (by omega), Option.bind_some]
def phs (c : Nat → Nat) (mn : Nat) (w : Nat → Int32) (k t : Nat) : Int32 := pT c t mn 0 (upd w (11 + 14 * 0 + 1) (nI k)) 0
theorem c_exL {B k : Nat} (h1 : 1 ≤ k) (h9 : k ≤ 9) (hW : WS B N T c G) : ∀ (r i n : Nat) (F : Hp), i + r = N 3 → r < n → CS F N T c G sd → ∃ F', g_X7_explainsAll_b2 n F 0 (nI k) (nI i) = some (if expl (phs c (N 1) (G 0) k) (T 1) (T 2) r i = true then 1 else 0, F') ∧ CS F' N T c G sd ∧ ∀ j, 107 ≤ j → F' j = F j := by
  have hN3 := hW.2.2.2.1
  intro r
  induction r with
  | zero =>
    intro i n F hi hn hC
    obtain ⟨n, rfl⟩ : ∃ n', n = n' + 1 := ⟨n - 1, by omega⟩
    refine ⟨F, ?_, hC, fun _ _ => rfl⟩
    rw [g_X7_explainsAll_b2, CS_r5 hC, Option.bind_some, CS_s2 hC, Option.bind_some, if_pos (nI_le (by omega) (by omega)), expl, if_pos rfl]
  | succ r ih =>
    intro i n F hi hn hC
    obtain ⟨n, rfl⟩ : ∃ n', n = n' + 1 := ⟨n - 1, by omega⟩
    obtain ⟨w, g1, g2⟩ := c_tryStart hW hC
    obtain ⟨v, v1, v2⟩ := hN3.2 i (by omega)
    have hEv := hW.2.1
    have hw0 := hW.2.2.2.2.2.2.1.1
    have hS := hC.2.2.1
    have hw1 := Wf_upF (i := 11 + 14 * 0 + 1) (v := k) (by omega) h1 h9 hw0
    have hE1 := Eqv_upd (nI k) (i := 11 + 14 * 0 + 1) (by omega) g2
    have tl := c_tillL (F := F) (t := v) v1 hS (N 1) 0 gF 0 (upd w (11 + 14 * 0 + 1) (nI k)) (by omega) (by have := hEv.1; unfold gF; omega) (by have := hEv.1; omega) (Wf_eqv hE1 hw1)
    have hEp := Eqv_pT (t := v) hEv v1 (N 1) 0 0 _ _ (by omega) (by have := hEv.1; omega) hw1 hE1
    have cs : ∀ v, CS (dz F 15 1 v) N T c G sd := fun v => CS_trial (Or.inr rfl) hC
    have hclamp : (T 1 i).toNatClampNeg = v := by rw [v2, nI_clamp (by omega)]
    rw [g_X7_explainsAll_b2, CS_r5 hC, Option.bind_some, CS_s2 hC, Option.bind_some, if_neg (nI_ge (by omega) (by omega)), CS_r3 hC, Option.bind_some, CS_r1 hC, Option.bind_some, SC_g0 hS, Option.bind_some, ckO_t (CS_i15 hC), g1, Option.bind_some, CS_r3 (cs _), Option.bind_some, dz_g0, Option.bind_some, show pV (dz F 15 1 w) (15 + 1) 3 1 (.int (nI k)) = _ from dz_sp1 F 15 1 w (e := 0) (Or.inl rfl) (nI k), Option.bind_some, CS_r1 (cs _), Option.bind_some, CS_r3 (cs _), Option.bind_some, CS_r5 (cs _), Option.bind_some, ckO_t (CS_so (cs _)), CS_time (by omega) (cs _), bnd2_s, ckO_t (SC_o (cs _).2.2.1), v2, show g_X2_performTill (dz F 15 1 (upd w (11 + 14 * 0 + 1) (nI k))) 3 15 (nI v) = _ from tl, Option.bind_some, CS_r3 (cs _), Option.bind_some, dz_g5, Option.bind_some, CS_r5 (cs _), Option.bind_some, ckO_t (CS_so (cs _)), CS_phase (by omega) (cs _), bnd2_s, nI_1, expl, hclamp]
    have hph : phs c (N 1) (G 0) k v = pT c v (N 1) 0 (upd w (11 + 14 * 0 + 1) (nI k)) 0 := hEp.1 0 (by omega)
    rw [hph]
    by_cases q : pT c v (N 1) 0 (upd w (11 + 14 * 0 + 1) (nI k)) 0 = T 2 i
    · rw [if_pos q, if_pos q]
      obtain ⟨F', i1, i2, i3⟩ := ih (i + 1) n _ (by omega) (by omega) (cs (pT c v (N 1) 0 (upd w (11 + 14 * 0 + 1) (nI k))))
      exact ⟨F', i1, i2, fun j hj => by rw [i3 j hj, dz_n (by omega)]⟩
    · rw [if_neg q, if_neg q]
      exact ⟨_, rfl, cs _, fun j hj => dz_n (by omega)⟩
theorem c_whL {B : Nat} (hW : WS B N T c G) : ∀ (r k n : Nat) (v : Int32) (F : Hp), k + r = 10 → 1 ≤ k → r < n → CS F N T c G sd → ∃ F', g_X7_which_b4 n F 0 v (nI k) = some (whF (fun k => expl (phs c (N 1) (G 0) k) (T 1) (T 2) (N 3) 0) r k v, F') ∧ CS F' N T c G sd ∧ ∀ j, 107 ≤ j → F' j = F j := by
  have hN3 := hW.2.2.2.1.1
  intro r
  induction r with
  | zero =>
    intro k n v F hk h1 hn hC
    obtain ⟨n, rfl⟩ : ∃ n', n = n' + 1 := ⟨n - 1, by omega⟩
    refine ⟨F, ?_, hC, fun _ _ => rfl⟩
    rw [g_X7_which_b4, if_pos (show (9 : Int32) < nI k from nI_lt (a := 9) (by omega) (by omega)), whF]
  | succ r ih =>
    intro k n v F hk h1 hn hC
    obtain ⟨n, rfl⟩ : ∃ n', n = n' + 1 := ⟨n - 1, by omega⟩
    obtain ⟨F1, g1, g2, g3⟩ := c_exL (sd := sd) h1 (show k ≤ 9 by omega) hW (N 3) 0 gF F (by omega) (by unfold gF; omega) hC
    obtain ⟨F', i1, i2, i3⟩ := ih (k + 1) n (if expl (phs c (N 1) (G 0) k) (T 1) (T 2) (N 3) 0 = true then v ||| (1 <<< (nI k &&& 31)) else v) F1 (by omega) (by omega) (by omega) g2
    refine ⟨F', ?_, i2, fun j hj => by rw [i3 j hj, g3 j hj]⟩
    rw [g_X7_which_b4, if_neg (show ¬ (9 : Int32) < nI k from nI_nlt (a := 9) (by omega) (by omega)), ckO_t (CS_o hC), show g_X7_explainsAll F 0 (nI k) = _ from g1, bnd2_s, whF]
    simp only [g_X7_which_b24, nI_1]
    by_cases q : expl (phs c (N 1) (G 0) k) (T 1) (T 2) (N 3) 0 = true
    · rw [if_pos q, if_neg (by decide)]
      rw [if_pos q] at i1 ⊢
      exact i1
    · rw [if_neg q, if_pos rfl]
      rw [if_neg q] at i1 ⊢
      exact i1
theorem m_exL {F : Hp} {s : Nat → Int32} {rec : Hp → Nat → Int32 → Int32 → Option (Int32 × Hp)} {ar : Nat → Nat → Int32} {ph : Nat → Int32} {T1 T2 : Nat → Int32} {n3 k : Nat} {v1 : Int32} (hs : s 16 = nI n3) (h6 : n3 ≤ 6) (hT : ∀ k, k < n3 → ∃ v, v ≤ 99 ∧ T1 k = nI v) (a1 : ar 118 = T1) (a2 : ar 119 = T2) (hp : ∀ t, t ≤ 99 → ar 120 t = ph t) : ∀ (r i n : Nat) (v : Bool), i + r = n3 → r < n → g_X8_which_b25 rec n (mh F s sd ar) 107 v1 (nI k) (if v = true then 1 else 0) (nI i) = rec (mh F s sd ar) 107 (if (v && expl ph T1 T2 r i) = true then v1 ||| (1 <<< (nI k &&& 31)) else v1) (nI (k + 1)) := by
  intro r
  induction r with
  | zero =>
    intro i n v hi hn
    obtain ⟨n, rfl⟩ : ∃ n', n = n' + 1 := ⟨n - 1, by omega⟩
    rw [g_X8_which_b25, mh_g16, Option.bind_some, hs, if_pos (nI_le (by omega) (by omega)), expl]
    cases v with
    | true =>
      rw [if_pos rfl, if_neg (by decide), g_X8_which_b84, nI_1]
      rfl
    | false =>
      rw [show (if false = true then (1 : Int32) else 0) = 0 from rfl, if_pos rfl, g_X8_which_b84, nI_1, Int32.or_zero]
      rfl
  | succ r ih =>
    intro i n v hi hn
    obtain ⟨n, rfl⟩ : ∃ n', n = n' + 1 := ⟨n - 1, by omega⟩
    have it := ih (i + 1) n true (by omega) (by omega)
    have iff := ih (i + 1) n false (by omega) (by omega)
    rw [if_pos rfl] at it
    rw [if_neg (by decide)] at iff
    rw [g_X8_which_b25, mh_g16, Option.bind_some, hs, if_neg (nI_ge (by omega) (by omega)), expl]
    simp only [g_X8_which_b64, g_X8_which_b65, nI_1]
    cases v with
    | true =>
      obtain ⟨t, t1, t2⟩ := hT i (by omega)
      rw [if_pos rfl, if_neg (by decide), mh_r20, Option.bind_some, mh_r17, Option.bind_some, mh_ld _ _ _ _ (p := 118) (kd := 0) (n := 6) (by omega) rfl rfl (by omega) (by omega), Option.bind_some, a1, t2, mh_ld _ _ _ _ (p := 120) (kd := 0) (n := 100) (by omega) rfl rfl (show t < 100 by omega) (by omega), Option.bind_some, mh_r18, Option.bind_some, mh_ld _ _ _ _ (p := 119) (kd := 0) (n := 6) (by omega) rfl rfl (by omega) (by omega), Option.bind_some, a2, hp t t1, nI_clamp (by omega)]
      by_cases q : ph t = T2 i
      · rw [if_pos q, if_pos q]
        exact it
      · rw [if_neg q, if_neg q]
        exact iff
    | false =>
      rw [show (if false = true then (1 : Int32) else 0) = 0 from rfl, if_pos rfl]
      exact iff
theorem m_whL {B : Nat} {F : Hp} {s : Nat → Int32} (hW : WS B N T c G) : ∀ (r k n : Nat) (v : Int32) (ar : Nat → Nat → Int32), MB s ar N T c G → k + r = 10 → 1 ≤ k → r < n → ∃ ar', g_X8_which_b9 n (mh F s sd ar) 107 v (nI k) = some (whF (fun k => expl (phs c (N 1) (G 0) k) (T 1) (T 2) (N 3) 0) r k v, mh F s sd ar') ∧ MB s ar' N T c G := by
  have hN3 := hW.2.2.2.1
  intro r
  induction r with
  | zero =>
    intro k n v ar hB hk h1 hn
    obtain ⟨n, rfl⟩ : ∃ n', n = n' + 1 := ⟨n - 1, by omega⟩
    refine ⟨ar, ?_, hB⟩
    rw [g_X8_which_b9, if_pos (show (10 : Int32) ≤ nI k from nI_le (a := 10) (by omega) (by omega)), whF]
  | succ r ih =>
    intro k n v ar hB hk h1 hn
    obtain ⟨n, rfl⟩ : ∃ n', n = n' + 1 := ⟨n - 1, by omega⟩
    obtain ⟨⟨s1, s2, s3, s4, s5⟩, ⟨b1, b2, b3, b4⟩, e1, e0, ev, -⟩ := id hB
    obtain ⟨w', u', l1, l2⟩ := m_layWas (F := F) (s := s) (sd := sd) (ar := ar) (c := c) (m := N 1) (k := k) s5 s2 hW.2.1 ev h1 (by omega) hW.2.2.2.2.2.2.1 e0
    have hB2 : MB s (AR ar w' u') N T c G := MB_a _ (by omega) (MB_a _ (by omega) hB)
    have ex := m_exL (F := F) (sd := sd) (s := s) (rec := g_X8_which_b9 n) (ar := AR ar w' u') (ph := phs c (N 1) (G 0) k) (T1 := T 1) (T2 := T 2) (n3 := N 3) (k := k) (v1 := v) s4 hN3.1 hN3.2 hB2.2.1.2.1 hB2.2.1.2.2.1 (fun t ht => by rw [AR_u]; exact l2 t ht) (N 3) 0 gF true (by omega) (by have := hN3.1; unfold gF; omega)
    rw [if_pos rfl, Bool.true_and] at ex
    obtain ⟨ar', i1, i2⟩ := ih (k + 1) n (if expl (phs c (N 1) (G 0) k) (T 1) (T 2) (N 3) 0 = true then v ||| (1 <<< (nI k &&& 31)) else v) (AR ar w' u') hB2 (by omega) (by omega) (by omega)
    refine ⟨ar', ?_, i2⟩
    rw [g_X8_which_b9, if_neg (show ¬ (10 : Int32) ≤ nI k from nI_ge (b := 10) (by omega) (by omega)), ckO_t (mh_isO _ _ _ _), l1, Option.bind_some, whF, show g_X8_which_b25 (g_X8_which_b9 n) gF (mh F s sd (AR ar w' u')) 107 v (nI k) 1 0 = _ from ex]
    exact i1
end WH
theorem s_which {B : Nat} : Stp1 B (fun F => g_X7_which F 0) (fun F => g_X8_which F 107) := by
  refine stp_of (fun F N T c G sd hW hC hM => ?_)
  obtain ⟨F', g1, g2, g3⟩ := c_whL (sd := sd) hW 9 1 gF 0 F (by omega) (by omega) (by unfold gF; omega) hC
  refine ⟨whF (fun k => expl (phs c (N 1) (G 0) k) (T 1) (T 2) (N 3) 0) 9 1 0, N, T, c, G, sd, WS_mono (Nat.le_add_right B 20) hW, ⟨F', g1, g2, g3⟩, m_keep (fun F1 s ar hB => ?_)⟩
  obtain ⟨ar', i1, i2⟩ := m_whL (sd := sd) (F := F1) (s := upd s 0 0) hW 9 1 gF 0 ar (MB_s 0 (by omega) hB) (by omega) (by omega) (by unfold gF; omega)
  refine ⟨upd s 0 0, ar', ?_, i2⟩
  show g_X8_which (mh F1 s sd ar) 107 = _
  unfold g_X8_which
  rw [mh_p0, Option.bind_some]
  exact i1
