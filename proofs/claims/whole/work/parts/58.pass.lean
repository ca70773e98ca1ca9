/-! calls that act: pass, come, tell -/
theorem le01 {x : Int32} (h : 1 ≤ x) : 0 ≤ x := by
  rw [Int32.le_iff_toInt_le] at h ⊢
  have h1 : (1 : Int32).toInt = 1 := by decide
  have h0 : (0 : Int32).toInt = 0 := by decide
  omega
theorem nI_cases1 {x : Int32} {n : Nat} {M : Int32} (hM : M.toInt = n) (h : 1 ≤ x ∧ x ≤ M) : ∃ j, 1 ≤ j ∧ j ≤ n ∧ x = nI j := by
  obtain ⟨j, hj, rfl⟩ := nI_cases hM ⟨le01 h.1, h.2⟩
  refine ⟨j, ?_, hj, rfl⟩
  rcases Nat.eq_zero_or_pos j with q | q
  · subst q
    exact absurd h.1 (by decide)
  · exact q
theorem psh_k {d k : Nat} {G : Nat → Nat → Int32} (hk : k < 2 ∨ 16 ≤ k) : psh d G k = G k := by
  unfold psh
  split
  · rw [va_up_ne _ _ (by omega)]
  · rw [va_up_ne _ _ (by omega)]
    unfold fgt
    rw [if_neg (by omega)]
section PS
variable {F : Hp} {sd : Int64} {s : Nat → Int32}
theorem m_passL {m : Nat} (hs : s 21 = 7) (hm : m < 2 ^ 31) : ∀ (r k n C : Nat) (ar : Nat → Nat → Int32), k + r = m → r < n → C + r < 100000000 → Wf C (ar 111) → g_X8_pass_b26 n (mh F s sd ar) 107 (nI m) (nI k) = some (tkN true true true r (ar 111) 3, mh F s sd (va_up ar 111 (tkN true true true r (ar 111)))) := by
  intro r
  induction r with
  | zero =>
    intro k n C ar hk hn hC hw
    obtain ⟨n, rfl⟩ : ∃ n', n = n' + 1 := ⟨n - 1, by omega⟩
    rw [g_X8_pass_b26, if_pos (nI_le (by omega) (by omega)), mh_r7, Option.bind_some, show aI (mh F s sd ar) 111 0 3 = some (ar 111 3) from mh_ld _ _ _ _ (p := 111) (kd := 0) (n := 39) (j := 3) (by omega) rfl rfl (by omega) (by omega), Option.bind_some, tkN, va_up_eta rfl]
  | succ r ih =>
    intro k n C ar hk hn hC hw
    obtain ⟨n, rfl⟩ : ∃ n', n = n' + 1 := ⟨n - 1, by omega⟩
    have hw2 := Wf_tk true true true (by omega) hw
    rw [g_X8_pass_b26, if_neg (nI_ge (by omega) (by omega)), mh_r7, Option.bind_some, ckO_t (mh_isO _ _ _ _), mt (by omega) hw, Option.bind_some, nI_1, hs]
    have hi := ih (k + 1) n (C + 1) (va_up ar 111 (tk true true true (ar 111))) (by omega) (by omega) (by omega) (by rw [va_up_self]; exact hw2)
    rw [va_up_self, va_up2] at hi
    exact hi
end PS
theorem s_pass {B : Nat} (hB : B + 1000 < 100000000) (x : Int32) : Stp1 B (fun F => g_X7_pass F 0 x) (fun F => g_X8_pass F 107 x) := by
  refine stp_of (fun F N T c G sd hW hC hM => ?_)
  have hw := hW.2.2.2.2.2.2.2.1
  by_cases hx : 1 ≤ x ∧ x ≤ 20
  · obtain ⟨m, hm1, hm, rfl⟩ := nI_cases1 (n := 20) rfl hx
    have hWp := WS_push hW
    have hwt := Wf_tkN (mg := true) (u0 := true) (u1 := true) (n := m) (C := B) (by omega) hw
    refine ⟨tkN true true true m (G 1) 3, va_up N 2 (pN (N 2)), T, c, va_up (psh (N 2) G) 1 (tkN true true true m (G 1)), sd, WS_now (Wf_mono (by omega) hwt) (WS_mono (Nat.le_add_right B 20) hWp), ?_, m_chg (fun F1 s ar hB' => ?_)⟩
    · obtain ⟨F1, g1, g2, g3⟩ := c_add hW hC
      obtain ⟨wn, hd, hE⟩ := g2.2.2.2.2.1
      rw [psh_k (by omega)] at hE
      have e1 := c_elapse (F := F1) (a := 10) (mg := 1) (m := m) (C := B) (by omega) (by omega) (Wf_eqv hE hw)
      rw [hd, show (decide (¬ (1 : Int32) = 0)) = true from rfl] at e1
      have hE2 := Eqv_tkN (mg := true) (u0 := true) (u1 := true) (n := m) (C := B) (by omega) hw hE
      have hC2 := CS_now hE2 g2
      obtain ⟨p, hA⟩ := hC.2.2.2.2.2.2.1
      refine ⟨dz F1 10 1 (tkN true true true m wn), ?_, hC2, fun k hk => by rw [dz_n (by omega)]; exact g3 k (by omega)⟩
      show g_X7_pass F 0 (nI m) = _
      unfold g_X7_pass
      rw [c_isWithin, bnd2_s, if_pos hx, if_neg (by decide), CS_r4 hC, Option.bind_some, CS_r2 hC, Option.bind_some, ckO_t (AC_o hA), g1, Option.bind_some, CS_r2 g2, Option.bind_some, ckO_t (CS_i10 g2), e1, Option.bind_some, CS_r2 hC2, Option.bind_some, dz_g8, Option.bind_some, hE2.1 3 (by omega)]
    · obtain ⟨s', ar', q1, q2⟩ := m_note (F := F1) (sd := sd) hW (MB_s 0 (by omega) hB' : MB (upd s 0 0) ar N T c G)
      have e1 := q2.2.2.1
      rw [psh_k (by omega)] at e1
      have g := m_passL (F := F1) (sd := sd) (s := s') (m := m) q2.1.2.2.2.2 (by omega) m 0 gF B ar' (by omega) (by unfold gF; omega) (by omega) (Wf_eqv e1 hw)
      have hE2 := Eqv_tkN (mg := true) (u0 := true) (u1 := true) (n := m) (C := B) (by omega) hw e1
      refine ⟨s', va_up ar' 111 (tkN true true true m (ar' 111)), ?_, MB_now hE2 q2⟩
      show g_X8_pass (mh F1 s sd ar) 107 (nI m) = _
      unfold g_X8_pass
      rw [mh_p0, Option.bind_some, m_in _ _ 1 20 1 20 (by decide) (by decide), bnd2_s, if_pos hx, if_neg (by decide), ckO_t (mh_isO _ _ _ _), q1, Option.bind_some, hE2.1 3 (by omega)]
      exact g
  · refine ⟨-2, N, T, c, G, sd, WS_mono (Nat.le_add_right B 20) hW, ⟨F, ?_, hC, fun _ _ => rfl⟩, m_keep (fun F1 s ar hB => ⟨upd s 0 0, ar, ?_, MB_s 0 (by omega) hB⟩)⟩
    · show g_X7_pass F 0 x = _
      unfold g_X7_pass
      rw [c_isWithin, bnd2_s, if_neg hx, if_pos rfl]
    · show g_X8_pass (mh F1 s sd ar) 107 x = _
      unfold g_X8_pass
      rw [mh_p0, Option.bind_some, m_in _ _ 1 20 1 20 (by decide) (by decide), bnd2_s, if_neg hx, if_pos rfl]
theorem c_isFull {F : Hp} {a e h : Nat} {mg : Int32} {w : Nat → Int32} (he : e = 0 ∨ e = 1) (hh : w (15 + 14 * e) = nI h) (h9 : h ≤ 9) : g_X3_isFull (dz F a mg w) (a + 1 + 2 * e) = some (if h < 9 then 0 else 1, dz F a mg w) := by
  rw [g_X3_isFull, dz_sg4 _ _ _ _ he, Option.bind_some, show 11 + 14 * e + 4 = 15 + 14 * e by omega, hh]
  by_cases q : h < 9
  · rw [if_pos (show nI h < 9 from nI_lt (b := 9) q (by omega)), if_pos q]
  · rw [if_neg (show ¬ nI h < 9 from nI_nlt (b := 9) (by omega) (by omega)), if_neg q]
theorem cm_h {e h : Nat} {t : Int32} {w : Nat → Int32} (hh : w (15 + 14 * e) = nI h) : cm e t w (15 + 14 * e) = nI (h + 1) := by
  unfold cm
  rw [upd_s, hh, nI_1]
theorem s_come {B : Nat} (hB : B + 1000 < 100000000) (x : Int32) : Stp1 B (fun F => g_X7_come F 0 x) (fun F => g_X8_come F 107 x) := by
  refine stp_of (fun F N T c G sd hW hC hM => ?_)
  have hw := hW.2.2.2.2.2.2.2.1
  by_cases hx : x = 0 ∨ x = 1
  · obtain ⟨e, he, rfl⟩ := end_cases hx
    obtain ⟨h, h9, hh, hl⟩ := hw.2.2.2.2.2.2 e he
    have hNe := hN_of hh h9
    obtain ⟨wn, hd, hE⟩ := hC.2.2.2.2.1
    have s1 := c_side (F := F) (a := 10) (mg := 1) (w := wn) he
    have s2 := c_isFull (F := F) (a := 10) (mg := 1) (w := wn) he (h := h) (by rw [← hE.1 _ (by omega)]; exact hh) h9
    have s3 := dz_isS F 10 1 wn he
    rw [hd] at s1 s2 s3
    by_cases hf : h < 9
    · rw [if_pos hf] at s2
      have hWp := WS_push hW
      have hwc : Wf B (cm e 0 (G 1)) := Wf_cm (t := 0) he (by omega) (by omega) hw (by omega)
      refine ⟨nI (h + 1), va_up N 2 (pN (N 2)), T, c, va_up (psh (N 2) G) 1 (cm e 0 (G 1)), sd, WS_now (Wf_mono (by omega) hwc) (WS_mono (Nat.le_add_right B 20) hWp), ?_, m_chg (fun F1 s ar hB' => ?_)⟩
      · obtain ⟨F1, g1, g2, g3⟩ := c_add hW hC
        obtain ⟨wm, hd', hE'⟩ := g2.2.2.2.2.1
        rw [psh_k (by omega)] at hE'
        have hh' : wm (15 + 14 * e) = nI h := by rw [← hE'.1 _ (by omega)]; exact hh
        have e1 := c_receive (F := F1) (a := 10) (mg := 1) (w := wm) he hh' h9 0
        rw [hd', if_pos hf] at e1
        have hE2 := Eqv_cm 0 he (Wf_Lw hw) (by omega) hE'
        have hC2 := CS_now hE2 g2
        obtain ⟨p, hA⟩ := hC.2.2.2.2.2.2.1
        have e2 := dz_sg4 F1 10 1 (cm e 0 wm) he
        rw [show 11 + 14 * e + 4 = 15 + 14 * e by omega, cm_h hh'] at e2
        refine ⟨dz F1 10 1 (cm e 0 wm), ?_, hC2, fun k hk => by rw [dz_n (by omega)]; exact g3 k (by omega)⟩
        show g_X7_come F 0 (nI e) = _
        unfold g_X7_come
        rw [c_isEnd, bnd2_s, if_pos hx, if_neg (by decide), CS_r2 hC, Option.bind_some, ckO_t (CS_i10 hC), s1, bnd2_s, ckO_t s3, s2, bnd2_s, if_pos rfl, CS_r4 hC, Option.bind_some, CS_r2 hC, Option.bind_some, ckO_t (AC_o hA), g1, Option.bind_some, CS_r2 g2, Option.bind_some, ckO_t (CS_i10 g2), e1, bnd2_s, e2, Option.bind_some]
      · have e0 := hB'.2.2.1
        obtain ⟨s', ar', q1, q2⟩ := m_note (F := F1) (sd := sd) hW (MB_s 0 (by omega) hB' : MB (upd s 0 0) ar N T c G)
        have e1 := q2.2.2.1
        rw [psh_k (by omega)] at e1
        have hh' : ar' 111 (15 + 14 * e) = nI h := by rw [← e1.1 _ (by omega)]; exact hh
        have hE2 := Eqv_cm 0 he (Wf_Lw hw) (by omega) e1
        refine ⟨s', va_up ar' 111 (cm e 0 (ar' 111)), ?_, MB_now hE2 q2⟩
        show g_X8_come (mh F1 s sd ar) 107 (nI e) = _
        unfold g_X8_come
        rw [mh_p0, Option.bind_some, m_noEnd, bnd2_s, if_pos hx, if_pos rfl, mh_r7, Option.bind_some, m_isFull (by omega) he (h := h) (by rw [← e0.1 _ (by omega)]; exact hh) h9, bnd2_s, if_pos hf, if_pos rfl, ckO_t (mh_isO _ _ _ _), q1, Option.bind_some, mh_r7, Option.bind_some, m_comeOn 0 (by omega) he hh' hf, Option.bind_some, mh_r7, Option.bind_some, m_at, bnd2_s, nI_p4, show 11 + 14 * e + 4 = 15 + 14 * e by omega, mh_ld _ _ _ _ (p := 111) (kd := 0) (n := 39) (by omega) rfl rfl (by omega) (by omega), Option.bind_some, va_up_self, cm_h hh']
    · rw [if_neg hf] at s2
      refine ⟨-4, N, T, c, G, sd, WS_mono (Nat.le_add_right B 20) hW, ⟨F, ?_, hC, fun _ _ => rfl⟩, m_keep (fun F1 s ar hB => ⟨upd s 0 0, ar, ?_, MB_s 0 (by omega) hB⟩)⟩
      · show g_X7_come F 0 (nI e) = _
        unfold g_X7_come
        rw [c_isEnd, bnd2_s, if_pos hx, if_neg (by decide), CS_r2 hC, Option.bind_some, ckO_t (CS_i10 hC), s1, bnd2_s, ckO_t s3, s2, bnd2_s, if_neg (by decide)]
      · have e0 := hB.2.2.1
        show g_X8_come (mh F1 s sd ar) 107 (nI e) = _
        unfold g_X8_come
        rw [mh_p0, Option.bind_some, m_noEnd, bnd2_s, if_pos hx, if_pos rfl, mh_r7, Option.bind_some, m_isFull (by omega) he (h := h) (by rw [← e0.1 _ (by omega)]; exact hh) h9, bnd2_s, if_neg hf, if_neg (by decide)]
  · refine ⟨-1, N, T, c, G, sd, WS_mono (Nat.le_add_right B 20) hW, ⟨F, ?_, hC, fun _ _ => rfl⟩, m_keep (fun F1 s ar hB => ⟨upd s 0 0, ar, ?_, MB_s 0 (by omega) hB⟩)⟩
    · show g_X7_come F 0 x = _
      unfold g_X7_come
      rw [c_isEnd, bnd2_s, if_neg hx, if_pos rfl]
    · show g_X8_come (mh F1 s sd ar) 107 x = _
      unfold g_X8_come
      rw [mh_p0, Option.bind_some, m_noEnd, bnd2_s, if_neg hx, if_neg (by decide)]
/-! tell -/
theorem Wf_upF {C i v : Nat} {w : Nat → Int32} (hi : i = 11 ∨ i = 12 ∨ i = 13 ∨ i = 14 ∨ i = 25 ∨ i = 26 ∨ i = 27 ∨ i = 28) (h1 : 1 ≤ v) (h9 : v ≤ 9) (h : Wf C w) : Wf C (upd w i (nI v)) := by
  have n : ∀ k, k ≠ i → upd w i (nI v) k = w k := fun k hk => upd_n _ _ hk
  obtain ⟨a1, a2, a3, a4, a5, a6, a7⟩ := h
  refine ⟨by rw [n 0 (by omega)]; exact a1, by rw [n 0 (by omega), n 1 (by omega)]; exact a2, by rw [n 0 (by omega), n 2 (by omega)]; exact a3, by rw [n 3 (by omega)]; exact a4, by rw [n 10 (by omega)]; exact a5, fun k hk => ?_, fun e he => ?_⟩
  · by_cases q : k = i
    · subst q
      exact ⟨v, h1, h9, upd_s _ _ _⟩
    · rw [n k q]
      exact a6 k hk
  · obtain ⟨hh, b1, b2, b3⟩ := a7 e he
    refine ⟨hh, b1, by rw [n _ (by omega)]; exact b2, fun k hk => ?_⟩
    rw [n _ (by omega)]
    exact b3 k hk
def tl (e y v : Nat) (w : Nat → Int32) : Nat → Int32 := if y = 0 then cm e (nI v) (upd w (11 + 14 * e + y) (nI v)) else upd w (11 + 14 * e + y) (nI v)
theorem c_retell {F : Hp} {a e y v h : Nat} {mg : Int32} {w : Nat → Int32} (he : e = 0 ∨ e = 1) (hy : y ≤ 2) (hh : w (15 + 14 * e) = nI h) (h9 : h ≤ 9) (hf : y = 0 → h < 9) : g_X1_retell (dz F a mg w) a (nI e) (nI y) (nI v) = some (w (11 + 14 * e + y), dz F a mg (tl e y v w)) := by
  rw [g_X1_retell, ckO_t (dz_isO _ _ _ _), c_side he, bnd2_s]
  rcases (show y = 0 ∨ y = 1 ∨ y = 2 by omega) with rfl | rfl | rfl
  · rw [if_pos (show nI 0 = 0 from rfl), dz_sg0 _ _ _ _ he, Option.bind_some, dz_sp0 _ _ _ _ he, Option.bind_some, ckO_t (dz_isO _ _ _ _), c_receive he (h := h) (by rw [upd_n _ _ (by omega)]; exact hh) h9, if_pos (hf rfl), bnd2_s]
    rfl
  · rw [if_neg (show ¬ nI 1 = 0 by decide), if_pos (show nI 1 = 1 from rfl), dz_sg1 _ _ _ _ he, Option.bind_some, dz_sp1 _ _ _ _ he, Option.bind_some]
    rfl
  · rw [if_neg (show ¬ nI 2 = 0 by decide), if_neg (show ¬ nI 2 = 1 by decide), dz_sg2 _ _ _ _ he, Option.bind_some, dz_sp2 _ _ _ _ he, Option.bind_some]
    rfl
theorem hN_upF {w : Nat → Int32} {e y : Nat} {x : Int32} (he : e = 0 ∨ e = 1) (hy : y ≤ 2) : hN e (upd w (11 + 14 * e + y) x) = hN e w := by
  unfold hN
  rw [upd_n _ _ (by omega)]
theorem Wf_tl {C e y v : Nat} {w : Nat → Int32} (he : e = 0 ∨ e = 1) (hy : y ≤ 2) (h1 : 1 ≤ v) (h9 : v ≤ 9) (hC : C < 100000000) (hf : y = 0 → hN e w < 9) (h : Wf C w) : Wf C (tl e y v w) := by
  have hu := Wf_upF (i := 11 + 14 * e + y) (v := v) (by omega) h1 h9 h
  unfold tl
  split
  · rename_i q
    exact Wf_cm he hC h9 hu (by rw [hN_upF he hy]; exact hf q)
  · exact hu
theorem Eqv_tl {C e y v : Nat} {w w' : Nat → Int32} (he : e = 0 ∨ e = 1) (hy : y ≤ 2) (h1 : 1 ≤ v) (h9 : v ≤ 9) (hf : y = 0 → hN e w < 9) (hw : Wf C w) (h : Eqv w w') : Eqv (tl e y v w) (tl e y v w') := by
  have hu := Wf_upF (i := 11 + 14 * e + y) (v := v) (by omega) h1 h9 hw
  have hE := Eqv_upd (nI v) (i := 11 + 14 * e + y) (by omega) h
  unfold tl
  split
  · rename_i q
    exact Eqv_cm _ he (Wf_Lw hu) (by rw [hN_upF he hy]; exact hf q) hE
  · exact hE
theorem s_tell {B : Nat} (hB : B + 1000 < 100000000) (x y z : Int32) : Stp1 B (fun F => g_X7_tell F 0 x y z) (fun F => g_X8_tell F 107 x y z) := by
  refine stp_of (fun F N T c G sd hW hC hM => ?_)
  have hw := hW.2.2.2.2.2.2.2.1
  by_cases hx : x = 0 ∨ x = 1
  · obtain ⟨e, he, rfl⟩ := end_cases hx
    by_cases hy : 0 ≤ y ∧ y ≤ 2
    · by_cases hz : 1 ≤ z ∧ z ≤ 9
      · obtain ⟨j, hj, rfl⟩ := nI_cases (n := 2) rfl hy
        obtain ⟨v, hv1, hv, rfl⟩ := nI_cases1 (n := 9) rfl hz
        obtain ⟨h, h9, hh, hl⟩ := hw.2.2.2.2.2.2 e he
        have hNe := hN_of hh h9
        obtain ⟨wn, hd, hE⟩ := hC.2.2.2.2.1
        have s1 := c_side (F := F) (a := 10) (mg := 1) (w := wn) he
        have s2 := c_isFull (F := F) (a := 10) (mg := 1) (w := wn) he (h := h) (by rw [← hE.1 _ (by omega)]; exact hh) h9
        have s3 := dz_isS F 10 1 wn he
        rw [hd] at s1 s2 s3
        have j0 : (nI j = 0) ↔ j = 0 := nI_eq (b := 0) (by omega) (by omega)
        by_cases hfull : j = 0 ∧ ¬ h < 9
        · rw [if_neg hfull.2] at s2
          refine ⟨-4, N, T, c, G, sd, WS_mono (Nat.le_add_right B 20) hW, ⟨F, ?_, hC, fun _ _ => rfl⟩, m_keep (fun F1 s ar hB => ⟨upd s 0 0, ar, ?_, MB_s 0 (by omega) hB⟩)⟩
          · show g_X7_tell F 0 (nI e) (nI j) (nI v) = _
            unfold g_X7_tell
            rw [c_isEnd, bnd2_s, if_pos hx, if_neg (by decide), c_isWithin, bnd2_s, if_pos hy, if_neg (by decide), c_isFigure, bnd2_s, if_pos hz, if_neg (by decide), if_pos (j0.mpr hfull.1), CS_r2 hC, Option.bind_some, ckO_t (CS_i10 hC), s1, bnd2_s, ckO_t s3, s2, bnd2_s, if_neg (by decide)]
          · have e0 := hB.2.2.1
            show g_X8_tell (mh F1 s sd ar) 107 (nI e) (nI j) (nI v) = _
            unfold g_X8_tell
            rw [mh_p0, Option.bind_some, m_noEnd, bnd2_s, if_pos hx, if_pos rfl, m_in _ _ 0 2 0 2 (by decide) (by decide), bnd2_s, if_pos hy, if_neg (by decide), m_in _ _ 1 9 1 9 (by decide) (by decide), bnd2_s, if_pos hz, if_neg (by decide), if_pos (j0.mpr hfull.1), mh_r7, Option.bind_some, m_isFull (by omega) he (h := h) (by rw [← e0.1 _ (by omega)]; exact hh) h9, bnd2_s, if_neg hfull.2, if_neg (by decide)]
        · have hf : j = 0 → h < 9 := fun q => by omega
          have hWp := WS_push hW
          have hwc := Wf_tl (C := B) (v := v) he hj hv1 hv (by omega) (fun q => by rw [hNe]; exact hf q) hw
          refine ⟨G 1 (11 + 14 * e + j), va_up N 2 (pN (N 2)), T, c, va_up (psh (N 2) G) 1 (tl e j v (G 1)), sd, WS_now (Wf_mono (by omega) hwc) (WS_mono (Nat.le_add_right B 20) hWp), ?_, m_chg (fun F1 s ar hB' => ?_)⟩
          · obtain ⟨F1, g1, g2, g3⟩ := c_add hW hC
            obtain ⟨wm, hd', hE'⟩ := g2.2.2.2.2.1
            rw [psh_k (by omega)] at hE'
            have hh' : wm (15 + 14 * e) = nI h := by rw [← hE'.1 _ (by omega)]; exact hh
            have e1 := c_retell (F := F1) (a := 10) (mg := 1) (w := wm) (v := v) he hj hh' h9 hf
            rw [hd'] at e1
            have hE2 := Eqv_tl (v := v) he hj hv1 hv (fun q => by rw [hNe]; exact hf q) hw hE'
            have hC2 := CS_now hE2 g2
            obtain ⟨p, hA⟩ := hC.2.2.2.2.2.2.1
            have b49 : g_X7_tell_b49 F 0 (nI e) (nI j) (nI v) = some (G 1 (11 + 14 * e + j), dz F1 10 1 (tl e j v wm)) := by
              unfold g_X7_tell_b49
              rw [CS_r4 hC, Option.bind_some, CS_r2 hC, Option.bind_some, ckO_t (AC_o hA), g1, Option.bind_some, CS_r2 g2, Option.bind_some, ckO_t (CS_i10 g2), e1, bnd2_s, hE'.1 _ (by omega)]
            refine ⟨dz F1 10 1 (tl e j v wm), ?_, hC2, fun k hk => by rw [dz_n (by omega)]; exact g3 k (by omega)⟩
            show g_X7_tell F 0 (nI e) (nI j) (nI v) = _
            unfold g_X7_tell
            rw [c_isEnd, bnd2_s, if_pos hx, if_neg (by decide), c_isWithin, bnd2_s, if_pos hy, if_neg (by decide), c_isFigure, bnd2_s, if_pos hz, if_neg (by decide)]
            by_cases q : j = 0
            · rw [if_pos (hf q)] at s2
              rw [if_pos (j0.mpr q), CS_r2 hC, Option.bind_some, ckO_t (CS_i10 hC), s1, bnd2_s, ckO_t s3, s2, bnd2_s, if_pos rfl, b49]
            · rw [if_neg (fun k => q (j0.mp k)), b49]
          · have e0 := hB'.2.2.1
            obtain ⟨s', ar', q1, q2⟩ := m_note (F := F1) (sd := sd) hW (MB_s 0 (by omega) hB' : MB (upd s 0 0) ar N T c G)
            have e1 := q2.2.2.1
            rw [psh_k (by omega)] at e1
            have hh' : ar' 111 (15 + 14 * e) = nI h := by rw [← e1.1 _ (by omega)]; exact hh
            have hE2 := Eqv_tl (v := v) he hj hv1 hv (fun q => by rw [hNe]; exact hf q) hw e1
            have b59 : g_X8_tell_b59 (mh F1 (upd s 0 0) sd ar) 107 (nI e) (nI j) (nI v) = some (G 1 (11 + 14 * e + j), mh F1 s' sd (va_up ar' 111 (tl e j v (ar' 111)))) := by
              unfold g_X8_tell_b59
              rw [ckO_t (mh_isO _ _ _ _), q1, Option.bind_some, mh_r7, Option.bind_some, m_at, bnd2_s, nI_add, mh_ld _ _ _ _ (p := 111) (kd := 0) (n := 39) (by omega) rfl rfl (by omega) (by omega), Option.bind_some, mh_r7, Option.bind_some, m_at, bnd2_s, nI_add, mh_st _ _ _ _ (p := 111) (kd := 0) (n := 39) (by omega) rfl rfl (by omega) (by omega), Option.bind_some, ← e1.1 (11 + 14 * e + j) (by omega)]
              by_cases q : j = 0
              · rw [if_pos (j0.mpr q), mh_r7, Option.bind_some, m_comeOn _ (by omega) he (h := h) (by rw [va_up_self, upd_n _ _ (by omega)]; exact hh') (hf q), Option.bind_some, va_up_self, va_up2, tl, if_pos q]
              · rw [if_neg (fun k => q (j0.mp k)), tl, if_neg q]
            refine ⟨s', va_up ar' 111 (tl e j v (ar' 111)), ?_, MB_now hE2 q2⟩
            show g_X8_tell (mh F1 s sd ar) 107 (nI e) (nI j) (nI v) = _
            unfold g_X8_tell
            rw [mh_p0, Option.bind_some, m_noEnd, bnd2_s, if_pos hx, if_pos rfl, m_in _ _ 0 2 0 2 (by decide) (by decide), bnd2_s, if_pos hy, if_neg (by decide), m_in _ _ 1 9 1 9 (by decide) (by decide), bnd2_s, if_pos hz, if_neg (by decide)]
            by_cases q : j = 0
            · rw [if_pos (j0.mpr q), mh_r7, Option.bind_some, m_isFull (by omega) he (h := h) (by rw [← e0.1 _ (by omega)]; exact hh) h9, bnd2_s, if_pos (hf q), if_pos rfl, b59]
            · rw [if_neg (fun k => q (j0.mp k)), b59]
      · refine ⟨-2, N, T, c, G, sd, WS_mono (Nat.le_add_right B 20) hW, ⟨F, ?_, hC, fun _ _ => rfl⟩, m_keep (fun F1 s ar hB => ⟨upd s 0 0, ar, ?_, MB_s 0 (by omega) hB⟩)⟩
        · show g_X7_tell F 0 (nI e) y z = _
          unfold g_X7_tell
          rw [c_isEnd, bnd2_s, if_pos hx, if_neg (by decide), c_isWithin, bnd2_s, if_pos hy, if_neg (by decide), c_isFigure, bnd2_s, if_neg hz, if_pos rfl]
        · show g_X8_tell (mh F1 s sd ar) 107 (nI e) y z = _
          unfold g_X8_tell
          rw [mh_p0, Option.bind_some, m_noEnd, bnd2_s, if_pos hx, if_pos rfl, m_in _ _ 0 2 0 2 (by decide) (by decide), bnd2_s, if_pos hy, if_neg (by decide), m_in _ _ 1 9 1 9 (by decide) (by decide), bnd2_s, if_neg hz, if_pos rfl]
    · refine ⟨-2, N, T, c, G, sd, WS_mono (Nat.le_add_right B 20) hW, ⟨F, ?_, hC, fun _ _ => rfl⟩, m_keep (fun F1 s ar hB => ⟨upd s 0 0, ar, ?_, MB_s 0 (by omega) hB⟩)⟩
      · show g_X7_tell F 0 (nI e) y z = _
        unfold g_X7_tell
        rw [c_isEnd, bnd2_s, if_pos hx, if_neg (by decide), c_isWithin, bnd2_s, if_neg hy, if_pos rfl]
      · show g_X8_tell (mh F1 s sd ar) 107 (nI e) y z = _
        unfold g_X8_tell
        rw [mh_p0, Option.bind_some, m_noEnd, bnd2_s, if_pos hx, if_pos rfl, m_in _ _ 0 2 0 2 (by decide) (by decide), bnd2_s, if_neg hy, if_pos rfl]
  · refine ⟨-1, N, T, c, G, sd, WS_mono (Nat.le_add_right B 20) hW, ⟨F, ?_, hC, fun _ _ => rfl⟩, m_keep (fun F1 s ar hB => ⟨upd s 0 0, ar, ?_, MB_s 0 (by omega) hB⟩)⟩
    · show g_X7_tell F 0 x y z = _
      unfold g_X7_tell
      rw [c_isEnd, bnd2_s, if_neg hx, if_pos rfl]
    · show g_X8_tell (mh F1 s sd ar) 107 x y z = _
      unfold g_X8_tell
      rw [mh_p0, Option.bind_some, m_noEnd, bnd2_s, if_neg hx, if_neg (by decide)]
