/-! undo, keep, again -/
def cpr (d k : Nat) (f w : Nat → Int32) : Nat → Int32 := fun i => if i < k then f (39 * d + i) else w i
theorem cpr_0 (d : Nat) (f w : Nat → Int32) : cpr d 0 f w = w := by
  funext i
  unfold cpr
  rw [if_neg (by omega)]
theorem cpr_s (d k : Nat) (f w : Nat → Int32) : upd (cpr d k f w) k (f (39 * d + k)) = cpr d (k + 1) f w := by
  funext i
  by_cases q : i = k
  · subst q
    rw [upd_s]
    unfold cpr
    rw [if_pos (by omega)]
  · rw [upd_n _ _ q]
    unfold cpr
    by_cases q2 : i < k
    · rw [if_pos q2, if_pos (by omega)]
    · rw [if_neg q2, if_neg (by omega)]
theorem Eqv_cpr {C d : Nat} {W f : Nat → Int32} (w : Nat → Int32) (hE : Eqv W (fun i => f (39 * d + i))) (hw : Wf C W) : Eqv W (cpr d 39 f w) := by
  refine Eqv_trans hE (Eqv_39 (Wf_Lw (Wf_eqv hE hw)) (fun i hi => ?_))
  unfold cpr
  rw [if_pos hi]
section KP
variable {F : Hp} {N : Nat → Nat} {T : Nat → Nat → Int32} {c : Nat → Nat} {G : Nat → Nat → Int32} {sd : Int64} {s : Nat → Int32} {ar : Nat → Nat → Int32}
theorem m_undoL {d : Nat} (hs : s 13 = nI d) (hd : d < 14) : ∀ (r k n : Nat), k + r = 39 → r < n → g_X8_undo_b27 n (mh F s sd (va_up ar 111 (cpr d k (ar 115) (ar 111)))) 107 (nI k) = some (nI d, mh F s sd (va_up ar 111 (cpr d 39 (ar 115) (ar 111)))) := by
  intro r
  induction r with
  | zero =>
    intro k n hk hn
    obtain ⟨n, rfl⟩ : ∃ n', n = n' + 1 := ⟨n - 1, by omega⟩
    obtain rfl : k = 39 := by omega
    rw [g_X8_undo_b27, if_pos (show (39 : Int32) ≤ nI 39 from by decide), mh_g13, Option.bind_some, hs]
  | succ r ih =>
    intro k n hk hn
    obtain ⟨n, rfl⟩ : ∃ n', n = n' + 1 := ⟨n - 1, by omega⟩
    rw [g_X8_undo_b27, if_neg (show ¬ (39 : Int32) ≤ nI k from nI_ge (b := 39) (by omega) (by omega)), mh_r7, Option.bind_some, mh_r12, Option.bind_some, mh_g13, Option.bind_some, hs, idx39, mh_ld _ _ _ _ (p := 115) (kd := 0) (n := 546) (by omega) rfl rfl (by omega) (by omega), Option.bind_some, mh_st _ _ _ _ (p := 111) (kd := 0) (n := 39) (by omega) rfl rfl (show k < 39 by omega) (by omega), Option.bind_some, nI_1, va_up_ne _ _ (show 115 ≠ 111 by omega), va_up_self, va_up2, cpr_s]
    exact ih (k + 1) n (by omega) (by omega)
theorem m_keepL {e : Nat} (he : e = 0 ∨ e = 1) : ∀ (r k n : Nat), k + r = 39 → r < n → g_X8_keep_b26 n (mh F s sd (va_up ar 116 (cpk e k (ar 111) (ar 116)))) 107 (nI e) (nI k) = some (ar 111 3, mh F s sd (va_up ar 116 (cpk e 39 (ar 111) (ar 116)))) := by
  intro r
  induction r with
  | zero =>
    intro k n hk hn
    obtain ⟨n, rfl⟩ : ∃ n', n = n' + 1 := ⟨n - 1, by omega⟩
    obtain rfl : k = 39 := by omega
    rw [g_X8_keep_b26, if_pos (show (39 : Int32) ≤ nI 39 from by decide), mh_r7, Option.bind_some, show (3 : Int32) = nI 3 from rfl, mh_ld _ _ _ _ (p := 111) (kd := 0) (n := 39) (j := 3) (by omega) rfl rfl (by omega) (by omega), Option.bind_some, va_up_ne _ _ (show 111 ≠ 116 by omega)]
  | succ r ih =>
    intro k n hk hn
    obtain ⟨n, rfl⟩ : ∃ n', n = n' + 1 := ⟨n - 1, by omega⟩
    rw [g_X8_keep_b26, if_neg (show ¬ (39 : Int32) ≤ nI k from nI_ge (b := 39) (by omega) (by omega)), mh_r14, Option.bind_some, mh_r7, Option.bind_some, mh_ld _ _ _ _ (p := 111) (kd := 0) (n := 39) (by omega) rfl rfl (show k < 39 by omega) (by omega), Option.bind_some, idx39, mh_st _ _ _ _ (p := 116) (kd := 0) (n := 78) (by omega) rfl rfl (by omega) (by omega), Option.bind_some, nI_1, va_up_ne _ _ (show 111 ≠ 116 by omega), va_up_self, va_up2, cpk_s]
    exact ih (k + 1) n (by omega) (by omega)
theorem m_againL {e : Nat} (he : e = 0 ∨ e = 1) : ∀ (r k n : Nat), k + r = 39 → r < n → g_X8_again_b31 n (mh F s sd (va_up ar 111 (cpr e k (ar 116) (ar 111)))) 107 (nI e) (nI k) = some (ar 116 (39 * e + 3), mh F (upd s 13 0) sd (va_up ar 111 (cpr e 39 (ar 116) (ar 111)))) := by
  intro r
  induction r with
  | zero =>
    intro k n hk hn
    obtain ⟨n, rfl⟩ : ∃ n', n = n' + 1 := ⟨n - 1, by omega⟩
    obtain rfl : k = 39 := by omega
    rw [g_X8_again_b31, if_pos (show (39 : Int32) ≤ nI 39 from by decide), mh_p13, Option.bind_some, mh_r7, Option.bind_some, show (3 : Int32) = nI 3 from rfl, mh_ld _ _ _ _ (p := 111) (kd := 0) (n := 39) (j := 3) (by omega) rfl rfl (by omega) (by omega), Option.bind_some, va_up_self]
    rfl
  | succ r ih =>
    intro k n hk hn
    obtain ⟨n, rfl⟩ : ∃ n', n = n' + 1 := ⟨n - 1, by omega⟩
    rw [g_X8_again_b31, if_neg (show ¬ (39 : Int32) ≤ nI k from nI_ge (b := 39) (by omega) (by omega)), mh_r7, Option.bind_some, mh_r14, Option.bind_some, idx39, mh_ld _ _ _ _ (p := 116) (kd := 0) (n := 78) (by omega) rfl rfl (by omega) (by omega), Option.bind_some, mh_st _ _ _ _ (p := 111) (kd := 0) (n := 39) (by omega) rfl rfl (show k < 39 by omega) (by omega), Option.bind_some, nI_1, va_up_ne _ _ (show 116 ≠ 111 by omega), va_up_self, va_up2, cpr_s]
    exact ih (k + 1) n (by omega) (by omega)
theorem AC_dec {d d' : Nat} {p : Nat → Nat} (h : AC F d G p) (hd : d' ≤ d) : AC (va_up F 20 (.inr (0, [.ref 21, .int (nI d')]))) d' G p := by
  obtain ⟨h1, ⟨r, hr, hj⟩, h3, h4, h5⟩ := h
  refine ⟨va_up_self _ _ _, ⟨r, by rw [va_up_ne _ _ (by omega)]; exact hr, hj⟩, h3, h4, fun j hj => ?_⟩
  obtain ⟨w, q1, q2⟩ := h5 j hj
  exact ⟨w, isDz_fr q1 (fun k k1 k2 => va_up_ne _ _ (by omega)), fun q => q2 (by omega)⟩
theorem AC_p {d : Nat} {p : Nat → Nat} (x : Int32) (h : AC F d G p) : pV F 20 0 1 (.int x) = some (va_up F 20 (.inr (0, [.ref 21, .int x]))) := by
  simp only [pV, h.1]
  rfl
theorem WS_less {B d : Nat} (hd : d ≤ N 2) (h : WS B N T c G) : WS B (va_up N 2 d) T c G := by
  obtain ⟨h1, h2, h3, h4, h5, h6, h7, h8, h9, h10⟩ := h
  exact ⟨h1, h2, by show d ≤ 14; omega, h4, h5, h6, h7, h8, fun j hj => h9 j (by have : j < d := hj; omega), h10⟩
theorem MB_less {d : Nat} (hd : d ≤ N 2) (h : MB s ar N T c G) : MB (upd s 13 (nI d)) ar (va_up N 2 d) T c G := by
  obtain ⟨⟨a1, a2, a3, a4, a5⟩, b, r1, r2, r3, r4, r5⟩ := h
  exact ⟨⟨a1, a2, rfl, a4, a5⟩, b, r1, r2, r3, fun j hj => r4 j (by have : j < d := hj; omega), r5⟩
theorem c_slotOf {e : Nat} (he : e = 0 ∨ e = 1) (hC : CS F N T c G sd) : g_X7_slotOf F 0 (nI e) = some (95 + 6 * e, F) := by
  rcases he with rfl | rfl
  · rw [g_X7_slotOf, if_pos (show nI 0 = 0 from rfl), CS_r6 hC, Option.bind_some]
  · rw [g_X7_slotOf, if_neg (show ¬ nI 1 = 0 by decide), CS_r7 hC, Option.bind_some]
theorem CS_sl {e : Nat} (he : e = 0 ∨ e = 1) (hC : CS F N T c G sd) : F (95 + 6 * e) = .inr (5, [.ref (96 + 6 * e), .int (T 3 e)]) ∧ ∃ w, isDz F (96 + 6 * e) 1 w ∧ (T 3 e = 1 → Eqv (G (16 + e)) w) := by
  rcases he with rfl | rfl
  · exact hC.2.2.2.2.2.2.2.2.1
  · exact hC.2.2.2.2.2.2.2.2.2
theorem CS_slot {F1 : Hp} {e : Nat} {w : Nat → Int32} (he : e = 0 ∨ e = 1) (h : CS F N T c G sd) (k1 : F1 (95 + 6 * e) = .inr (5, [.ref (96 + 6 * e), .int 1])) (k2 : isDz F1 (96 + 6 * e) 1 w) (hE : Eqv (G 1) w) (hf : ∀ k, k < 95 + 6 * e ∨ 101 + 6 * e ≤ k → F1 k = F k) : CS F1 N (va_up T 3 (upd (T 3) e 1)) c (va_up G (16 + e) (G 1)) sd := by
  obtain ⟨h0, ⟨h1, h2⟩, h3, ⟨w4, a4, b4⟩, ⟨w5, a5, b5⟩, ⟨mg, w6, a6, b6⟩, ⟨p, h7⟩, ⟨h8, h9, h10⟩, ⟨h11, w12, a12, b12⟩, h13, w14, a14, b14⟩ := h
  have hA : AC F1 (N 2) (va_up G (16 + e) (G 1)) p := by
    obtain ⟨q1, q2, q3, q4, q5⟩ := AC_fr h7 (F1 := F1) (fun k k1 k2 => hf k (by omega))
    refine ⟨q1, q2, q3, q4, fun j hj => ?_⟩
    obtain ⟨v, u1, u2⟩ := q5 j hj
    exact ⟨v, u1, by rw [va_up_ne _ _ (by omega)]; exact u2⟩
  refine ⟨by rw [hf 0 (by omega)]; exact h0, ⟨by rw [hf 1 (by omega)]; exact h1, by rw [hf 2 (by omega)]; exact h2⟩, SC_fr h3 (hf 3 (by omega)) (hf 9 (by omega)), ⟨w4, isDz_fr a4 (fun k k1 k2 => hf k (by omega)), by rw [va_up_ne _ _ (by omega)]; exact b4⟩, ⟨w5, isDz_fr a5 (fun k k1 k2 => hf k (by omega)), by rw [va_up_ne _ _ (by omega)]; exact b5⟩, ⟨mg, w6, isDz_fr a6 (fun k k1 k2 => hf k (by omega)), b6⟩, ⟨p, hA⟩, ⟨by rw [hf 92 (by omega)]; exact h8, by rw [hf 93 (by omega)]; exact h9, by rw [hf 94 (by omega)]; exact h10⟩, ?_, ?_⟩
  · rcases he with rfl | rfl
    · exact ⟨k1, w, k2, fun _ => hE⟩
    · exact ⟨by rw [hf 95 (by omega)]; exact h11, w12, isDz_fr a12 (fun k k1 k2 => hf k (by omega)), b12⟩
  · rcases he with rfl | rfl
    · exact ⟨by rw [hf 101 (by omega)]; exact h13, w14, isDz_fr a14 (fun k k1 k2 => hf k (by omega)), b14⟩
    · exact ⟨k1, w, k2, fun _ => hE⟩
end KP
theorem s_undo {B : Nat} : Stp1 B (fun F => g_X7_undo F 0) (fun F => g_X8_undo F 107) := by
  refine stp_of (fun F N T c G sd hW hC hM => ?_)
  obtain ⟨p, hA⟩ := hC.2.2.2.2.2.2.1
  have h14 := hW.2.2.1
  by_cases h0 : N 2 = 0
  · rw [h0] at hA
    refine ⟨-3, N, T, c, G, sd, WS_mono (Nat.le_add_right B 20) hW, ⟨F, ?_, hC, fun _ _ => rfl⟩, m_keep (fun F1 s ar hB => ⟨upd s 0 0, ar, ?_, MB_s 0 (by omega) hB⟩)⟩
    · have b : g_X0_beforeAt F 20 (nI 0 - 1) = some (none, F) := by
        rw [g_X0_beforeAt, if_pos (show nI 0 - 1 < 0 by decide)]
      show g_X7_undo F 0 = _
      unfold g_X7_undo g_X0_takeBack
      rw [CS_r4 hC, Option.bind_some, CS_r2 hC, Option.bind_some, ckO_t (AC_o hA), AC_g1 hA, Option.bind_some, ckO_t (AC_o hA), b, bnd2_s]
      rfl
    · show g_X8_undo (mh F1 s sd ar) 107 = _
      unfold g_X8_undo
      rw [mh_p0, Option.bind_some, mh_g13, Option.bind_some, upd_n _ _ (by omega), hB.1.2.2.1, if_pos (show nI (N 2) = 0 by rw [h0]; rfl)]
  · obtain ⟨d, hd⟩ : ∃ d, N 2 = d + 1 := ⟨N 2 - 1, by omega⟩
    have hwd := hW.2.2.2.2.2.2.2.2.1 d (by omega)
    refine ⟨nI d, va_up N 2 d, T, c, va_up G 1 (G (2 + d)), sd, WS_less (by omega) (WS_now (Wf_mono (by omega) hwd) (WS_mono (Nat.le_add_right B 20) hW)), ?_, m_chg (fun F1 s ar hB' => ?_)⟩
    · obtain ⟨wn, hdn, hE⟩ := hC.2.2.2.2.1
      obtain ⟨wb, b1, b2⟩ := hA.2.2.2.2 d (by omega)
      have hp := hA.2.2.1 d (by omega)
      have hEb := b2 (by omega)
      obtain ⟨w2, g1, g2⟩ := c_become (a := 10) (b := 22 + 5 * p d) (mg := 1) (w := wn) b1 (by omega) (Or.inr rfl) (Lw_eqv hEb (Wf_Lw hwd))
      rw [hdn] at g1
      have hC2 := CS_now (Eqv_trans hEb g2) hC
      obtain ⟨p', hA'⟩ := hC2.2.2.2.2.2.2.1
      have hA2 := AC_dec (d' := d) hA' (by omega)
      have hC3 := CS_acts hC2 ⟨p', hA2⟩ (fun k hk => va_up_ne _ _ (by omega)) (fun k hk => rfl)
      have a1 := AC_g1 hA'
      rw [hd] at a1
      refine ⟨_, ?_, hC3, fun k hk => by rw [va_up_ne _ _ (by omega), dz_n (by omega)]⟩
      show g_X7_undo F 0 = _
      unfold g_X7_undo g_X0_takeBack
      rw [CS_r4 hC, Option.bind_some, CS_r2 hC, Option.bind_some, ckO_t (AC_o hA), AC_g1 hA, Option.bind_some, ckO_t (AC_o hA), hd, nI_pred, AC_b hA (by omega), bnd2_s]
      show (bnd2 (ckO F 10 1 ((g_X1_become F 10 (22 + 5 * p d)).bind _)) _) = _
      rw [ckO_t (CS_i10 hC), g1, Option.bind_some, a1, Option.bind_some, nI_pred, AC_p _ hA', Option.bind_some, bnd2_s, if_neg (by decide), CS_r4 hC3, Option.bind_some, AC_g1 hA2, Option.bind_some]
    · have h5 := hB'.2.2.2.2.2.1 d (by omega)
      have g := m_undoL (F := F1) (sd := sd) (s := upd (upd s 0 0) 13 (nI d)) (ar := ar) (upd_s _ _ _) (show d < 14 by omega) 39 0 gF (by omega) (by unfold gF; omega)
      rw [cpr_0, va_up_eta rfl] at g
      refine ⟨upd (upd s 0 0) 13 (nI d), va_up ar 111 (cpr d 39 (ar 115) (ar 111)), ?_, MB_less (by omega) (MB_now (Eqv_cpr _ h5 hwd) (MB_s 0 (by omega) hB'))⟩
      show g_X8_undo (mh F1 s sd ar) 107 = _
      unfold g_X8_undo
      rw [mh_p0, Option.bind_some, mh_g13, Option.bind_some, upd_n _ _ (by omega), hB'.1.2.2.1, if_neg (show ¬ nI (N 2) = 0 from fun q => by have := (nI_eq (a := N 2) (b := 0) (by omega) (by omega)).mp q; omega), Option.bind_some, hd, nI_pred, mh_p13, Option.bind_some]
      exact g
theorem s_keep {B : Nat} (x : Int32) : Stp1 B (fun F => g_X7_keep F 0 x) (fun F => g_X8_keep F 107 x) := by
  refine stp_of (fun F N T c G sd hW hC hM => ?_)
  have hw := hW.2.2.2.2.2.2.2.1
  have hio : (0 ≤ x ∧ x ≤ 1) ↔ (x = 0 ∨ x = 1) := by
    constructor
    · intro h
      obtain ⟨j, hj, rfl⟩ := nI_cases (n := 1) rfl h
      rcases (show j = 0 ∨ j = 1 by omega) with rfl | rfl
      · exact Or.inl rfl
      · exact Or.inr rfl
    · rintro (rfl | rfl) <;> decide
  by_cases hx : x = 0 ∨ x = 1
  · have hx2 := hio.mpr hx
    obtain ⟨e, he, rfl⟩ := end_cases hx
    refine ⟨G 1 3, N, va_up T 3 (upd (T 3) e 1), c, va_up G (16 + e) (G 1), sd, ?_, ?_, m_chg (fun F1 s ar hB' => ?_)⟩
    · obtain ⟨h1, h2, h3, h4, h5, h6, h7, h8, h9, h10⟩ := WS_mono (Nat.le_add_right B 20) hW
      refine ⟨h1, h2, h3, h4, ?_, ?_, by rw [va_up_ne _ _ (by omega)]; exact h7, by rw [va_up_ne _ _ (by omega)]; exact h8, fun j hj => by rw [va_up_ne _ _ (by omega)]; exact h9 j hj, fun i hi hk => ?_⟩
      · show upd (T 3) e 1 0 = 0 ∨ upd (T 3) e 1 0 = 1
        by_cases q : 0 = e
        · subst q
          exact Or.inr (upd_s _ _ _)
        · rw [upd_n _ _ q]
          exact h5
      · show upd (T 3) e 1 1 = 0 ∨ upd (T 3) e 1 1 = 1
        by_cases q : 1 = e
        · subst q
          exact Or.inr (upd_s _ _ _)
        · rw [upd_n _ _ q]
          exact h6
      · have hk' : upd (T 3) e 1 i = 1 := hk
        by_cases q : i = e
        · subst q
          rw [va_up_self]
          exact h8
        · rw [va_up_ne _ _ (by omega)]
          rw [upd_n _ _ q] at hk'
          exact h10 i hi hk'
    · obtain ⟨wn, hdn, hE⟩ := hC.2.2.2.2.1
      obtain ⟨k1, wb, k2, k3⟩ := CS_sl he hC
      obtain ⟨w2, g1, g2⟩ := c_become (a := 96 + 6 * e) (b := 10) (mg := 1) (w := wb) hdn (by omega) (Or.inr rfl) (Lw_eqv hE (Wf_Lw hw))
      rw [k2] at g1
      have hE2 := Eqv_trans hE g2
      have f95 : dz F (96 + 6 * e) 1 w2 (95 + 6 * e) = .inr (5, [.ref (96 + 6 * e), .int (T 3 e)]) := by rw [dz_n (by omega)]; exact k1
      have pp : pZ (dz F (96 + 6 * e) 1 w2) (95 + 6 * e) 5 1 1 = some (va_up (dz F (96 + 6 * e) 1 w2) (95 + 6 * e) (.inr (5, [.ref (96 + 6 * e), .int 1]))) := by
        unfold pZ
        rw [if_pos (Or.inr rfl)]
        simp only [pV, f95]
        rfl
      have gg : gR F (95 + 6 * e) 5 0 = some (96 + 6 * e) := by simp only [gR, gV, k1]; rfl
      have hC2 := CS_slot (F1 := va_up (dz F (96 + 6 * e) 1 w2) (95 + 6 * e) (.inr (5, [.ref (96 + 6 * e), .int 1]))) he hC (va_up_self _ _ _) (isDz_fr (isDz_dz F (96 + 6 * e) 1 w2) (fun k k1 k2 => va_up_ne _ _ (by omega))) hE2 (fun k hk => by rw [va_up_ne _ _ (by omega), dz_n (by omega)])
      obtain ⟨wn', hdn', hE'⟩ := hC2.2.2.2.2.1
      rw [va_up_ne _ _ (by omega)] at hE'
      have g8 := dz_g8 (va_up (dz F (96 + 6 * e) 1 w2) (95 + 6 * e) (.inr (5, [.ref (96 + 6 * e), .int 1]))) 10 1 wn'
      rw [hdn'] at g8
      refine ⟨_, ?_, hC2, fun k hk => by rw [va_up_ne _ _ (by omega), dz_n (by omega)]⟩
      show g_X7_keep F 0 (nI e) = _
      unfold g_X7_keep
      rw [c_isSlot, bnd2_s, if_pos hx, if_neg (by decide), ckO_t (CS_o hC), c_slotOf he hC, bnd2_s, gg, Option.bind_some, CS_r2 hC, Option.bind_some, ckO_t (isO_dz k2), g1, Option.bind_some, pp, Option.bind_some, CS_r2 hC2, Option.bind_some, g8, Option.bind_some, hE'.1 3 (by omega)]
    · have g := m_keepL (F := F1) (sd := sd) (s := upd s 0 0) (ar := va_up ar 117 (upd (ar 117) e 1)) he 39 0 gF (by omega) (by unfold gF; omega)
      rw [cpk_0, va_up_eta rfl] at g
      obtain ⟨⟨a1, a2, a3, a4, a5⟩, ⟨b1, b2, b3, b4⟩, r1, r2, r3, r4, r5⟩ := MB_s 0 (by omega) hB' (k := 0)
      refine ⟨upd s 0 0, va_up (va_up ar 117 (upd (ar 117) e 1)) 116 (cpk e 39 (ar 111) (ar 116)), ?_, ⟨⟨a1, a2, a3, a4, a5⟩, ⟨b1, b2, b3, by show upd (ar 117) e 1 = upd (T 3) e 1; rw [b4]⟩, ?_, ?_, r3, fun j hj => ?_, fun i hi hk => ?_⟩⟩
      · show g_X8_keep (mh F1 s sd ar) 107 (nI e) = _
        unfold g_X8_keep
        rw [mh_p0, Option.bind_some, m_in _ _ 0 1 0 1 (by decide) (by decide), bnd2_s, if_pos hx2, if_neg (by decide), mh_r15, Option.bind_some, mh_st _ _ _ _ (p := 117) (kd := 1) (n := 2) (by omega) rfl rfl (by omega) (by omega), Option.bind_some, r1.1 3 (by omega)]
        exact g
      · rw [va_up_ne _ _ (by omega)]; exact r1
      · rw [va_up_ne _ _ (by omega)]; exact r2
      · have h14 := hW.2.2.1
        rw [va_up_ne _ _ (by omega)]; exact r4 j hj
      · have hk' : upd (T 3) e 1 i = 1 := hk
        rw [va_up_self]
        by_cases q : i = e
        · subst q
          rw [va_up_self]
          refine Eqv_trans r1 (Eqv_39 (Wf_Lw (Wf_eqv r1 hw)) (fun k hk => ?_))
          show ar 111 k = cpk i 39 (ar 111) (ar 116) (39 * i + k)
          unfold cpk
          rw [if_pos (by omega), show 39 * i + k - 39 * i = k by omega]
        · rw [upd_n _ _ q] at hk'
          rw [va_up_ne _ _ (by omega)]
          have f1 := r5 i hi hk'
          refine Eqv_trans f1 (Eqv_39 (Wf_Lw (Wf_eqv f1 (hW.2.2.2.2.2.2.2.2.2 i hi hk'))) (fun k hk => ?_))
          show ar 116 (39 * i + k) = cpk e 39 (ar 111) (ar 116) (39 * i + k)
          unfold cpk
          rw [if_neg (by omega)]
  · refine ⟨-1, N, T, c, G, sd, WS_mono (Nat.le_add_right B 20) hW, ⟨F, ?_, hC, fun _ _ => rfl⟩, m_keep (fun F1 s ar hB => ⟨upd s 0 0, ar, ?_, MB_s 0 (by omega) hB⟩)⟩
    · show g_X7_keep F 0 x = _
      unfold g_X7_keep
      rw [c_isSlot, bnd2_s, if_neg hx, if_pos rfl]
    · show g_X8_keep (mh F1 s sd ar) 107 x = _
      unfold g_X8_keep
      rw [mh_p0, Option.bind_some, m_in _ _ 0 1 0 1 (by decide) (by decide), bnd2_s, if_neg (fun q => hx (hio.mp q)), if_pos rfl]
theorem s_again {B : Nat} (x : Int32) : Stp1 B (fun F => g_X7_again F 0 x) (fun F => g_X8_again F 107 x) := by
  refine stp_of (fun F N T c G sd hW hC hM => ?_)
  have hio : (0 ≤ x ∧ x ≤ 1) ↔ (x = 0 ∨ x = 1) := by
    constructor
    · intro h
      obtain ⟨j, hj, rfl⟩ := nI_cases (n := 1) rfl h
      rcases (show j = 0 ∨ j = 1 by omega) with rfl | rfl
      · exact Or.inl rfl
      · exact Or.inr rfl
    · rintro (rfl | rfl) <;> decide
  by_cases hx : x = 0 ∨ x = 1
  · have hx2 := hio.mpr hx
    obtain ⟨e, he, rfl⟩ := end_cases hx
    obtain ⟨k1, wb, k2, k3⟩ := CS_sl he hC
    have t01 : T 3 e = 0 ∨ T 3 e = 1 := by
      rcases he with rfl | rfl
      · exact hW.2.2.2.2.1
      · exact hW.2.2.2.2.2.1
    have g1' : gI F (95 + 6 * e) 5 1 = some (T 3 e) := by simp only [gI, gV, k1]; rfl
    rcases t01 with t0 | t1
    · refine ⟨-3, N, T, c, G, sd, WS_mono (Nat.le_add_right B 20) hW, ⟨F, ?_, hC, fun _ _ => rfl⟩, m_keep (fun F1 s ar hB => ⟨upd s 0 0, ar, ?_, MB_s 0 (by omega) hB⟩)⟩
      · show g_X7_again F 0 (nI e) = _
        unfold g_X7_again
        rw [c_isSlot, bnd2_s, if_pos hx, if_neg (by decide), ckO_t (CS_o hC), c_slotOf he hC, bnd2_s, g1', Option.bind_some, if_pos t0]
      · show g_X8_again (mh F1 s sd ar) 107 (nI e) = _
        unfold g_X8_again
        rw [mh_p0, Option.bind_some, m_in _ _ 0 1 0 1 (by decide) (by decide), bnd2_s, if_pos hx2, if_neg (by decide), mh_r15, Option.bind_some, mh_ld _ _ _ _ (p := 117) (kd := 1) (n := 2) (by omega) rfl rfl (by omega) (by omega), Option.bind_some, hB.2.1.2.2.2, if_pos t0]
    · have hwe := hW.2.2.2.2.2.2.2.2.2 e (by omega) t1
      refine ⟨G (16 + e) 3, va_up N 2 0, T, c, va_up G 1 (G (16 + e)), sd, WS_less (by omega) (WS_now (Wf_mono (by omega) hwe) (WS_mono (Nat.le_add_right B 20) hW)), ?_, m_chg (fun F1 s ar hB' => ?_)⟩
      · obtain ⟨wn, hdn, hE⟩ := hC.2.2.2.2.1
        have hEb := k3 t1
        obtain ⟨w2, g1, g2⟩ := c_become (a := 10) (b := 96 + 6 * e) (mg := 1) (w := wn) k2 (by omega) (Or.inr rfl) (Lw_eqv hEb (Wf_Lw hwe))
        rw [hdn] at g1
        have hE2 := Eqv_trans hEb g2
        have hC2 := CS_now hE2 hC
        obtain ⟨p', hA'⟩ := hC2.2.2.2.2.2.2.1
        have hA2 := AC_dec (d' := 0) hA' (by omega)
        have hC3 := CS_acts hC2 ⟨p', hA2⟩ (fun k hk => va_up_ne _ _ (by omega)) (fun k hk => rfl)
        have gg : gR F (95 + 6 * e) 5 0 = some (96 + 6 * e) := by simp only [gR, gV, k1]; rfl
        have g8 : gI (va_up (dz F 10 1 w2) 20 (.inr (0, [.ref 21, .int (nI 0)]))) 10 1 8 = some (w2 3) := by
          have := dz_g8 F 10 1 w2
          unfold gI gV at this ⊢
          rw [va_up_ne _ _ (by omega)]
          exact this
        refine ⟨_, ?_, hC3, fun k hk => by rw [va_up_ne _ _ (by omega), dz_n (by omega)]⟩
        show g_X7_again F 0 (nI e) = _
        unfold g_X7_again
        rw [c_isSlot, bnd2_s, if_pos hx, if_neg (by decide), ckO_t (CS_o hC), c_slotOf he hC, bnd2_s, g1', Option.bind_some, if_neg (show ¬ T 3 e = 0 by rw [t1]; decide), CS_r2 hC, Option.bind_some, gg, Option.bind_some, ckO_t (CS_i10 hC), g1, Option.bind_some, CS_r4 hC2, Option.bind_some, show pV (dz F 10 1 w2) 20 0 1 (.int 0) = _ from AC_p (nI 0) hA', Option.bind_some, CS_r2 hC3, Option.bind_some, g8, Option.bind_some, hE2.1 3 (by omega)]
      · have g := m_againL (F := F1) (sd := sd) (s := upd s 0 0) (ar := ar) he 39 0 gF (by omega) (by unfold gF; omega)
        rw [cpr_0, va_up_eta rfl] at g
        have h5 := hB'.2.2.2.2.2.2 e (by omega) t1
        refine ⟨upd (upd s 0 0) 13 (nI 0), va_up ar 111 (cpr e 39 (ar 116) (ar 111)), ?_, MB_less (by omega) (MB_now (Eqv_cpr _ h5 hwe) (MB_s 0 (by omega) hB'))⟩
        show g_X8_again (mh F1 s sd ar) 107 (nI e) = _
        unfold g_X8_again
        rw [mh_p0, Option.bind_some, m_in _ _ 0 1 0 1 (by decide) (by decide), bnd2_s, if_pos hx2, if_neg (by decide), mh_r15, Option.bind_some, mh_ld _ _ _ _ (p := 117) (kd := 1) (n := 2) (by omega) rfl rfl (by omega) (by omega), Option.bind_some, hB'.2.1.2.2.2, if_neg (show ¬ T 3 e = 0 by rw [t1]; decide), h5.1 3 (by omega)]
        exact g
  · refine ⟨-1, N, T, c, G, sd, WS_mono (Nat.le_add_right B 20) hW, ⟨F, ?_, hC, fun _ _ => rfl⟩, m_keep (fun F1 s ar hB => ⟨upd s 0 0, ar, ?_, MB_s 0 (by omega) hB⟩)⟩
    · show g_X7_again F 0 x = _
      unfold g_X7_again
      rw [c_isSlot, bnd2_s, if_neg hx, if_pos rfl]
    · show g_X8_again (mh F1 s sd ar) 107 x = _
      unfold g_X8_again
      rw [mh_p0, Option.bind_some, m_in _ _ 0 1 0 1 (by decide) (by decide), bnd2_s, if_neg (fun q => hx (hio.mp q)), if_pos rfl]
