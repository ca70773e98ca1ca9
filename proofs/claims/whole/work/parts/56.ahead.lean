/-! ahead, play, best, of one end -/
section AH
variable {F : Hp} {sd : Int64} {s : Nat → Int32}
theorem m_ahL {m j : Nat} (hs : s 21 = 7) (hm : m < 2 ^ 31) (hj : j ≤ 9) : ∀ (r k n C : Nat) (ar : Nat → Nat → Int32), k + r = m → r < n → C + r < 100000000 → Wf C (ar 114) → g_X8_ahead_b45 n (mh F s sd ar) 107 (nI m) (nI j) (nI k) = some (fig (nI j) (tkN true true true r (ar 114)), mh F s sd (va_up ar 114 (tkN true true true r (ar 114)))) := by
  intro r
  induction r with
  | zero =>
    intro k n C ar hk hn hC hw
    obtain ⟨n, rfl⟩ : ∃ n', n = n' + 1 := ⟨n - 1, by omega⟩
    rw [g_X8_ahead_b45, if_pos (nI_le (by omega) (by omega)), mh_r11, Option.bind_some, m_told (by omega) hj hw, bnd2_s, tkN, va_up_eta rfl]
  | succ r ih =>
    intro k n C ar hk hn hC hw
    obtain ⟨n, rfl⟩ : ∃ n', n = n' + 1 := ⟨n - 1, by omega⟩
    have hw2 := Wf_tk true true true (by omega) hw
    rw [g_X8_ahead_b45, if_neg (nI_ge (by omega) (by omega)), mh_r11, Option.bind_some, ckO_t (mh_isO _ _ _ _), mt (by omega) hw, Option.bind_some, nI_1, hs]
    have hi := ih (k + 1) n (C + 1) (va_up ar 114 (tk true true true (ar 114))) (by omega) (by omega) (by omega) (by rw [va_up_self]; exact hw2)
    rw [va_up_self, va_up2] at hi
    exact hi
end AH
theorem s_ahead {B : Nat} (hB : B + 1000 < 100000000) (x y : Int32) : Stp1 B (fun F => g_X7_ahead F 0 x y) (fun F => g_X8_ahead F 107 x y) := by
  refine stp_of (fun F N T c G sd hW hC hM => ?_)
  have hw := hW.2.2.2.2.2.2.2.1
  by_cases hx : 0 ≤ x ∧ x ≤ 99
  · by_cases hy : 0 ≤ y ∧ y ≤ 9
    · obtain ⟨m, hm, rfl⟩ := nI_cases (n := 99) rfl hx
      obtain ⟨j, hj, rfl⟩ := nI_cases (n := 9) rfl hy
      obtain ⟨w, g1, g2⟩ := c_tryNow hW hC
      have hw2 := Wf_eqv g2 hw
      refine ⟨fig (nI j) (tkN true true true m (G 1)), N, T, c, G, sd, WS_mono (Nat.le_add_right B 20) hW, ⟨dz F 15 1 (tkN true true true m w), ?_, CS_trial (Or.inr rfl) hC, fun k hk => dz_n (by omega)⟩, m_keep (fun F1 s ar hB' => ?_)⟩
      · have e1 := c_elapse (F := F) (a := 15) (mg := 1) (m := m) (C := B) (by omega) (by omega) hw2
        have e2 := c_figure (F := F) (a := 15) (mg := 1) hj (Wf_tkN (mg := true) (u0 := true) (u1 := true) (n := m) (by omega) hw2)
        show g_X7_ahead F 0 (nI m) (nI j) = _
        unfold g_X7_ahead
        rw [c_isWithin, bnd2_s, if_pos hx, if_neg (by decide), c_isWithin, bnd2_s, if_pos hy, if_neg (by decide), CS_r3 hC, Option.bind_some, CS_r2 hC, Option.bind_some, ckO_t (CS_i15 hC), g1, Option.bind_some, CS_r3 (CS_trial (Or.inr rfl) hC), Option.bind_some, ckO_t (dz_isO _ _ _ _), e1, Option.bind_some, CS_r3 (CS_trial (Or.inr rfl) hC), Option.bind_some, ckO_t (dz_isO _ _ _ _)]
        rw [show (decide (¬ (1 : Int32) = 0)) = true from rfl, e2, bnd2_s, Eqv_fig hj (Eqv_tkN (C := B) (by omega) hw g2)]
      · obtain ⟨-, -, e1, -⟩ := id hB'
        have hE := Eqv_cp (ar 114) (Wf_Lw (Wf_eqv e1 hw))
        have hE2 := Eqv_trans e1 hE
        have g := m_ahL (F := F1) (sd := sd) (s := upd s 0 0) (m := m) (by rw [upd_n _ _ (by omega)]; exact hB'.1.2.2.2.2) (by omega) hj m 0 gF B (va_up ar 114 (cp (ar 111) (ar 114))) (by omega) (by unfold gF; omega) (by omega) (by rw [va_up_self]; exact Wf_eqv hE2 hw)
        rw [va_up_self, va_up2] at g
        refine ⟨upd s 0 0, va_up ar 114 (tkN true true true m (cp (ar 111) (ar 114))), ?_, MB_a _ (by omega) (MB_s 0 (by omega) hB')⟩
        show g_X8_ahead (mh F1 s sd ar) 107 (nI m) (nI j) = _
        unfold g_X8_ahead
        rw [mh_p0, Option.bind_some, m_in _ _ 0 99 0 99 (by decide) (by decide), bnd2_s, if_pos hx, if_neg (by decide), m_in _ _ 0 9 0 9 (by decide) (by decide), bnd2_s, if_pos hy, if_neg (by decide), mh_r7, Option.bind_some, mh_r11, Option.bind_some, m_lay (by omega) (by omega) (by omega), Option.bind_some]
        rw [Eqv_fig hj (Eqv_tkN (C := B) (by omega) hw hE2)] at g
        exact g
    · refine ⟨-2, N, T, c, G, sd, WS_mono (Nat.le_add_right B 20) hW, ⟨F, ?_, hC, fun _ _ => rfl⟩, m_keep (fun F1 s ar hB => ⟨upd s 0 0, ar, ?_, MB_s 0 (by omega) hB⟩)⟩
      · show g_X7_ahead F 0 x y = _
        unfold g_X7_ahead
        rw [c_isWithin, bnd2_s, if_pos hx, if_neg (by decide), c_isWithin, bnd2_s, if_neg hy, if_pos rfl]
      · show g_X8_ahead (mh F1 s sd ar) 107 x y = _
        unfold g_X8_ahead
        rw [mh_p0, Option.bind_some, m_in _ _ 0 99 0 99 (by decide) (by decide), bnd2_s, if_pos hx, if_neg (by decide), m_in _ _ 0 9 0 9 (by decide) (by decide), bnd2_s, if_neg hy, if_pos rfl]
  · refine ⟨-2, N, T, c, G, sd, WS_mono (Nat.le_add_right B 20) hW, ⟨F, ?_, hC, fun _ _ => rfl⟩, m_keep (fun F1 s ar hB => ⟨upd s 0 0, ar, ?_, MB_s 0 (by omega) hB⟩)⟩
    · show g_X7_ahead F 0 x y = _
      unfold g_X7_ahead
      rw [c_isWithin, bnd2_s, if_neg hx, if_pos rfl]
    · show g_X8_ahead (mh F1 s sd ar) 107 x y = _
      unfold g_X8_ahead
      rw [mh_p0, Option.bind_some, m_in _ _ 0 99 0 99 (by decide) (by decide), bnd2_s, if_neg hx, if_pos rfl]
section PL
variable {F : Hp} {N : Nat → Nat} {T : Nat → Nat → Int32} {c : Nat → Nat} {G : Nat → Nat → Int32} {sd : Int64}
/-- the program's play on the trial, from a page on -/
theorem c_playT {C : Nat} {mg gone : Int32} {w : Nat → Int32} (hm : mg = 0 ∨ mg = 1) (hC : CS F N T c G sd) (hB : C + 1000 < 100000000) (hw : Wf C w) : g_X2_perform (dz F 15 mg w) 3 15 gone = some (dz F 15 mg (runE (decide (¬ mg = 0)) true true gone c (N 1) 0 0 w)) ∧ g_X1_settle (dz F 15 mg (runE (decide (¬ mg = 0)) true true gone c (N 1) 0 0 w)) 15 = some (dz F 15 mg (play (decide (¬ mg = 0)) true true gone c (N 1) w)) := by
  have hS := hC.2.2.1
  have h71 := hS.2.2.1
  refine ⟨c_perform (C := C) (by omega) hS (by omega) hw, ?_⟩
  exact c_settle (C := C + 9 * N 1) hm (by omega) (Wf_runE hS.2.2 (N 1) 0 0 C w (by omega) (by omega) hw)
end PL
theorem s_play {B : Nat} (x : Int32) : Stp1 B (fun F => g_X7_play F 0 x) (fun F => g_X8_play F 107 x) := by
  refine stp_of (fun F N T c G sd hW hC hM => ?_)
  have hEv := hW.2.1
  have hw0 := hW.2.2.2.2.2.2.1.1
  have hS := hC.2.2.1
  obtain ⟨w, g1, g2⟩ := c_tryStart hW hC
  have hw2 := Wf_eqv g2 hw0
  obtain ⟨p1, p2⟩ := c_playT (mg := 1) (gone := 0) (Or.inr rfl) hC (by omega) hw2
  rw [show (decide (¬ (1 : Int32) = 0)) = true from rfl] at p1 p2
  have hEp := Eqv_play (mg := true) (u0 := true) (u1 := true) (gone := 0) hEv (C := 0) (by omega) hw0 g2
  have hmod : ∀ (F1 : Hp) (s : Nat → Int32) (ar : Nat → Nat → Int32), MB s ar N T c G → ∃ w, g_X8_pricePlay (mh F1 (upd s 0 0) sd ar) 107 = some (w 4 + w 6 + 20 * w 8, mh F1 (upd s 0 0) sd (va_up ar 114 w)) ∧ Eqv (play true true true 0 c (N 1) (G 0)) w := by
    intro F1 s ar hB
    obtain ⟨⟨a1, a2, a3, a4, a5⟩, -, e1, e0, ev, -⟩ := hB
    obtain ⟨w, q1, q2⟩ := m_price (F := F1) (sd := sd) (s := upd s 0 0) (ar := ar) (c := c) (mn := N 1) (C := 0) (by rw [upd_n _ _ (by omega)]; exact a5) (by rw [upd_n _ _ (by omega)]; exact a2) hEv ev (by omega) (Wf_eqv e0 hw0)
    exact ⟨w, q1, Eqv_trans (Eqv_play hEv (C := 0) (by omega) hw0 e0) q2⟩
  have cs : ∀ v, CS (dz F 15 1 v) N T c G sd := fun v => CS_trial (Or.inr rfl) hC
  by_cases hx : 0 ≤ x ∧ x ≤ 5
  · obtain ⟨j, hj, rfl⟩ := nI_cases (n := 5) rfl hx
    by_cases h5 : j = 5
    · subst h5
      refine ⟨nI (ltrs c (N 1)), N, T, c, G, sd, WS_mono (Nat.le_add_right B 20) hW, ⟨F, ?_, hC, fun _ _ => rfl⟩, m_keep (fun F1 s ar hB => ?_)⟩
      · show g_X7_play F 0 (nI 5) = _
        unfold g_X7_play
        rw [c_isWithin, bnd2_s, if_pos hx, if_neg (by decide), if_pos (show nI 5 = 5 from rfl), CS_r1 hC, Option.bind_some, ckO_t (SC_o hS), c_letters hS, bnd2_s]
      · obtain ⟨w', q1, q2⟩ := hmod F1 s ar hB
        refine ⟨upd s 0 0, va_up ar 114 w', ?_, MB_a _ (by omega) (MB_s 0 (by omega) hB)⟩
        have lt := m_letters (F := F1) (sd := sd) (s := upd s 0 0) (ar := va_up ar 114 w') (c := c) (mn := N 1) (by rw [upd_n _ _ (by omega)]; exact hB.1.2.1) hEv (fun k hk => by rw [va_up_ne _ _ (by omega)]; exact hB.2.2.2.2.1 k hk)
        show g_X8_play (mh F1 s sd ar) 107 (nI 5) = _
        unfold g_X8_play
        rw [mh_p0, Option.bind_some, ckO_t (mh_isO _ _ _ _), q1, bnd2_s, if_neg (by decide), if_neg (by decide), if_neg (by decide), if_neg (by decide), if_neg (by decide), if_pos (show nI 5 = 5 from rfl), ckO_t (mh_isO _ _ _ _), lt, bnd2_s]
    · refine ⟨if j = 0 then (play true true true 0 c (N 1) (G 0)) 4 + (play true true true 0 c (N 1) (G 0)) 6 + 20 * (play true true true 0 c (N 1) (G 0)) 8 else if j = 1 then (play true true true 0 c (N 1) (G 0)) 4 else if j = 2 then (play true true true 0 c (N 1) (G 0)) 6 else if j = 3 then (play true true true 0 c (N 1) (G 0)) 8 else (play true true true 0 c (N 1) (G 0)) 3, N, T, c, G, sd, WS_mono (Nat.le_add_right B 20) hW, ⟨dz F 15 1 (play true true true 0 c (N 1) w), ?_, cs _, fun k hk => dz_n (by omega)⟩, m_keep (fun F1 s ar hB => ?_)⟩
      · show g_X7_play F 0 (nI j) = _
        have n5 : ¬ nI j = 5 := fun q => by have := (nI_eq (a := j) (b := 5) (by omega) (by omega)).mp q; omega
        unfold g_X7_play
        rw [c_isWithin, bnd2_s, if_pos hx, if_neg (by decide), if_neg n5, CS_r3 hC, Option.bind_some, CS_r1 hC, Option.bind_some, SC_g0 hS, Option.bind_some, ckO_t (CS_i15 hC), g1, Option.bind_some, CS_r1 (cs _), Option.bind_some, CS_r3 (cs _), Option.bind_some, ckO_t (SC_o (cs _).2.2.1), p1, Option.bind_some, CS_r3 (cs _), Option.bind_some, ckO_t (dz_isO _ _ _ _), p2, Option.bind_some, CS_r3 (cs _)]
        simp only [Option.bind_some]
        rw [ckO_t (dz_isO _ _ _ _), c_price, bnd2_s, dz_g9, dz_g11, dz_g13, dz_g8]
        simp only [Option.bind_some]
        rw [← hEp.1 4 (by omega), ← hEp.1 6 (by omega), ← hEp.1 8 (by omega), ← hEp.1 3 (by omega)]
        rcases (show j = 0 ∨ j = 1 ∨ j = 2 ∨ j = 3 ∨ j = 4 by omega) with rfl | rfl | rfl | rfl | rfl <;> rfl
      · obtain ⟨w', q1, q2⟩ := hmod F1 s ar hB
        refine ⟨upd s 0 0, va_up ar 114 w', ?_, MB_a _ (by omega) (MB_s 0 (by omega) hB)⟩
        have ld : ∀ i, i < 39 → aI (mh F1 (upd s 0 0) sd (va_up ar 114 w')) 114 0 (nI i) = some (w' i) := fun i hi => by rw [m_trial hi, va_up_self]
        show g_X8_play (mh F1 s sd ar) 107 (nI j) = _
        unfold g_X8_play
        rw [mh_p0, Option.bind_some, ckO_t (mh_isO _ _ _ _), q1, bnd2_s, mh_r11]
        simp only [Option.bind_some]
        rw [show aI (mh F1 (upd s 0 0) sd (va_up ar 114 w')) 114 0 4 = some (w' 4) from ld 4 (by omega), show aI (mh F1 (upd s 0 0) sd (va_up ar 114 w')) 114 0 6 = some (w' 6) from ld 6 (by omega), show aI (mh F1 (upd s 0 0) sd (va_up ar 114 w')) 114 0 8 = some (w' 8) from ld 8 (by omega), show aI (mh F1 (upd s 0 0) sd (va_up ar 114 w')) 114 0 3 = some (w' 3) from ld 3 (by omega)]
        simp only [Option.bind_some]
        rw [← q2.1 4 (by omega), ← q2.1 6 (by omega), ← q2.1 8 (by omega), ← q2.1 3 (by omega)]
        rcases (show j = 0 ∨ j = 1 ∨ j = 2 ∨ j = 3 ∨ j = 4 by omega) with rfl | rfl | rfl | rfl | rfl <;> rfl
  · refine ⟨-2, N, T, c, G, sd, WS_mono (Nat.le_add_right B 20) hW, ⟨F, ?_, hC, fun _ _ => rfl⟩, m_keep (fun F1 s ar hB => ?_)⟩
    · show g_X7_play F 0 x = _
      unfold g_X7_play
      rw [c_isWithin, bnd2_s, if_neg hx, if_pos rfl]
    · obtain ⟨w', q1, q2⟩ := hmod F1 s ar hB
      refine ⟨upd s 0 0, va_up ar 114 w', ?_, MB_a _ (by omega) (MB_s 0 (by omega) hB)⟩
      have ne : ∀ i : Nat, i ≤ 5 → ¬ x = nI i := by
        intro i hi q
        apply hx
        rw [q]
        exact ⟨nI_pos' (by omega), nI_le (b := 5) hi (by omega)⟩
      show g_X8_play (mh F1 s sd ar) 107 x = _
      unfold g_X8_play
      rw [mh_p0, Option.bind_some, ckO_t (mh_isO _ _ _ _), q1, bnd2_s, if_neg (show ¬ x = 0 from ne 0 (by omega)), if_neg (show ¬ x = 1 from ne 1 (by omega)), if_neg (show ¬ x = 2 from ne 2 (by omega)), if_neg (show ¬ x = 3 from ne 3 (by omega)), if_neg (show ¬ x = 4 from ne 4 (by omega)), if_neg (show ¬ x = 5 from ne 5 (by omega))]
