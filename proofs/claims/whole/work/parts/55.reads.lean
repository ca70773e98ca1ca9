/-! calls that only read -/
theorem nI_cases {x : Int32} {n : Nat} {M : Int32} (hM : M.toInt = n) (h : 0 ≤ x ∧ x ≤ M) : ∃ j, j ≤ n ∧ x = nI j :=
  nI_of2 hM (by rw [Int32.lt_iff_toInt_lt]; have := h.1; rw [Int32.le_iff_toInt_le] at this; omega) h.2
theorem Eqv_fig {j : Nat} {w w' : Nat → Int32} (hj : j ≤ 9) (h : Eqv w w') : fig (nI j) w' = fig (nI j) w := by
  unfold fig wk
  rw [← h.1 11 (by omega), ← h.1 14 (by omega), ← h.1 25 (by omega), ← h.1 28 (by omega), ← h.1 0 (by omega), ← h.1 1 (by omega), ← h.1 2 (by omega), nI_clamp (by omega), ← h.1 (j - 1) (by omega)]
theorem s_count {B : Nat} (x : Int32) : Stp1 B (fun F => g_X7_count F 0 x) (fun F => g_X8_count F 107 x) := by
  refine stp_of (fun F N T c G sd hW hC hM => ?_)
  obtain ⟨wn, hd, hE⟩ := hC.2.2.2.2.1
  obtain ⟨p, hA⟩ := hC.2.2.2.2.2.2.1
  have h8 := hC.2.2.2.2.2.2.2.1
  have r3 := dz_g3 F 10 1 wn
  have r4 := dz_g4 F 10 1 wn
  rw [hd] at r3 r4
  have a1 : gI F 20 0 1 = some (nI (N 2)) := by simp only [gI, gV, hA.1]; rfl
  have gg : gI F 92 4 2 = some (nI (N 3)) := by simp only [gI, gV, h8.1]; rfl
  refine ⟨if x = 0 then nI (N 0) else if x = 1 then G 1 9 else if x = 2 then G 1 10 else if x = 3 then nI (N 1) else if x = 4 then nI (N 2) else if x = 5 then nI (N 3) else -2, N, T, c, G, sd, WS_mono (Nat.le_add_right B 20) hW, ⟨F, ?_, hC, fun _ _ => rfl⟩, m_keep (fun F1 s ar hB => ⟨upd s 0 0, ar, ?_, MB_s 0 (by omega) hB⟩)⟩
  · show g_X7_count F 0 x = _
    unfold g_X7_count
    rw [CS_r0 hC, CS_r2 hC, CS_r1 hC, CS_r4 hC, CS_r5 hC]
    simp only [Option.bind_some]
    rw [CS_t1 hC, r3, r4, SC_g2 hC.2.2.1, a1, gg, hE.1 9 (by omega), hE.1 10 (by omega)]
    simp only [Option.bind_some]
    repeat (split; · rfl)
    rfl
  · obtain ⟨⟨a1, a2, a3, a4, a5⟩, -, e1, -⟩ := hB
    show g_X8_count (mh F1 s sd ar) 107 x = _
    unfold g_X8_count
    rw [mh_p0, Option.bind_some, mh_g2, mh_r7, mh_g10, mh_g13, mh_g16]
    simp only [Option.bind_some]
    rw [show (9 : Int32) = nI 9 from rfl, show (10 : Int32) = nI 10 from rfl, mh_ld _ _ _ _ (p := 111) (kd := 0) (n := 39) (by omega) rfl rfl (by omega) (by omega), mh_ld _ _ _ _ (p := 111) (kd := 0) (n := 39) (by omega) rfl rfl (by omega) (by omega)]
    simp only [Option.bind_some]
    rw [upd_n _ _ (by omega), upd_n _ _ (by omega), upd_n _ _ (by omega), upd_n _ _ (by omega), a1, a2, a3, a4, e1.1 9 (by omega), e1.1 10 (by omega)]
    repeat (split; · rfl)
    rfl
section RD
variable {F : Hp} {N : Nat → Nat} {T : Nat → Nat → Int32} {c : Nat → Nat} {G : Nat → Nat → Int32} {sd : Int64}
/-- the trial becomes the link -/
theorem c_tryNow {B : Nat} (hW : WS B N T c G) (hC : CS F N T c G sd) : ∃ w, g_X1_become F 15 10 = some (dz F 15 1 w) ∧ Eqv (G 1) w := by
  obtain ⟨wn, hd, hE⟩ := hC.2.2.2.2.1
  obtain ⟨mg, wt, ht, -⟩ := hC.2.2.2.2.2.1
  have hw := hW.2.2.2.2.2.2.2.1
  obtain ⟨w, g1, g2⟩ := c_become (a := 15) (b := 10) (mg := mg) (w := wt) hd (by omega) (Or.inr rfl) (Lw_eqv hE (Wf_Lw hw))
  rw [ht] at g1
  exact ⟨w, g1, Eqv_trans hE g2⟩
/-- the trial becomes the start -/
theorem c_tryStart {B : Nat} (hW : WS B N T c G) (hC : CS F N T c G sd) : ∃ w, g_X1_become F 15 4 = some (dz F 15 1 w) ∧ Eqv (G 0) w := by
  obtain ⟨wn, hd, hE⟩ := hC.2.2.2.1
  obtain ⟨mg, wt, ht, -⟩ := hC.2.2.2.2.2.1
  have hw := hW.2.2.2.2.2.2.1.1
  obtain ⟨w, g1, g2⟩ := c_become (a := 15) (b := 4) (mg := mg) (w := wt) hd (by omega) (Or.inr rfl) (Lw_eqv hE (Wf_Lw hw))
  rw [ht] at g1
  exact ⟨w, g1, Eqv_trans hE g2⟩
theorem CS_i15 (hC : CS F N T c G sd) : isO F 15 1 = true := by
  obtain ⟨mg, wt, ht, -⟩ := hC.2.2.2.2.2.1
  have := dz_isO F 15 mg wt
  rw [ht] at this
  exact this
theorem CS_i10 (hC : CS F N T c G sd) : isO F 10 1 = true := by
  obtain ⟨wn, ht, -⟩ := hC.2.2.2.2.1
  have := dz_isO F 10 1 wn
  rw [ht] at this
  exact this
theorem c_quiL : ∀ (r k n C : Nat) (w : Nat → Int32), k + r = 100 → r < n → C + r < 100000000 → Wf C w → CS (dz F 15 1 w) N T c G sd → ∃ w', g_X7_ticksTillQuiet_b13 n (dz F 15 1 w) 0 (nI k) = some (qui r k w, dz F 15 1 w') := by
  intro r
  induction r with
  | zero =>
    intro k n C w hk hn hC hw hS
    obtain ⟨n, rfl⟩ : ∃ n', n = n' + 1 := ⟨n - 1, by omega⟩
    refine ⟨w, ?_⟩
    rw [g_X7_ticksTillQuiet_b13, if_pos (show (99 : Int32) < nI k from nI_lt (a := 99) (by omega) (by omega))]
    rfl
  | succ r ih =>
    intro k n C w hk hn hC hw hS
    obtain ⟨n, rfl⟩ : ∃ n', n = n' + 1 := ⟨n - 1, by omega⟩
    have hw2 := Wf_tk true true true (by omega) hw
    have hS2 : CS (dz F 15 1 (tk true true true w)) N T c G sd := by
      have := CS_trial (mg := 1) (w := tk true true true w) (Or.inr rfl) hS
      rw [dz_dz] at this
      exact this
    obtain ⟨w', hi⟩ := ih (k + 1) n (C + 1) (tk true true true w) (by omega) (by omega) (by omega) hw2 hS2
    rw [g_X7_ticksTillQuiet_b13, if_neg (show ¬ (99 : Int32) < nI k from nI_nlt (a := 99) (by omega) (by omega)), CS_r3 hS, Option.bind_some, ckO_t (dz_isO _ _ _ _), c_isAtRest (Or.inr rfl), bnd2_s, CS_r3 hS, Option.bind_some, ckO_t (dz_isO _ _ _ _), c_tick (by omega) hw, Option.bind_some, nI_1, qui]
    rw [show (decide (¬ (1 : Int32) = 0)) = true from rfl]
    cases hr : rest true w with
    | true =>
      refine ⟨w, ?_⟩
      simp
    | false =>
      refine ⟨w', ?_⟩
      rw [if_pos (by decide), hi]
      rfl
end RD
theorem s_ask {B : Nat} (hB : B + 1000 < 100000000) (x : Int32) : Stp1 B (fun F => g_X7_ask F 0 x) (fun F => g_X8_ask F 107 x) := by
  refine stp_of (fun F N T c G sd hW hC hM => ?_)
  obtain ⟨wn, hd, hE⟩ := hC.2.2.2.2.1
  have hw := hW.2.2.2.2.2.2.2.1
  by_cases hx : 0 ≤ x ∧ x ≤ 9
  · obtain ⟨j, hj, rfl⟩ := nI_cases (n := 9) rfl hx
    have hj10 : ¬ nI j = 10 := fun q => by have := (nI_eq (a := j) (b := 10) (by omega) (by omega)).mp q; omega
    refine ⟨fig (nI j) (G 1), N, T, c, G, sd, WS_mono (Nat.le_add_right B 20) hW, ⟨F, ?_, hC, fun _ _ => rfl⟩, m_keep (fun F1 s ar hB => ⟨upd s 0 0, ar, ?_, MB_s 0 (by omega) hB⟩)⟩
    · have g := c_figure (F := F) (a := 10) (mg := 1) hj (Wf_eqv hE hw)
      rw [hd] at g
      show g_X7_ask F 0 (nI j) = _
      unfold g_X7_ask
      rw [if_neg hj10, c_isWithin, bnd2_s, if_pos hx, if_neg (by decide), CS_r2 hC, Option.bind_some, ckO_t (CS_i10 hC), g, bnd2_s, Eqv_fig hj hE]
    · obtain ⟨-, -, e1, -⟩ := hB
      show g_X8_ask (mh F1 s sd ar) 107 (nI j) = _
      unfold g_X8_ask
      rw [mh_p0, Option.bind_some, m_in _ _ 0 9 0 9 (by decide) (by decide), bnd2_s, if_pos hx, if_neg (by decide), mh_r7, Option.bind_some, m_told (by omega) hj (Wf_eqv e1 hw), bnd2_s, Eqv_fig hj e1]
  · by_cases h10 : x = 10
    · subst h10
      obtain ⟨w, g1, g2⟩ := c_tryNow hW hC
      have hw2 := Wf_eqv g2 hw
      obtain ⟨w', g3⟩ := c_quiL (F := F) 100 0 gF B w (by omega) (by unfold gF; omega) (by omega) hw2 (CS_trial (Or.inr rfl) hC)
      refine ⟨qui 100 0 (G 1), N, T, c, G, sd, WS_mono (Nat.le_add_right B 20) hW, ⟨dz F 15 1 w', ?_, CS_trial (Or.inr rfl) hC, fun k hk => dz_n (by omega)⟩, m_keep (fun F1 s ar hB' => ?_)⟩
      · show g_X7_ask F 0 10 = _
        unfold g_X7_ask g_X7_ticksTillQuiet
        rw [if_pos rfl, ckO_t (CS_o hC), CS_r3 hC, Option.bind_some, CS_r2 hC, Option.bind_some, ckO_t (CS_i15 hC), g1, Option.bind_some, show (0 : Int32) = nI 0 from rfl, g3, bnd2_s, Eqv_qui 0 (by omega) hw g2]
      · obtain ⟨-, -, e1, -⟩ := id hB'
        obtain ⟨wq, g⟩ := m_quiet (F := F1) (s := upd s 0 0) (sd := sd) (ar := ar) (C := B) (by rw [upd_n _ _ (by omega)]; exact hB'.1.2.2.2.2) (by omega) (Wf_eqv e1 hw)
        refine ⟨upd s 0 0, va_up ar 114 wq, ?_, MB_a _ (by omega) (MB_s 0 (by omega) hB')⟩
        show g_X8_ask (mh F1 s sd ar) 107 10 = _
        unfold g_X8_ask
        rw [mh_p0, Option.bind_some, m_in _ _ 0 9 0 9 (by decide) (by decide), bnd2_s, if_pos (by decide), if_pos rfl, mh_r7, Option.bind_some, ckO_t (mh_isO _ _ _ _), g, bnd2_s, Eqv_qui 0 (by omega) hw e1]
    · refine ⟨-2, N, T, c, G, sd, WS_mono (Nat.le_add_right B 20) hW, ⟨F, ?_, hC, fun _ _ => rfl⟩, m_keep (fun F1 s ar hB => ⟨upd s 0 0, ar, ?_, MB_s 0 (by omega) hB⟩)⟩
      · show g_X7_ask F 0 x = _
        unfold g_X7_ask
        rw [if_neg h10, c_isWithin, bnd2_s, if_neg hx, if_pos rfl]
      · show g_X8_ask (mh F1 s sd ar) 107 x = _
        unfold g_X8_ask
        rw [mh_p0, Option.bind_some, m_in _ _ 0 9 0 9 (by decide) (by decide), bnd2_s, if_neg hx, if_pos rfl, if_neg h10]
theorem end_cases {x : Int32} (h : x = 0 ∨ x = 1) : ∃ e, (e = 0 ∨ e = 1) ∧ x = nI e := by
  rcases h with rfl | rfl
  · exact ⟨0, Or.inl rfl, rfl⟩
  · exact ⟨1, Or.inr rfl, rfl⟩
theorem s_held {B : Nat} (x y : Int32) : Stp1 B (fun F => g_X7_held F 0 x y) (fun F => g_X8_held F 107 x y) := by
  refine stp_of (fun F N T c G sd hW hC hM => ?_)
  obtain ⟨wn, hd, hE⟩ := hC.2.2.2.2.1
  have hw := hW.2.2.2.2.2.2.2.1
  by_cases hx : x = 0 ∨ x = 1
  · obtain ⟨e, he, rfl⟩ := end_cases hx
    obtain ⟨h, h9, hh, hl⟩ := hw.2.2.2.2.2.2 e he
    have hNe := hN_of hh h9
    have val : ∀ w', Eqv (G 1) w' → (if 0 ≤ y ∧ y ≤ w' (15 + 14 * e) - 1 then w' (16 + 14 * e + y.toNatClampNeg) else -9) = (if 0 ≤ y ∧ y ≤ G 1 (15 + 14 * e) - 1 then G 1 (16 + 14 * e + y.toNatClampNeg) else -9) := by
      intro w' hE'
      rw [← hE'.1 (15 + 14 * e) (by omega), hh]
      by_cases hy : 0 ≤ y ∧ y ≤ nI h - 1
      · rw [if_pos hy, if_pos hy]
        have h0 : 0 < h := by
          rcases Nat.eq_zero_or_pos h with q | q
          · subst q
            exfalso
            have h1 := hy.1
            have h2 := hy.2
            have h3 : nI 0 - 1 = -1 := by decide
            rw [h3] at h2
            rw [Int32.le_iff_toInt_le] at h1 h2
            have h4 : (-1 : Int32).toInt = -1 := by decide
            have h5 : (0 : Int32).toInt = 0 := by decide
            omega
          · exact q
        have e1 : nI h - 1 = nI (h - 1) := by
          obtain ⟨k, rfl⟩ : ∃ k, h = k + 1 := ⟨h - 1, by omega⟩
          exact nI_pred k
        rw [e1] at hy
        obtain ⟨j, hj, rfl⟩ := nI_cases (M := nI (h - 1)) (n := h - 1) (nI_toInt (by omega)) hy
        rw [nI_clamp (by omega)]
        exact (hE'.2 e he j (by show j < hN e (G 1); omega)).symm
      · rw [if_neg hy, if_neg hy]
    refine ⟨if 0 ≤ y ∧ y ≤ G 1 (15 + 14 * e) - 1 then G 1 (16 + 14 * e + y.toNatClampNeg) else -9, N, T, c, G, sd, WS_mono (Nat.le_add_right B 20) hW, ⟨F, ?_, hC, fun _ _ => rfl⟩, m_keep (fun F1 s ar hB => ⟨upd s 0 0, ar, ?_, MB_s 0 (by omega) hB⟩)⟩
    · have g1 := c_side (F := F) (a := 10) (mg := 1) (w := wn) he
      have g2 := c_letterAt (F := F) (a := 10) (mg := 1) (w := wn) he (h := h) (by rw [← hE.1 _ (by omega)]; exact hh) h9 y
      have g3 := dz_isS F 10 1 wn he
      rw [hd] at g1 g2 g3
      show g_X7_held F 0 (nI e) y = _
      unfold g_X7_held
      rw [c_isEnd, bnd2_s, if_pos hx, if_neg (by decide), CS_r2 hC, Option.bind_some, ckO_t (CS_i10 hC), g1, bnd2_s, ckO_t g3, g2, bnd2_s, val wn hE]
    · obtain ⟨-, -, e1, -⟩ := hB
      have v := val _ e1
      have ld : ∀ i, i < 39 → aI (mh F1 (upd s 0 0) sd ar) 111 0 (nI i) = some (ar 111 i) := fun i hi => mh_ld _ _ _ _ (p := 111) (kd := 0) (n := 39) (by omega) rfl rfl hi (by omega)
      show g_X8_held (mh F1 s sd ar) 107 (nI e) y = _
      unfold g_X8_held
      rw [mh_p0, Option.bind_some, m_noEnd, bnd2_s, if_pos hx, if_pos rfl, mh_r7, Option.bind_some, m_at, bnd2_s, nI_p4, show 11 + 14 * e + 4 = 15 + 14 * e by omega, ld _ (by omega), Option.bind_some, m_in _ y 0 (ar 111 (15 + 14 * e) - 1) 0 _ (by decide) rfl, bnd2_s]
      by_cases hy : 0 ≤ y ∧ y ≤ ar 111 (15 + 14 * e) - 1
      · rw [if_pos hy] at v
        rw [if_pos hy, if_neg (by decide), ← v]
        have hh' : ar 111 (15 + 14 * e) = nI h := by rw [← e1.1 _ (by omega)]; exact hh
        rw [hh'] at hy
        have h0 : 0 < h := by
          rcases Nat.eq_zero_or_pos h with q | q
          · subst q
            exfalso
            have h1 := hy.1
            have h2 := hy.2
            have h3 : nI 0 - 1 = -1 := by decide
            rw [h3] at h2
            rw [Int32.le_iff_toInt_le] at h1 h2
            have h4 : (-1 : Int32).toInt = -1 := by decide
            have h5 : (0 : Int32).toInt = 0 := by decide
            omega
          · exact q
        have e2 : nI h - 1 = nI (h - 1) := by
          obtain ⟨k, rfl⟩ : ∃ k, h = k + 1 := ⟨h - 1, by omega⟩
          exact nI_pred k
        rw [e2] at hy
        obtain ⟨j, hj, rfl⟩ := nI_cases (M := nI (h - 1)) (n := h - 1) (nI_toInt (by omega)) hy
        rw [mh_r7, Option.bind_some, m_at, bnd2_s, nI_p5, nI_add, ld _ (by omega), Option.bind_some, nI_clamp (by omega), show 11 + 14 * e + 5 + j = 16 + 14 * e + j by omega]
      · rw [if_neg hy] at v
        rw [if_neg hy, if_pos rfl, ← v]
  · refine ⟨-1, N, T, c, G, sd, WS_mono (Nat.le_add_right B 20) hW, ⟨F, ?_, hC, fun _ _ => rfl⟩, m_keep (fun F1 s ar hB => ⟨upd s 0 0, ar, ?_, MB_s 0 (by omega) hB⟩)⟩
    · show g_X7_held F 0 x y = _
      unfold g_X7_held
      rw [c_isEnd, bnd2_s, if_neg hx, if_pos rfl]
    · show g_X8_held (mh F1 s sd ar) 107 x y = _
      unfold g_X8_held
      rw [mh_p0, Option.bind_some, m_noEnd, bnd2_s, if_neg hx, if_neg (by decide)]
