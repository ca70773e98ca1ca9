/-! link -/
theorem AC_0 {F : Hp} {G G' : Nat → Nat → Int32} {p : Nat → Nat} (h : AC F 0 G p) : AC F 0 G' p := by
  obtain ⟨h1, h2, h3, h4, h5⟩ := h
  refine ⟨h1, h2, h3, h4, fun j hj => ?_⟩
  obtain ⟨w, q1, -⟩ := h5 j hj
  exact ⟨w, q1, fun q => absurd q (by omega)⟩
theorem s_link {B : Nat} (hBB : 1000 ≤ B) : Stp1 B (fun F => g_X7_link F 0) (fun F => g_X8_link F 107) := by
  refine stp_of (fun F N T c G sd hW hC hM => ?_)
  have h80 := hW.1
  by_cases hf : fp (T 0) (N 0) 0 = -9
  · obtain ⟨hok, hn9⟩ := fp_ok (T 0) (N 0) 0 (by omega) hf
    obtain ⟨M, hMN⟩ : ∃ M, N 0 = 9 + M := ⟨N 0 - 9, by omega⟩
    have evs : ∀ k, k < M → ∃ j, 1 ≤ j ∧ j ≤ 11 ∧ cd (T 0 (9 + k)) = nI j ∧ T 0 (9 + k) = nI (enc j) := fun k hk => ev_n (p := 9 + k) (by omega) (hok (9 + k) (by omega) (by omega))
    have hfr : fresh (pgT (T 0)) := fresh_pgT (fun i i1 i2 => hok i (by omega) (by omega))
    obtain ⟨c', hc'⟩ : ∃ c' : Nat → Nat, ∀ k, c' k = (cd (T 0 (9 + k))).toNatClampNeg := ⟨fun k => (cd (T 0 (9 + k))).toNatClampNeg, fun _ => rfl⟩
    have cj : ∀ k, k < M → 1 ≤ c' k ∧ c' k ≤ 11 ∧ cd (T 0 (9 + k)) = nI (c' k) ∧ T 0 (9 + k) = nI (enc (c' k)) := fun k hk => by
      obtain ⟨j, j1, j2, j3, j4⟩ := evs k hk
      have e : c' k = j := by rw [hc', j3, nI_clamp (by omega)]
      rw [e]
      exact ⟨j1, j2, j3, j4⟩
    have hEv : EvOk c' M := ⟨by omega, fun k hk => ⟨(cj k hk).1, (cj k hk).2.1⟩⟩
    have hwr : Wf (0 + 9 * M) (runE true true true 0 c' M 0 0 (pgT (T 0))) := Wf_runE hEv M 0 0 0 _ (by omega) (by omega) hfr.1
    refine ⟨runE true true true 0 c' M 0 0 (pgT (T 0)) 3, va_up (va_up N 1 M) 2 0, va_up T 3 (upd (upd (T 3) 0 0) 1 0), c', va_up (va_up G 0 (pgT (T 0))) 1 (runE true true true 0 c' M 0 0 (pgT (T 0))), sd, ?_, ?_, m_chg (fun F1 s ar hB => ?_)⟩
    · obtain ⟨h1, h2, h3, h4, h5, h6, h7, h8, h9, h10⟩ := hW
      refine ⟨h1, hEv, by show 0 ≤ 14; omega, h4, Or.inl rfl, Or.inl rfl, ?_, ?_, fun j hj => absurd (show j < 0 from hj) (by omega), fun i hi hk => ?_⟩
      · rw [va_up_ne _ _ (by omega), va_up_self]
        exact hfr
      · rw [va_up_self]
        exact Wf_mono (by omega) hwr
      · exfalso
        have hk' : upd (upd (T 3) 0 0) 1 0 i = 1 := hk
        rcases (show i = 0 ∨ i = 1 by omega) with rfl | rfl
        · exact absurd (show (0 : Int32) = 1 from hk') (by decide)
        · exact absurd (show (0 : Int32) = 1 from hk') (by decide)
    · obtain ⟨h0, ⟨h1, h2⟩, h3, ⟨w4, a4, b4⟩, ⟨w5, a5, b5⟩, ⟨mg, w6, a6, b6⟩, ⟨p, h7⟩, ⟨h8, h9, h10⟩, ⟨h11, w12, a12, b12⟩, h13, w14, a14, b14⟩ := id hC
      have hfr0 := hW.2.2.2.2.2.2.1
      obtain ⟨FB, g1, g2, ⟨f9, g3, g3'⟩, g4, g5⟩ := c_sbec (c := c) hMN h80 a4 h1 h2 h3
      have hEc : Eqv (pgT (T 0)) (cw w4 (T 0)) := Eqv_cw (T 0) (fun i hi => by rw [← b4.1 i (by omega)]; exact hfr0.2.1 i hi) (by rw [← b4.1 15 (by omega)]; exact hfr0.2.2.1) (by rw [← b4.1 29 (by omega)]; exact hfr0.2.2.2)
      have hSB : SC FB M c' := ⟨g2, ⟨f9, g3, fun k hk => by rw [g3' k hk]; exact (cj k hk).2.2.2⟩, hEv⟩
      have d10 : isDz FB 10 1 w5 := isDz_fr a5 (fun k k1 k2 => g5 k (by omega))
      obtain ⟨w2, q1, q2⟩ := c_become (a := 10) (b := 4) (mg := 1) (w := w5) g4 (by omega) (Or.inr rfl) (Lw_eqv hEc (Wf_Lw hfr.1))
      rw [d10] at q1
      have hE2 := Eqv_trans hEc q2
      have pf := c_perform (F := FB) (a := 10) (mg := 1) (gone := 0) (C := 0) (w := w2) (by omega) hSB (by omega) (Wf_eqv hE2 hfr.1)
      rw [show (decide (¬ (1 : Int32) = 0)) = true from rfl] at pf
      have hEr := Eqv_runE (mg := true) (u0 := true) (u1 := true) (gone := 0) hEv M 0 0 0 _ _ (by omega) (by omega) hfr.1 hE2
      generalize hwrd : runE true true true 0 c' M 0 0 w2 = wr at pf hEr
      have rt : ∀ H : Hp, H 0 = F 0 → gR H 0 7 1 = some 3 ∧ gR H 0 7 2 = some 10 ∧ gR H 0 7 4 = some 20 ∧ gR H 0 7 6 = some 95 ∧ gR H 0 7 7 = some 101 := fun H hH => by
        refine ⟨?_, ?_, ?_, ?_, ?_⟩ <;> (simp only [gR, gV, hH, h0]; rfl)
      have f1 : ∀ k, k < 3 ∨ 15 ≤ k → dz FB 10 1 wr k = F k := fun k hk => by rw [dz_n (by omega), g5 k (by omega)]
      have hA1 : AC (dz FB 10 1 wr) (N 2) G p := AC_fr h7 (fun k k1 k2 => f1 k (by omega))
      have hA2 := AC_dec (d' := 0) hA1 (by omega)
      have p20 : pV (dz FB 10 1 wr) 20 0 1 (.int 0) = some (va_up (dz FB 10 1 wr) 20 (.inr (0, [.ref 21, .int (nI 0)]))) := AC_p (nI 0) hA1
      generalize hF2 : va_up (dz FB 10 1 wr) 20 (.inr (0, [.ref 21, .int (nI 0)])) = F2 at p20 hA2
      have f2 : ∀ k, k ≠ 20 → F2 k = dz FB 10 1 wr k := fun k hk => by rw [← hF2, va_up_ne _ _ hk]
      have k95 : F2 95 = .inr (5, [.ref 96, .int (T 3 0)]) := by rw [f2 95 (by omega), f1 95 (by omega)]; exact h11
      have p95 : pZ F2 95 5 1 0 = some (va_up F2 95 (.inr (5, [.ref 96, .int 0]))) := by
        unfold pZ
        rw [if_pos (Or.inl rfl)]
        simp only [pV, k95]
        rfl
      have k101 : va_up F2 95 (.inr (5, [.ref 96, .int 0])) 101 = .inr (5, [.ref 102, .int (T 3 1)]) := by rw [va_up_ne _ _ (by omega), f2 101 (by omega), f1 101 (by omega)]; exact h13
      have p101 : pZ (va_up F2 95 (.inr (5, [.ref 96, .int 0]))) 101 5 1 0 = some (va_up (va_up F2 95 (.inr (5, [.ref 96, .int 0]))) 101 (.inr (5, [.ref 102, .int 0]))) := by
        unfold pZ
        rw [if_pos (Or.inl rfl)]
        simp only [pV, k101]
        rfl
      have fz : ∀ k, k ≠ 95 → k ≠ 101 → va_up (va_up F2 95 (.inr (5, [.ref 96, .int 0]))) 101 (.inr (5, [.ref 102, .int 0])) k = F2 k := fun k k1 k2 => by rw [va_up_ne _ _ k2, va_up_ne _ _ k1]
      have z95 : va_up (va_up F2 95 (.inr (5, [.ref 96, .int 0]))) 101 (.inr (5, [.ref 102, .int 0])) 95 = .inr (5, [.ref 96, .int 0]) := by rw [va_up_ne _ _ (by omega), va_up_self]
      have z101 : va_up (va_up F2 95 (.inr (5, [.ref 96, .int 0]))) 101 (.inr (5, [.ref 102, .int 0])) 101 = .inr (5, [.ref 102, .int 0]) := va_up_self _ _ _
      generalize hFZ : va_up (va_up F2 95 (.inr (5, [.ref 96, .int 0]))) 101 (.inr (5, [.ref 102, .int 0])) = FZ at p101 fz z95 z101
      have fo : ∀ k, (k < 3 ∨ 15 ≤ k) → k ≠ 20 → k ≠ 95 → k ≠ 101 → FZ k = F k := fun k k0 k1 k2 k3 => by rw [fz k k2 k3, f2 k k1, f1 k k0]
      have fB : ∀ k, 3 ≤ k → k < 10 → FZ k = FB k := fun k k1 k2 => by rw [fz k (by omega) (by omega), f2 k (by omega), dz_n (by omega)]
      have f10 : ∀ k, 10 ≤ k → k < 15 → FZ k = dz FB 10 1 wr k := fun k k1 k2 => by rw [fz k (by omega) (by omega), f2 k (by omega)]
      have dZ : isDz FZ 10 1 wr := isDz_fr (isDz_dz FB 10 1 wr) (fun k k1 k2 => f10 k (by omega) (by omega))
      have g8 := dz_g8 FZ 10 1 wr
      rw [dZ] at g8
      refine ⟨FZ, ?_, ?_, fun k hk => fo k (by omega) (by omega) (by omega) (by omega)⟩
      · show g_X7_link F 0 = _
        unfold g_X7_link
        rw [CS_r0 hC, Option.bind_some, ckO_t (CS_to hC), c_fault hW hC, bnd2_s, if_pos hf, CS_r1 hC, Option.bind_some, CS_r0 hC, Option.bind_some, ckO_t (SC_o h3), g1, Option.bind_some, (rt FB (g5 0 (by omega))).2.1, Option.bind_some, (rt FB (g5 0 (by omega))).1, Option.bind_some, SC_g0 hSB, Option.bind_some, ckO_t (isO_dz d10), q1, Option.bind_some, (rt (dz FB 10 1 w2) (by rw [dz_n (by omega), g5 0 (by omega)])).1, Option.bind_some, (rt (dz FB 10 1 w2) (by rw [dz_n (by omega), g5 0 (by omega)])).2.1, Option.bind_some, ckO_t (SC_o (SC_dz (by omega) hSB)), pf, Option.bind_some, (rt (dz FB 10 1 wr) (f1 0 (by omega))).2.2.1, Option.bind_some, p20, Option.bind_some, (rt F2 (by rw [f2 0 (by omega), f1 0 (by omega)])).2.2.2.1, Option.bind_some, p95, Option.bind_some, (rt (va_up F2 95 (.inr (5, [.ref 96, .int 0]))) (by rw [va_up_ne _ _ (by omega), f2 0 (by omega), f1 0 (by omega)])).2.2.2.2, Option.bind_some, p101, Option.bind_some, (rt FZ (fo 0 (by omega) (by omega) (by omega) (by omega))).2.1, Option.bind_some, g8, Option.bind_some, hEr.1 3 (by omega)]
      · refine ⟨by rw [fo 0 (by omega) (by omega) (by omega) (by omega)]; exact h0, ⟨by rw [fo 1 (by omega) (by omega) (by omega) (by omega)]; exact h1, by rw [fo 2 (by omega) (by omega) (by omega) (by omega)]; exact h2⟩, SC_fr hSB (fB 3 (by omega) (by omega)) (fB 9 (by omega) (by omega)), ⟨cw w4 (T 0), isDz_fr g4 (fun k k1 k2 => fB k (by omega) (by omega)), ?_⟩, ⟨wr, dZ, by rw [va_up_self]; exact hEr⟩, ⟨mg, w6, isDz_fr a6 (fun k k1 k2 => fo k (by omega) (by omega) (by omega) (by omega)), b6⟩, ⟨p, AC_0 (AC_fr hA2 (fun k k1 k2 => fz k (by omega) (by omega)))⟩, ⟨by rw [fo 92 (by omega) (by omega) (by omega) (by omega)]; exact h8, by rw [fo 93 (by omega) (by omega) (by omega) (by omega)]; exact h9, by rw [fo 94 (by omega) (by omega) (by omega) (by omega)]; exact h10⟩, ⟨z95, w12, isDz_fr a12 (fun k k1 k2 => fo k (by omega) (by omega) (by omega) (by omega)), fun z => absurd (show (0 : Int32) = 1 from z) (by decide)⟩, z101, w14, isDz_fr a14 (fun k k1 k2 => fo k (by omega) (by omega) (by omega) (by omega)), fun z => absurd (show (0 : Int32) = 1 from z) (by decide)⟩
        rw [va_up_ne _ _ (by omega), va_up_self]
        exact hEc
    · obtain ⟨s', ar', g1, g2, g3⟩ := m_read (F := F1) (sd := sd) hW (MB_s 0 (by omega) hB : MB (upd s 0 0) ar N T c G)
      obtain ⟨j1, j2, j3⟩ := g3 hf
      have hE1 : Eqv (pgT (T 0)) (ar' 109) := Eqv_39 (Wf_Lw hfr.1) (fun i hi => by rw [j3]; exact pgT_39 (T 0) _ i hi)
      have hE2 : Eqv (pgT (T 0)) (cp (ar' 109) (ar' 112)) := Eqv_trans hE1 (Eqv_cp _ (Wf_Lw (Wf_eqv hE1 hfr.1)))
      have hE3 : Eqv (pgT (T 0)) (cp (cp (ar' 109) (ar' 112)) (ar' 111)) := Eqv_trans hE2 (Eqv_cp _ (Wf_Lw (Wf_eqv hE2 hfr.1)))
      obtain ⟨⟨m1, m2, m3, m4, m5⟩, ⟨n1, n2, n3, n4⟩, r1, r2, r3, r4, r5⟩ := g2
      obtain ⟨ar3, i1, i2, i3, i4, i5⟩ := m_lkE (F := F1) (sd := sd) (s := upd s' 10 (nI M)) (c := c') (m := M) (by rw [upd_n _ _ (by omega)]; exact m5) (upd_s _ _ _) hEv M 0 gF 0 (va_up (va_up ar' 112 (cp (ar' 109) (ar' 112))) 111 (cp (cp (ar' 109) (ar' 112)) (ar' 111))) (by omega) (by unfold gF; omega) (by omega) (by rw [va_up_self]; exact Wf_eqv hE3 hfr.1) (fun k hk => by rw [va_up_ne _ _ (by omega), va_up_ne _ _ (by omega), j2 k (by omega)]; exact (cj k hk).2.2.1) (fun k hk => absurd hk (by omega))
      rw [va_up_self] at i1 i2
      rw [dE_run c' M 0 0] at i1 i2
      have hEr := Eqv_runE (mg := true) (u0 := true) (u1 := true) (gone := 0) hEv M 0 0 0 _ _ (by omega) (by omega) hfr.1 hE3
      refine ⟨upd (upd s' 10 (nI M)) 13 0, ar3, ?_, ⟨⟨m1, rfl, rfl, m4, m5⟩, ⟨?_, ?_, ?_, ?_⟩, ?_, ?_, i3, fun j hj => absurd (show j < 0 from hj) (by omega), fun i hi hk => ?_⟩⟩
      · show g_X8_link (mh F1 s sd ar) 107 = _
        unfold g_X8_link
        rw [mh_p0, Option.bind_some, ckO_t (mh_isO _ _ _ _), g1, bnd2_s, if_pos hf, mh_r4, Option.bind_some, mh_r8, Option.bind_some, m_lay (by omega) (by omega) (by omega), Option.bind_some, mh_g6, Option.bind_some, j1, mh_p10, Option.bind_some, mh_r8, Option.bind_some, mh_r7, Option.bind_some, m_lay (by omega) (by omega) (by omega), Option.bind_some, va_up_self, va_up_ne _ _ (show 111 ≠ 112 by omega), show N 0 - 9 = M by omega, hEr.1 3 (by omega)]
        exact i1
      · rw [i5 108 (by omega) (by omega) (by omega), va_up_ne _ _ (by omega), va_up_ne _ _ (by omega)]; exact n1
      · rw [i5 118 (by omega) (by omega) (by omega), va_up_ne _ _ (by omega), va_up_ne _ _ (by omega)]; exact n2
      · rw [i5 119 (by omega) (by omega) (by omega), va_up_ne _ _ (by omega), va_up_ne _ _ (by omega)]; exact n3
      · rw [i4, va_up_ne _ _ (by omega), va_up_ne _ _ (by omega), n4]; rfl
      · rw [va_up_self, i2]; exact hEr
      · rw [va_up_ne _ _ (by omega), va_up_self, i5 112 (by omega) (by omega) (by omega), va_up_ne _ _ (by omega), va_up_self]; exact hE2
      · exfalso
        have hk' : upd (upd (T 3) 0 0) 1 0 i = 1 := hk
        rcases (show i = 0 ∨ i = 1 by omega) with rfl | rfl
        · exact absurd (show (0 : Int32) = 1 from hk') (by decide)
        · exact absurd (show (0 : Int32) = 1 from hk') (by decide)
  · refine ⟨-3, N, T, c, G, sd, WS_mono (Nat.le_add_right B 20) hW, ⟨F, ?_, hC, fun _ _ => rfl⟩, m_keep (fun F1 s ar hB => ?_)⟩
    · show g_X7_link F 0 = _
      unfold g_X7_link
      rw [CS_r0 hC, Option.bind_some, ckO_t (CS_to hC), c_fault hW hC, bnd2_s, if_neg hf]
    · obtain ⟨s', ar', g1, g2, -⟩ := m_read (F := F1) (sd := sd) hW (MB_s 0 (by omega) hB : MB (upd s 0 0) ar N T c G)
      refine ⟨s', ar', ?_, g2⟩
      show g_X8_link (mh F1 s sd ar) 107 = _
      unfold g_X8_link
      rw [mh_p0, Option.bind_some, ckO_t (mh_isO _ _ _ _), g1, bnd2_s, if_neg hf]
