/-! drawn -/
theorem lushr33 (x : Int64) : ∃ m, m < 2 ^ 31 ∧ Int64.toInt32 (jlushr x 33) = nI m := by
  have hk : ((33 : Int32).toInt64.toUInt64 &&& Int64.toUInt64 63) = 33 := by decide
  have hlt : (x.toUInt64 >>> 33).toNat < 2 ^ 31 := by
    rw [UInt64.toNat_shiftRight]
    have h1 := x.toUInt64.toNat_lt
    show x.toUInt64.toNat >>> 33 < 2 ^ 31
    rw [Nat.shiftRight_eq_div_pow]
    omega
  refine ⟨(x.toUInt64 >>> 33).toNat, hlt, ?_⟩
  unfold jlushr
  rw [hk, ← Int32.toInt_inj, Int64.toInt_toInt32, nI_toInt hlt]
  show (BitVec.toInt (x.toUInt64 >>> 33).toBitVec).bmod (2 ^ 32) = _
  rw [BitVec.toInt_eq_toNat_bmod]
  show Int.bmod (Int.bmod ((x.toUInt64 >>> 33).toNat : Int) (2 ^ 64)) (2 ^ 32) = _
  have hb : Int.bmod ((x.toUInt64 >>> 33).toNat : Int) (2 ^ 64) = ((x.toUInt64 >>> 33).toNat : Int) := Int.bmod_eq_of_le (by omega) (by omega)
  rw [hb, Int.bmod_eq_of_le (by omega) (by omega)]
def cmx (e : Nat) (w : Nat → Int32) : Nat → Int32 := if hN e w < 9 then cm e 0 w else w
def dwS (x : Int64) (w : Nat → Int32) : Nat → Int32 := if (jrem ((Int64.toInt32 (jlushr x 33)) / 2) 4) = 0 then cmx ((jrem (Int64.toInt32 (jlushr x 33)) 2).toNatClampNeg) w else w
def dwI (nx : Int64 → Int64) : Nat → Int64 → Int64
  | 0, x => x
  | r + 1, x => dwI nx r (nx x)
def dwn (nx : Int64 → Int64) : Nat → Int64 → (Nat → Int32) → (Nat → Int32)
  | 0, _, w => w
  | r + 1, x, w => dwn nx r (nx x) (tk true true true (dwS (nx x) w))
theorem rem2 (x : Int64) : ∃ e, (e = 0 ∨ e = 1) ∧ jrem (Int64.toInt32 (jlushr x 33)) 2 = nI e ∧ (jrem (Int64.toInt32 (jlushr x 33)) 2).toNatClampNeg = e := by
  obtain ⟨m, hm, h⟩ := lushr33 x
  have e1 : jrem (Int64.toInt32 (jlushr x 33)) 2 = nI (m % 2) := by
    rw [h]
    exact nI_rem (b := 2) hm (by omega) (by omega)
  refine ⟨m % 2, by omega, e1, ?_⟩
  rw [e1, nI_clamp (by omega)]
theorem Wf_cmx {C e : Nat} {w : Nat → Int32} (he : e = 0 ∨ e = 1) (hC : C < 100000000) (h : Wf C w) : Wf C (cmx e w) := by
  unfold cmx
  split
  · rename_i q
    exact Wf_cm (t := 0) he hC (by omega) h q
  · exact h
theorem Eqv_cmx {C e : Nat} {w w' : Nat → Int32} (he : e = 0 ∨ e = 1) (hw : Wf C w) (h : Eqv w w') : Eqv (cmx e w) (cmx e w') := by
  unfold cmx
  rw [Eqv_hN h he]
  split
  · rename_i q
    exact Eqv_cm 0 he (Wf_Lw hw) q h
  · exact h
theorem Wf_dwS {C : Nat} {x : Int64} {w : Nat → Int32} (hC : C < 100000000) (h : Wf C w) : Wf C (dwS x w) := by
  obtain ⟨e, he, -, e2⟩ := rem2 x
  unfold dwS
  rw [e2]
  split
  · exact Wf_cmx he hC h
  · exact h
theorem Eqv_dwS {C : Nat} {x : Int64} {w w' : Nat → Int32} (hw : Wf C w) (h : Eqv w w') : Eqv (dwS x w) (dwS x w') := by
  obtain ⟨e, he, -, e2⟩ := rem2 x
  unfold dwS
  rw [e2]
  split
  · exact Eqv_cmx he hw h
  · exact h
theorem Eqv_dwn {nx : Int64 → Int64} : ∀ (r C : Nat) (x : Int64) (w w' : Nat → Int32), C + r < 100000000 → Wf C w → Eqv w w' → Eqv (dwn nx r x w) (dwn nx r x w')
  | 0, _, _, _, _, _, _, h => h
  | r + 1, C, x, w, w', hC, hw, h => Eqv_dwn r (C + 1) (nx x) _ _ (by omega) (Wf_tk true true true (by omega) (Wf_dwS (by omega) hw)) (Eqv_tk true true true (by omega) (Wf_dwS (by omega) hw) (Eqv_dwS hw h))
section DR
variable {N : Nat → Nat} {T : Nat → Nat → Int32} {c : Nat → Nat} {G : Nat → Nat → Int32}
theorem c_drawL {nx : Int64 → Int64} (hnx : ∀ x, nx x = (x * (6364136223846793005 : Int64)) + (1442695040888963407 : Int64)) {m : Nat} (hm : m < 2 ^ 31) : ∀ (r k n C : Nat) (sd : Int64) (w : Nat → Int32) (F : Hp), k + r = m → r < n → C + r < 100000000 → Wf C w → isDz F 15 1 w → CS F N T c G sd → ∃ F', g_X7_drawn_b26 n F 0 (nI m) (nI k) = some ((dwn nx r sd w) 6 - G 1 6, F') ∧ CS F' N T c G (dwI nx r sd) ∧ ∀ j, 107 ≤ j → F' j = F j := by
  intro r
  induction r with
  | zero =>
    intro k n C sd w F hk hn hC hw hz hS
    obtain ⟨n, rfl⟩ : ∃ n', n = n' + 1 := ⟨n - 1, by omega⟩
    obtain ⟨wn, hd, hE⟩ := hS.2.2.2.2.1
    have g1 := dz_g11 F 15 1 w
    have g2 := dz_g11 F 10 1 wn
    rw [hz] at g1
    rw [hd] at g2
    refine ⟨F, ?_, hS, fun _ _ => rfl⟩
    rw [g_X7_drawn_b26, if_pos (nI_le (by omega) (by omega)), CS_r3 hS, Option.bind_some, g1, Option.bind_some, CS_r2 hS, Option.bind_some, g2, Option.bind_some, dwn, hE.1 6 (by omega)]
  | succ r ih =>
    intro k n C sd w F hk hn hC hw hz hS
    obtain ⟨n, rfl⟩ : ∃ n', n = n' + 1 := ⟨n - 1, by omega⟩
    have hS2 : CS (va_up F 0 (.inr (7, [.ref 1, .ref 3, .ref 10, .ref 15, .ref 20, .ref 92, .ref 95, .ref 101, .long (nx sd)]))) N T c G (nx sd) := CS_seed hS
    have pp : pV F 0 7 8 (.long (nx sd)) = some (va_up F 0 (.inr (7, [.ref 1, .ref 3, .ref 10, .ref 15, .ref 20, .ref 92, .ref 95, .ref 101, .long (nx sd)]))) := by
      simp only [pV, hS.1]
      rfl
    generalize hF2 : va_up F 0 (.inr (7, [.ref 1, .ref 3, .ref 10, .ref 15, .ref 20, .ref 92, .ref 95, .ref 101, .long (nx sd)])) = F2 at hS2 pp
    have hz2 : isDz F2 15 1 w := isDz_fr hz (fun k k1 k2 => by rw [← hF2, va_up_ne _ _ (by omega)])
    have h107 : ∀ j, 107 ≤ j → F2 j = F j := fun j hj => by rw [← hF2, va_up_ne _ _ (by omega)]
    have hwS := Wf_dwS (x := nx sd) (show C < 100000000 by omega) hw
    have hw2 := Wf_tk true true true (by omega) hwS
    have fin : ∀ F3, F3 = dz F2 15 1 (dwS (nx sd) w) → ∃ F', g_X7_drawn_b76 (g_X7_drawn_b26 n) F3 0 (nI m) (nI k) = some ((dwn nx (r + 1) sd w) 6 - G 1 6, F') ∧ CS F' N T c G (dwI nx (r + 1) sd) ∧ ∀ j, 107 ≤ j → F' j = F j := by
      intro F3 h3
      subst h3
      obtain ⟨F', i1, i2, i3⟩ := ih (k + 1) n (C + 1) (nx sd) (tk true true true (dwS (nx sd) w)) (dz F2 15 1 (tk true true true (dwS (nx sd) w))) (by omega) (by omega) (by omega) hw2 (isDz_dz _ _ _ _) (CS_trial (Or.inr rfl) hS2)
      refine ⟨F', ?_, i2, fun j hj => by rw [i3 j hj, dz_n (by omega)]; exact h107 j hj⟩
      have ct := c_tick (F := F2) (a := 15) (mg := 1) (C := C) (by omega) hwS
      rw [show (decide (¬ (1 : Int32) = 0)) = true from rfl] at ct
      rw [g_X7_drawn_b76, CS_r3 (CS_trial (Or.inr rfl) hS2), Option.bind_some, ckO_t (dz_isO _ _ _ _), ct, Option.bind_some, nI_1, dwn]
      exact i1
    rw [g_X7_drawn_b26, if_neg (nI_ge (by omega) (by omega)), CS_r8 hS, Option.bind_some, ← hnx, pp, Option.bind_some, CS_r8 hS2, Option.bind_some]
    obtain ⟨e, he, e1, e2⟩ := rem2 (nx sd)
    by_cases q : (jrem ((Int64.toInt32 (jlushr (nx sd) 33)) / 2) 4) = 0
    · obtain ⟨h, h9, hh, -⟩ := hw.2.2.2.2.2.2 e he
      have rc := c_receive (F := F2) (a := 15) (mg := 1) (w := w) he hh h9 0
      rw [hz2] at rc
      have hNe := hN_of hh h9
      rw [if_pos q, CS_r3 hS2, Option.bind_some, ckO_t (CS_i15 hS2), e1, rc]
      have hdw : dwS (nx sd) w = cmx e w := by unfold dwS; rw [if_pos q, e2]
      by_cases hf : h < 9
      · rw [if_pos hf, bnd2_s]
        refine fin _ ?_
        rw [hdw, cmx, if_pos (by omega)]
      · rw [if_neg hf, bnd2_s]
        refine fin _ ?_
        rw [hdw, cmx, if_neg (by omega)]
        exact hz2.symm
    · rw [if_neg q]
      refine fin _ ?_
      unfold dwS
      rw [if_neg q]
      exact hz2.symm
theorem m_drawL {nx : Int64 → Int64} (hnx : ∀ x, nx x = (x * (6364136223846793005 : Int64)) + (1442695040888963407 : Int64)) {F : Hp} {s : Nat → Int32} {m : Nat} (hs : s 21 = 7) (hm : m < 2 ^ 31) : ∀ (r k n C : Nat) (sd : Int64) (ar : Nat → Nat → Int32), k + r = m → r < n → C + r < 100000000 → Wf C (ar 114) → g_X8_drawn_b33 n (mh F s sd ar) 107 (nI m) (nI k) = some ((dwn nx r sd (ar 114)) 6 - ar 111 6, mh F s (dwI nx r sd) (va_up ar 114 (dwn nx r sd (ar 114)))) := by
  intro r
  induction r with
  | zero =>
    intro k n C sd ar hk hn hC hw
    obtain ⟨n, rfl⟩ : ∃ n', n = n' + 1 := ⟨n - 1, by omega⟩
    rw [g_X8_drawn_b33, if_pos (nI_le (by omega) (by omega)), mh_r11, Option.bind_some, show aI (mh F s sd ar) 114 0 6 = some (ar 114 6) from m_trial (j := 6) (by omega), Option.bind_some, mh_r7, Option.bind_some, show aI (mh F s sd ar) 111 0 6 = some (ar 111 6) from mh_ld _ _ _ _ (p := 111) (kd := 0) (n := 39) (j := 6) (by omega) rfl rfl (by omega) (by omega), Option.bind_some, dwn, dwI, va_up_eta rfl]
  | succ r ih =>
    intro k n C sd ar hk hn hC hw
    obtain ⟨n, rfl⟩ : ∃ n', n = n' + 1 := ⟨n - 1, by omega⟩
    have hwS := Wf_dwS (x := nx sd) (show C < 100000000 by omega) hw
    have hw2 := Wf_tk true true true (by omega) hwS
    have fin : ∀ ar', ar' = va_up ar 114 (dwS (nx sd) (ar 114)) → g_X8_drawn_b95 (g_X8_drawn_b33 n) (mh F s (nx sd) ar') 107 (nI m) (nI k) = some ((dwn nx (r + 1) sd (ar 114)) 6 - ar 111 6, mh F s (dwI nx (r + 1) sd) (va_up ar 114 (dwn nx (r + 1) sd (ar 114)))) := by
      intro ar' h3
      subst h3
      have i1 := ih (k + 1) n (C + 1) (nx sd) (va_up ar 114 (tk true true true (dwS (nx sd) (ar 114)))) (by omega) (by omega) (by omega) (by rw [va_up_self]; exact hw2)
      rw [va_up_self, va_up2, va_up_ne _ _ (show 111 ≠ 114 by omega)] at i1
      rw [g_X8_drawn_b95, mh_r11, Option.bind_some, ckO_t (mh_isO _ _ _ _), mt (by omega) (by rw [va_up_self]; exact hwS), Option.bind_some, nI_1, hs, va_up_self, va_up2]
      exact i1
    rw [g_X8_drawn_b33, if_neg (nI_ge (by omega) (by omega)), mh_gL, Option.bind_some, ← hnx, mh_pL, Option.bind_some, mh_gL, Option.bind_some]
    obtain ⟨e, he, e1, e2⟩ := rem2 (nx sd)
    by_cases q : (jrem ((Int64.toInt32 (jlushr (nx sd) 33)) / 2) 4) = 0
    · obtain ⟨h, h9, hh, -⟩ := hw.2.2.2.2.2.2 e he
      have hNe := hN_of hh h9
      have hdw : dwS (nx sd) (ar 114) = cmx e (ar 114) := by unfold dwS; rw [if_pos q, e2]
      rw [if_pos q, mh_r11, Option.bind_some, e1, m_isFull (by omega) he hh h9, bnd2_s]
      by_cases hf : h < 9
      · rw [if_pos hf, if_pos rfl, mh_r11, Option.bind_some, m_comeOn 0 (by omega) he hh hf, Option.bind_some]
        refine fin _ ?_
        rw [hdw, cmx, if_pos (by omega)]
      · rw [if_neg hf, if_neg (by decide)]
        refine fin _ ?_
        rw [hdw, cmx, if_neg (by omega), va_up_eta rfl]
    · rw [if_neg q]
      refine fin _ ?_
      unfold dwS
      rw [if_neg q, va_up_eta rfl]
end DR
theorem s_drawn {B : Nat} (hB : B + 1000 < 100000000) (x : Int32) : Stp1 B (fun F => g_X7_drawn F 0 x) (fun F => g_X8_drawn F 107 x) := by
  refine stp_of (fun F N T c G sd hW hC hM => ?_)
  have hw := hW.2.2.2.2.2.2.2.1
  obtain ⟨nx, hnx⟩ : ∃ nx : Int64 → Int64, ∀ x, nx x = (x * (6364136223846793005 : Int64)) + (1442695040888963407 : Int64) := ⟨fun x => (x * (6364136223846793005 : Int64)) + (1442695040888963407 : Int64), fun _ => rfl⟩
  by_cases hx : 1 ≤ x ∧ x ≤ 60
  · obtain ⟨m, hm1, hm, rfl⟩ := nI_cases1 (n := 60) rfl hx
    obtain ⟨w, g1, g2⟩ := c_tryNow hW hC
    obtain ⟨F', f1, f2, f3⟩ := c_drawL hnx (m := m) (by omega) m 0 gF B sd w (dz F 15 1 w) (by omega) (by unfold gF; omega) (by omega) (Wf_eqv g2 hw) (isDz_dz _ _ _ _) (CS_trial (Or.inr rfl) hC)
    refine ⟨(dwn nx m sd (G 1)) 6 - G 1 6, N, T, c, G, dwI nx m sd, WS_mono (Nat.le_add_right B 20) hW, ⟨F', ?_, f2, fun k hk => by rw [f3 k hk, dz_n (by omega)]⟩, m_chg (fun F1 s ar hB' => ?_)⟩
    · show g_X7_drawn F 0 (nI m) = _
      unfold g_X7_drawn
      rw [c_isWithin, bnd2_s, if_pos hx, if_neg (by decide), CS_r3 hC, Option.bind_some, CS_r2 hC, Option.bind_some, ckO_t (CS_i15 hC), g1, Option.bind_some, (Eqv_dwn m B sd _ _ (by omega) hw g2).1 6 (by omega)]
      exact f1
    · have e1 := hB'.2.2.1
      have hE := Eqv_cp (ar 114) (Wf_Lw (Wf_eqv e1 hw))
      have hE2 := Eqv_trans e1 hE
      have g := m_drawL hnx (F := F1) (s := upd s 0 0) (m := m) (by rw [upd_n _ _ (by omega)]; exact hB'.1.2.2.2.2) (by omega) m 0 gF B sd (va_up ar 114 (cp (ar 111) (ar 114))) (by omega) (by unfold gF; omega) (by omega) (by rw [va_up_self]; exact Wf_eqv hE2 hw)
      rw [va_up_self, va_up2, va_up_ne _ _ (show 111 ≠ 114 by omega), ← (Eqv_dwn m B sd _ _ (by omega) hw hE2).1 6 (by omega), ← e1.1 6 (by omega)] at g
      refine ⟨upd s 0 0, va_up ar 114 (dwn nx m sd (cp (ar 111) (ar 114))), ?_, MB_a _ (by omega) (MB_s 0 (by omega) hB')⟩
      show g_X8_drawn (mh F1 s sd ar) 107 (nI m) = _
      unfold g_X8_drawn
      rw [mh_p0, Option.bind_some, m_in _ _ 1 60 1 60 (by decide) (by decide), bnd2_s, if_pos hx, if_neg (by decide), mh_r7, Option.bind_some, mh_r11, Option.bind_some, m_lay (by omega) (by omega) (by omega), Option.bind_some]
      exact g
  · refine ⟨-2, N, T, c, G, sd, WS_mono (Nat.le_add_right B 20) hW, ⟨F, ?_, hC, fun _ _ => rfl⟩, m_keep (fun F1 s ar hB => ⟨upd s 0 0, ar, ?_, MB_s 0 (by omega) hB⟩)⟩
    · show g_X7_drawn F 0 x = _
      unfold g_X7_drawn
      rw [c_isWithin, bnd2_s, if_neg hx, if_pos rfl]
    · show g_X8_drawn (mh F1 s sd ar) 107 x = _
      unfold g_X8_drawn
      rw [mh_p0, Option.bind_some, m_in _ _ 1 60 1 60 (by decide) (by decide), bnd2_s, if_neg hx, if_pos rfl]
