/-! the easy calls: text, seen, seed, count -/
def MB (s : Nat → Int32) (ar : Nat → Nat → Int32) (N : Nat → Nat) (T : Nat → Nat → Int32) (c : Nat → Nat) (G : Nat → Nat → Int32) : Prop :=
  (s 2 = nI (N 0) ∧ s 10 = nI (N 1) ∧ s 13 = nI (N 2) ∧ s 16 = nI (N 3) ∧ s 21 = 7) ∧ (ar 108 = T 0 ∧ ar 118 = T 1 ∧ ar 119 = T 2 ∧ ar 117 = T 3) ∧ Eqv (G 1) (ar 111) ∧ Eqv (G 0) (ar 112) ∧ (∀ k, k < N 1 → ar 113 k = nI (c k)) ∧ (∀ j, j < N 2 → Eqv (G (2 + j)) (fun i => ar 115 (39 * j + i))) ∧ ∀ i, i < 2 → T 3 i = 1 → Eqv (G (16 + i)) (fun k => ar 116 (39 * i + k))
section EZ
variable {F : Hp} {s : Nat → Int32} {ar : Nat → Nat → Int32} {N : Nat → Nat} {T : Nat → Nat → Int32} {c : Nat → Nat} {G : Nat → Nat → Int32} {sd : Int64}
theorem MS_of (h : MB s ar N T c G) : MS (mh F s sd ar) N T c G sd := ⟨s, ar, mh_mh F s s sd sd ar ar, h⟩
theorem MB_s {k : Nat} (x : Int32) (hk : k = 0 ∨ k = 3 ∨ k = 6) (h : MB s ar N T c G) : MB (upd s k x) ar N T c G := by
  obtain ⟨⟨a1, a2, a3, a4, a5⟩, r⟩ := h
  refine ⟨⟨?_, ?_, ?_, ?_, ?_⟩, r⟩
  · rw [upd_n _ _ (by omega)]; exact a1
  · rw [upd_n _ _ (by omega)]; exact a2
  · rw [upd_n _ _ (by omega)]; exact a3
  · rw [upd_n _ _ (by omega)]; exact a4
  · rw [upd_n _ _ (by omega)]; exact a5
theorem MB_a {p : Nat} (f : Nat → Int32) (hp : p = 109 ∨ p = 110 ∨ p = 114 ∨ p = 120) (h : MB s ar N T c G) : MB s (va_up ar p f) N T c G := by
  obtain ⟨q, ⟨a1, a2, a3, a4⟩, b1, b2, b3, b4, b5⟩ := h
  have n : ∀ k, k ≠ p → va_up ar p f k = ar k := fun k hk => va_up_ne _ _ hk
  refine ⟨q, ⟨?_, ?_, ?_, ?_⟩, ?_, ?_, fun k hk => ?_, fun j hj => ?_, fun i hi hk => ?_⟩
  · rw [n _ (by omega)]; exact a1
  · rw [n _ (by omega)]; exact a2
  · rw [n _ (by omega)]; exact a3
  · rw [n _ (by omega)]; exact a4
  · rw [n _ (by omega)]; exact b1
  · rw [n _ (by omega)]; exact b2
  · rw [n _ (by omega)]; exact b3 k hk
  · rw [n _ (by omega)]; exact b4 j hj
  · rw [n _ (by omega)]; exact b5 i hi hk
theorem mh_lo {F1 : Hp} {s' : Nat → Int32} {sd' : Int64} {ar' : Nat → Nat → Int32} : ∀ k, k < 107 → mh F1 s' sd' ar' k = mh F1 s sd ar k := fun k hk => by rw [mh_n (by omega), mh_n (by omega)]
/-- a call that changes nothing but scratch, on the reference's side -/
theorem m_keep {α : Type} {gm : Hp → Option (α × Hp)} {r : α} (h : ∀ (F1 : Hp) s ar, MB s ar N T c G → ∃ s' ar', gm (mh F1 s sd ar) = some (r, mh F1 s' sd ar') ∧ MB s' ar' N T c G) : ∀ F1, MS F1 N T c G sd → ∃ F2, gm F1 = some (r, F2) ∧ MS F2 N T c G sd ∧ ∀ k, k < 107 → F2 k = F1 k := by
  intro F1 ⟨s, ar, hF, hB⟩
  obtain ⟨s', ar', g1, g2⟩ := h F1 s ar hB
  rw [hF] at g1
  refine ⟨_, g1, MS_of g2, fun k hk => mh_n (by omega)⟩
theorem m_chg {α : Type} {gm : Hp → Option (α × Hp)} {r : α} {N' : Nat → Nat} {T' : Nat → Nat → Int32} {c' : Nat → Nat} {G' : Nat → Nat → Int32} {sd' : Int64} (h : ∀ (F1 : Hp) s ar, MB s ar N T c G → ∃ s' ar', gm (mh F1 s sd ar) = some (r, mh F1 s' sd' ar') ∧ MB s' ar' N' T' c' G') : ∀ F1, MS F1 N T c G sd → ∃ F2, gm F1 = some (r, F2) ∧ MS F2 N' T' c' G' sd' ∧ ∀ k, k < 107 → F2 k = F1 k := by
  intro F1 ⟨s, ar, hF, hB⟩
  obtain ⟨s', ar', g1, g2⟩ := h F1 s ar hB
  rw [hF] at g1
  refine ⟨_, g1, MS_of g2, fun k hk => mh_n (by omega)⟩
theorem CS_text {F1 : Hp} {n : Nat} {t : Nat → Int32} (h : CS F N T c G sd) (h1 : F1 1 = .inr (6, [.ref 2, .int (nI n)])) (h2 : F1 2 = .inl (0, 80, .inl t)) (hf : ∀ k, k ≠ 1 → k ≠ 2 → F1 k = F k) : CS F1 (va_up N 0 n) (va_up T 0 t) c G sd := by
  obtain ⟨h0, -, h3, ⟨w4, a4, b4⟩, ⟨w5, a5, b5⟩, ⟨mg, w6, a6, b6⟩, ⟨p, h7⟩, ⟨h8, h9, h10⟩, ⟨h11, w12, a12, b12⟩, h13, w14, a14, b14⟩ := h
  exact ⟨by rw [hf 0 (by omega) (by omega)]; exact h0, ⟨h1, h2⟩, SC_fr h3 (hf 3 (by omega) (by omega)) (hf 9 (by omega) (by omega)), ⟨w4, isDz_fr a4 (fun k k1 k2 => hf k (by omega) (by omega)), b4⟩, ⟨w5, isDz_fr a5 (fun k k1 k2 => hf k (by omega) (by omega)), b5⟩, ⟨mg, w6, isDz_fr a6 (fun k k1 k2 => hf k (by omega) (by omega)), b6⟩, ⟨p, AC_fr h7 (fun k k1 k2 => hf k (by omega) (by omega))⟩, ⟨by rw [hf 92 (by omega) (by omega)]; exact h8, by rw [hf 93 (by omega) (by omega)]; exact h9, by rw [hf 94 (by omega) (by omega)]; exact h10⟩, ⟨by rw [hf 95 (by omega) (by omega)]; exact h11, w12, isDz_fr a12 (fun k k1 k2 => hf k (by omega) (by omega)), b12⟩, by rw [hf 101 (by omega) (by omega)]; exact h13, w14, isDz_fr a14 (fun k k1 k2 => hf k (by omega) (by omega)), b14⟩
theorem CS_seen {F1 : Hp} {n : Nat} {t1 t2 : Nat → Int32} (h : CS F N T c G sd) (h1 : F1 92 = .inr (4, [.ref 93, .ref 94, .int (nI n)])) (h2 : F1 93 = .inl (0, 6, .inl t1)) (h3' : F1 94 = .inl (0, 6, .inl t2)) (hf : ∀ k, k < 92 ∨ 95 ≤ k → F1 k = F k) : CS F1 (va_up N 3 n) (va_up (va_up T 1 t1) 2 t2) c G sd := by
  obtain ⟨h0, ⟨k1, k2⟩, h3, ⟨w4, a4, b4⟩, ⟨w5, a5, b5⟩, ⟨mg, w6, a6, b6⟩, ⟨p, h7⟩, -, ⟨h11, w12, a12, b12⟩, h13, w14, a14, b14⟩ := h
  exact ⟨by rw [hf 0 (by omega)]; exact h0, ⟨by rw [hf 1 (by omega)]; exact k1, by rw [hf 2 (by omega)]; exact k2⟩, SC_fr h3 (hf 3 (by omega)) (hf 9 (by omega)), ⟨w4, isDz_fr a4 (fun k k1 k2 => hf k (by omega)), b4⟩, ⟨w5, isDz_fr a5 (fun k k1 k2 => hf k (by omega)), b5⟩, ⟨mg, w6, isDz_fr a6 (fun k k1 k2 => hf k (by omega)), b6⟩, ⟨p, AC_fr h7 (fun k k1 k2 => hf k (by omega))⟩, ⟨h1, h2, h3'⟩, ⟨by rw [hf 95 (by omega)]; exact h11, w12, isDz_fr a12 (fun k k1 k2 => hf k (by omega)), b12⟩, by rw [hf 101 (by omega)]; exact h13, w14, isDz_fr a14 (fun k k1 k2 => hf k (by omega)), b14⟩
theorem CS_seed {x : Int64} (h : CS F N T c G sd) : CS (va_up F 0 (.inr (7, [.ref 1, .ref 3, .ref 10, .ref 15, .ref 20, .ref 92, .ref 95, .ref 101, .long x]))) N T c G x := by
  obtain ⟨h0, ⟨k1, k2⟩, h3, ⟨w4, a4, b4⟩, ⟨w5, a5, b5⟩, ⟨mg, w6, a6, b6⟩, ⟨p, h7⟩, ⟨h8, h9, h10⟩, ⟨h11, w12, a12, b12⟩, h13, w14, a14, b14⟩ := h
  have hf : ∀ k, k ≠ 0 → va_up F 0 (.inr (7, [.ref 1, .ref 3, .ref 10, .ref 15, .ref 20, .ref 92, .ref 95, .ref 101, .long x])) k = F k := fun k hk => va_up_ne _ _ hk
  exact ⟨va_up_self _ _ _, ⟨by rw [hf 1 (by omega)]; exact k1, by rw [hf 2 (by omega)]; exact k2⟩, SC_fr h3 (hf 3 (by omega)) (hf 9 (by omega)), ⟨w4, isDz_fr a4 (fun k k1 k2 => hf k (by omega)), b4⟩, ⟨w5, isDz_fr a5 (fun k k1 k2 => hf k (by omega)), b5⟩, ⟨mg, w6, isDz_fr a6 (fun k k1 k2 => hf k (by omega)), b6⟩, ⟨p, AC_fr h7 (fun k k1 k2 => hf k (by omega))⟩, ⟨by rw [hf 92 (by omega)]; exact h8, by rw [hf 93 (by omega)]; exact h9, by rw [hf 94 (by omega)]; exact h10⟩, ⟨by rw [hf 95 (by omega)]; exact h11, w12, isDz_fr a12 (fun k k1 k2 => hf k (by omega)), b12⟩, by rw [hf 101 (by omega)]; exact h13, w14, isDz_fr a14 (fun k k1 k2 => hf k (by omega)), b14⟩
end EZ
theorem va_up_id {α : Type} (f : Nat → α) (k : Nat) : va_up f k (f k) = f := va_up_eta rfl
theorem s_write {B : Nat} (x : Int32) : Stp1 B (fun F => g_X7_write F 0 x) (fun F => g_X8_write F 107 x) := by
  refine stp_of (fun F N T c G sd hW hC hM => ?_)
  have hn := hW.1
  by_cases hx : 0 ≤ x ∧ x ≤ 255
  · by_cases h8 : N 0 < 80
    · refine ⟨nI (N 0 + 1), va_up N 0 (N 0 + 1), va_up T 0 (upd (T 0) (N 0) x), c, G, sd, ?_, ?_, m_chg (fun F1 s ar hB => ?_)⟩
      · obtain ⟨w1, w2, w3, w4, w5, w6, w7, w8, w9, w10⟩ := WS_mono (Nat.le_add_right B 20) hW
        exact ⟨by show N 0 + 1 ≤ 80; omega, w2, w3, w4, w5, w6, w7, w8, w9, w10⟩
      · refine ⟨va_up (va_up F 2 (.inl (0, 80, .inl (upd (T 0) (N 0) x)))) 1 (.inr (6, [.ref 2, .int (nI (N 0 + 1))])), ?_, CS_text hC (va_up_self _ _ _) (by rw [va_up_ne _ _ (by omega), va_up_self]) (fun k h1 h2 => by rw [va_up_ne _ _ h1, va_up_ne _ _ h2]), fun k hk => by rw [va_up_ne _ _ (by omega), va_up_ne _ _ (by omega)]⟩
        have k1 : va_up F 2 (.inl (0, 80, .inl (upd (T 0) (N 0) x))) 1 = .inr (6, [.ref 2, .int (nI (N 0))]) := by rw [va_up_ne _ _ (by omega)]; exact hC.2.1.1
        have q : gR (va_up (va_up F 2 (.inl (0, 80, .inl (upd (T 0) (N 0) x)))) 1 (.inr (6, [.ref 2, .int (nI (N 0 + 1))]))) 0 7 0 = some 1 := by
          simp only [gR, gV]
          rw [va_up_ne _ _ (by omega), va_up_ne _ _ (by omega), hC.1]
          rfl
        have q2 : gI (va_up (va_up F 2 (.inl (0, 80, .inl (upd (T 0) (N 0) x)))) 1 (.inr (6, [.ref 2, .int (nI (N 0 + 1))]))) 1 6 1 = some (nI (N 0 + 1)) := by
          simp only [gI, gV, va_up_self]
          rfl
        have pp : pV (va_up F 2 (.inl (0, 80, .inl (upd (T 0) (N 0) x)))) 1 6 1 (.int (nI (N 0 + 1))) = some (va_up (va_up F 2 (.inl (0, 80, .inl (upd (T 0) (N 0) x)))) 1 (.inr (6, [.ref 2, .int (nI (N 0 + 1))]))) := by
          simp only [pV, k1]
          rfl
        have gg : gI (va_up F 2 (.inl (0, 80, .inl (upd (T 0) (N 0) x)))) 1 6 1 = some (nI (N 0)) := by
          simp only [gI, gV, k1]
          rfl
        show g_X7_write F 0 x = _
        unfold g_X7_write g_X6_append
        rw [c_isWithin, bnd2_s, if_pos hx, if_neg (by decide), CS_r0 hC, Option.bind_some, ckO_t (CS_to hC), CS_t1 hC, Option.bind_some, if_neg (nI_pos (by omega)), Option.bind_some, CS_t0 hC, Option.bind_some, CS_tn hC, Option.bind_some, if_pos (nI_lt h8 (by omega)), Option.bind_some, Option.bind_some, arr_st x hC.2.1.2 h8 (by omega), Option.bind_some, gg, Option.bind_some, nI_1, pp, Option.bind_some, bnd2_s, if_neg (by decide), q, Option.bind_some, q2, Option.bind_some]
      · refine ⟨upd (upd s 0 0) 2 (nI (N 0 + 1)), va_up ar 108 (upd (T 0) (N 0) x), ?_, ?_⟩
        · show g_X8_write (mh F1 s sd ar) 107 x = _
          unfold g_X8_write
          rw [mh_p0, Option.bind_some, m_in _ x 0 255 0 255 (by decide) (by decide), bnd2_s, if_pos hx, if_neg (by decide), mh_g2, Option.bind_some, upd_n _ _ (by omega), hB.1.1, if_neg (show ¬ nI (N 0) = 80 from fun q => by have := (nI_eq (a := N 0) (b := 80) (by omega) (by omega)).mp q; omega), mh_r1, Option.bind_some, Option.bind_some, mh_st _ _ _ _ (p := 108) (kd := 0) (n := 80) (by omega) rfl rfl h8 (by omega), Option.bind_some, mh_g2, Option.bind_some, upd_n _ _ (by omega), hB.1.1, nI_1, mh_p2, Option.bind_some, mh_g2, Option.bind_some, upd_s, hB.2.1.1]
        · obtain ⟨⟨a1, a2, a3, a4, a5⟩, ⟨b1, b2, b3, b4⟩, r1, r2, r3, r4, r5⟩ := hB
          exact ⟨⟨rfl, a2, a3, a4, a5⟩, ⟨rfl, b2, b3, b4⟩, r1, r2, r3, r4, r5⟩
    · refine ⟨-4, N, T, c, G, sd, WS_mono (Nat.le_add_right B 20) hW, ⟨F, ?_, hC, fun _ _ => rfl⟩, m_keep (fun F1 s ar hB => ⟨upd s 0 0, ar, ?_, MB_s 0 (by omega) hB⟩)⟩
      · show g_X7_write F 0 x = _
        unfold g_X7_write g_X6_append
        rw [c_isWithin, bnd2_s, if_pos hx, if_neg (by decide), CS_r0 hC, Option.bind_some, ckO_t (CS_to hC), CS_t1 hC, Option.bind_some, if_neg (nI_pos (by omega)), Option.bind_some, CS_t0 hC, Option.bind_some, CS_tn hC, Option.bind_some, if_neg (nI_nlt (by omega) (by omega)), bnd2_s, if_pos rfl]
      · show g_X8_write (mh F1 s sd ar) 107 x = _
        unfold g_X8_write
        rw [mh_p0, Option.bind_some, m_in _ x 0 255 0 255 (by decide) (by decide), bnd2_s, if_pos hx, if_neg (by decide), mh_g2, Option.bind_some, upd_n _ _ (by omega), hB.1.1, if_pos (show nI (N 0) = 80 by rw [show N 0 = 80 by omega]; rfl)]
  · refine ⟨-2, N, T, c, G, sd, WS_mono (Nat.le_add_right B 20) hW, ⟨F, ?_, hC, fun _ _ => rfl⟩, m_keep (fun F1 s ar hB => ⟨upd s 0 0, ar, ?_, MB_s 0 (by omega) hB⟩)⟩
    · show g_X7_write F 0 x = _
      unfold g_X7_write
      rw [c_isWithin, bnd2_s, if_neg hx, if_pos rfl]
    · show g_X8_write (mh F1 s sd ar) 107 x = _
      unfold g_X8_write
      rw [mh_p0, Option.bind_some, m_in _ x 0 255 0 255 (by decide) (by decide), bnd2_s, if_neg hx, if_pos rfl]
theorem s_wipe {B : Nat} : Stp1 B (fun F => g_X7_wipe F 0) (fun F => g_X8_wipe F 107) := by
  refine stp_of (fun F N T c G sd hW hC hM => ?_)
  refine ⟨nI (N 0), va_up N 0 0, va_up T 0 (T 0), c, G, sd, ?_, ?_, m_chg (fun F1 s ar hB => ?_)⟩
  · obtain ⟨w1, w2, w3, w4, w5, w6, w7, w8, w9, w10⟩ := WS_mono (Nat.le_add_right B 20) hW
    exact ⟨by show 0 ≤ 80; omega, w2, w3, w4, w5, w6, w7, w8, w9, w10⟩
  · refine ⟨va_up F 1 (.inr (6, [.ref 2, .int (nI 0)])), ?_, CS_text hC (va_up_self _ _ _) (by rw [va_up_ne _ _ (by omega)]; exact hC.2.1.2) (fun k h1 h2 => by rw [va_up_ne _ _ h1]), fun k hk => by rw [va_up_ne _ _ (by omega)]⟩
    have pp : pV F 1 6 1 (.int 0) = some (va_up F 1 (.inr (6, [.ref 2, .int (nI 0)]))) := by
      simp only [pV, hC.2.1.1]
      rfl
    show g_X7_wipe F 0 = _
    unfold g_X7_wipe
    rw [CS_r0 hC, Option.bind_some, CS_t1 hC, Option.bind_some, Option.bind_some, pp, Option.bind_some]
  · refine ⟨upd (upd s 0 0) 2 0, ar, ?_, ?_⟩
    · show g_X8_wipe (mh F1 s sd ar) 107 = _
      unfold g_X8_wipe
      rw [mh_p0, Option.bind_some, mh_g2, Option.bind_some, upd_n _ _ (by omega), hB.1.1, mh_p2, Option.bind_some]
    · obtain ⟨⟨a1, a2, a3, a4, a5⟩, ⟨b1, b2, b3, b4⟩, r1, r2, r3, r4, r5⟩ := hB
      exact ⟨⟨rfl, a2, a3, a4, a5⟩, ⟨b1, b2, b3, b4⟩, r1, r2, r3, r4, r5⟩
theorem s_seed {B : Nat} (x : Int64) : Stp1 B (fun F => g_X7_seed F 0 x) (fun F => g_X8_seed F 107 x) := by
  refine stp_of (fun F N T c G sd hW hC hM => ?_)
  refine ⟨sd, N, T, c, G, x, WS_mono (Nat.le_add_right B 20) hW, ⟨_, ?_, CS_seed (x := x) hC, fun k hk => va_up_ne _ _ (by omega)⟩, m_chg (fun F1 s ar hB => ⟨upd s 0 0, ar, ?_, MB_s 0 (by omega) hB⟩)⟩
  · have pp : pV F 0 7 8 (.long x) = some (va_up F 0 (.inr (7, [.ref 1, .ref 3, .ref 10, .ref 15, .ref 20, .ref 92, .ref 95, .ref 101, .long x]))) := by
      simp only [pV, hC.1]
      rfl
    show g_X7_seed F 0 x = _
    unfold g_X7_seed
    rw [CS_r8 hC, Option.bind_some, pp, Option.bind_some]
  · show g_X8_seed (mh F1 s sd ar) 107 x = _
    unfold g_X8_seed
    rw [mh_p0, Option.bind_some, mh_gL, Option.bind_some, mh_pL, Option.bind_some]
theorem s_unsee {B : Nat} : Stp1 B (fun F => g_X7_unsee F 0) (fun F => g_X8_unsee F 107) := by
  refine stp_of (fun F N T c G sd hW hC hM => ?_)
  have h8 := hC.2.2.2.2.2.2.2.1
  refine ⟨nI (N 3), va_up N 3 0, va_up (va_up T 1 (T 1)) 2 (T 2), c, G, sd, ?_, ?_, m_chg (fun F1 s ar hB => ?_)⟩
  · obtain ⟨w1, w2, w3, w4, w5, w6, w7, w8, w9, w10⟩ := WS_mono (Nat.le_add_right B 20) hW
    exact ⟨w1, w2, w3, ⟨by show 0 ≤ 6; omega, fun k hk => absurd (show k < 0 from hk) (by omega)⟩, w5, w6, w7, w8, w9, w10⟩
  · refine ⟨va_up F 92 (.inr (4, [.ref 93, .ref 94, .int (nI 0)])), ?_, CS_seen hC (va_up_self _ _ _) (by rw [va_up_ne _ _ (by omega)]; exact h8.2.1) (by rw [va_up_ne _ _ (by omega)]; exact h8.2.2) (fun k h1 => by rw [va_up_ne _ _ (by omega)]), fun k hk => by rw [va_up_ne _ _ (by omega)]⟩
    have pp : pV F 92 4 2 (.int 0) = some (va_up F 92 (.inr (4, [.ref 93, .ref 94, .int (nI 0)]))) := by
      simp only [pV, h8.1]
      rfl
    have gg : gI F 92 4 2 = some (nI (N 3)) := by
      simp only [gI, gV, h8.1]
      rfl
    show g_X7_unsee F 0 = _
    unfold g_X7_unsee
    rw [CS_r5 hC, Option.bind_some, gg, Option.bind_some, Option.bind_some, pp, Option.bind_some]
  · refine ⟨upd (upd s 0 0) 16 0, ar, ?_, ?_⟩
    · show g_X8_unsee (mh F1 s sd ar) 107 = _
      unfold g_X8_unsee
      rw [mh_p0, Option.bind_some, mh_g16, Option.bind_some, upd_n _ _ (by omega), hB.1.2.2.2.1, mh_p16, Option.bind_some]
    · obtain ⟨⟨a1, a2, a3, a4, a5⟩, ⟨b1, b2, b3, b4⟩, r1, r2, r3, r4, r5⟩ := hB
      exact ⟨⟨a1, a2, a3, rfl, a5⟩, ⟨b1, b2, b3, b4⟩, r1, r2, r3, r4, r5⟩
theorem s_see {B : Nat} (x y : Int32) : Stp1 B (fun F => g_X7_see F 0 x y) (fun F => g_X8_see F 107 x y) := by
  refine stp_of (fun F N T c G sd hW hC hM => ?_)
  have h8 := hC.2.2.2.2.2.2.2.1
  have gg : gI F 92 4 2 = some (nI (N 3)) := by
    simp only [gI, gV, h8.1]
    rfl
  have g0 : gR F 92 4 0 = some 93 := by
    simp only [gR, gV, h8.1]
    rfl
  have g1 : gR F 92 4 1 = some 94 := by
    simp only [gR, gV, h8.1]
    rfl
  have oo : isO F 92 4 = true := by simp [isO, h8.1]
  have n0 : aN F 93 = some (nI 6) := by simp only [aN, h8.2.1]; rfl
  have n1 : aN F 94 = some (nI 6) := by simp only [aN, h8.2.2]; rfl
  have h6 := hW.2.2.2.1.1
  by_cases hx : 0 ≤ x ∧ x ≤ 99
  · by_cases hy : 0 ≤ y ∧ y ≤ 3
    · by_cases hn : N 3 < 6
      · refine ⟨nI (N 3 + 1), va_up N 3 (N 3 + 1), va_up (va_up T 1 (upd (T 1) (N 3) x)) 2 (upd (T 2) (N 3) y), c, G, sd, ?_, ?_, m_chg (fun F1 s ar hB => ?_)⟩
        · obtain ⟨w1, w2, w3, w4, w5, w6, w7, w8, w9, w10⟩ := WS_mono (Nat.le_add_right B 20) hW
          refine ⟨w1, w2, w3, ⟨by show N 3 + 1 ≤ 6; omega, fun k hk => ?_⟩, w5, w6, w7, w8, w9, w10⟩
          have hk' : k < N 3 + 1 := hk
          show ∃ v, v ≤ 99 ∧ upd (T 1) (N 3) x k = nI v
          by_cases hkn : k = N 3
          · subst hkn
            rw [upd_s]
            obtain ⟨j, hj, e⟩ := nI_of2 (x := x) (M := 99) (n := 99) rfl (by rw [Int32.lt_iff_toInt_lt]; have := hx.1; rw [Int32.le_iff_toInt_le] at this; omega) hx.2
            exact ⟨j, hj, e⟩
          · rw [upd_n _ _ hkn]
            exact w4.2 k (by omega)
        · refine ⟨va_up (va_up (va_up F 93 (.inl (0, 6, .inl (upd (T 1) (N 3) x)))) 94 (.inl (0, 6, .inl (upd (T 2) (N 3) y)))) 92 (.inr (4, [.ref 93, .ref 94, .int (nI (N 3 + 1))])), ?_, CS_seen hC (va_up_self _ _ _) (by rw [va_up_ne _ _ (by omega), va_up_ne _ _ (by omega), va_up_self]) (by rw [va_up_ne _ _ (by omega), va_up_self]) (fun k h1 => by rw [va_up_ne _ _ (by omega), va_up_ne _ _ (by omega), va_up_ne _ _ (by omega)]), fun k hk => by rw [va_up_ne _ _ (by omega), va_up_ne _ _ (by omega), va_up_ne _ _ (by omega)]⟩
          have k92 : ∀ e1 e2, va_up (va_up F 93 e1) 94 e2 92 = .inr (4, [.ref 93, .ref 94, .int (nI (N 3))]) := fun e1 e2 => by rw [va_up_ne _ _ (by omega), va_up_ne _ _ (by omega)]; exact h8.1
          have k92' : ∀ e1, va_up F 93 e1 92 = .inr (4, [.ref 93, .ref 94, .int (nI (N 3))]) := fun e1 => by rw [va_up_ne _ _ (by omega)]; exact h8.1
          have a1 : ∀ e1, gR (va_up F 93 e1) 92 4 1 = some 94 := fun e1 => by simp only [gR, gV, k92']; rfl
          have a2 : ∀ e1, gI (va_up F 93 e1) 92 4 2 = some (nI (N 3)) := fun e1 => by simp only [gI, gV, k92']; rfl
          have a3 : ∀ e1 e2, gI (va_up (va_up F 93 e1) 94 e2) 92 4 2 = some (nI (N 3)) := fun e1 e2 => by simp only [gI, gV, k92]; rfl
          have a4 : ∀ e1, sI (va_up F 93 e1) 94 0 (nI (N 3)) y = some (va_up (va_up F 93 e1) 94 (.inl (0, 6, .inl (upd (T 2) (N 3) y)))) := fun e1 => arr_st y (by rw [va_up_ne _ _ (by omega)]; exact h8.2.2) hn (by omega)
          have a5 : ∀ e1 e2, pV (va_up (va_up F 93 e1) 94 e2) 92 4 2 (.int (nI (N 3 + 1))) = some (va_up (va_up (va_up F 93 e1) 94 e2) 92 (.inr (4, [.ref 93, .ref 94, .int (nI (N 3 + 1))]))) := fun e1 e2 => by simp only [pV, k92]; rfl
          have a6 : ∀ e1 e2 e3, gR (va_up (va_up (va_up F 93 e1) 94 e2) 92 e3) 0 7 5 = some 92 := fun e1 e2 e3 => by
            simp only [gR, gV]
            rw [va_up_ne _ _ (by omega), va_up_ne _ _ (by omega), va_up_ne _ _ (by omega), hC.1]
            rfl
          have a7 : ∀ e1 e2, gI (va_up (va_up (va_up F 93 e1) 94 e2) 92 (.inr (4, [.ref 93, .ref 94, .int (nI (N 3 + 1))]))) 92 4 2 = some (nI (N 3 + 1)) := fun e1 e2 => by simp only [gI, gV, va_up_self]; rfl
          show g_X7_see F 0 x y = _
          unfold g_X7_see g_X4_add
          rw [c_isWithin, bnd2_s, if_pos hx, if_neg (by decide), c_isWithin, bnd2_s, if_pos hy, if_neg (by decide), CS_r5 hC, Option.bind_some, ckO_t oo, gg, Option.bind_some, if_neg (nI_pos (by omega)), Option.bind_some, g0, Option.bind_some, n0, Option.bind_some, if_neg (nI_ge hn (by omega)), Option.bind_some, g1, Option.bind_some, n1, Option.bind_some, if_pos (nI_lt hn (by omega)), Option.bind_some, Option.bind_some, arr_st x h8.2.1 hn (by omega), Option.bind_some, a1, Option.bind_some, a2, Option.bind_some, a4, Option.bind_some, a3, Option.bind_some, nI_1, a5, Option.bind_some, bnd2_s, if_neg (by decide), a6, Option.bind_some, a7, Option.bind_some]
        · refine ⟨upd (upd s 0 0) 16 (nI (N 3 + 1)), va_up (va_up ar 118 (upd (T 1) (N 3) x)) 119 (upd (T 2) (N 3) y), ?_, ?_⟩
          · show g_X8_see (mh F1 s sd ar) 107 x y = _
            unfold g_X8_see
            rw [mh_p0, Option.bind_some, m_in _ x 0 99 0 99 (by decide) (by decide), bnd2_s, if_pos hx, if_neg (by decide), m_in _ y 0 3 0 3 (by decide) (by decide), bnd2_s, if_pos hy, if_neg (by decide), mh_g16, Option.bind_some, upd_n _ _ (by omega), hB.1.2.2.2.1, if_neg (show ¬ nI (N 3) = 6 from fun q => by have := (nI_eq (a := N 3) (b := 6) (by omega) (by omega)).mp q; omega), mh_r17, Option.bind_some, Option.bind_some, mh_st _ _ _ _ (p := 118) (kd := 0) (n := 6) (by omega) rfl rfl hn (by omega), Option.bind_some, mh_r18, Option.bind_some, mh_g16, Option.bind_some, upd_n _ _ (by omega), hB.1.2.2.2.1, mh_st _ _ _ _ (p := 119) (kd := 0) (n := 6) (by omega) rfl rfl hn (by omega), Option.bind_some, mh_g16, Option.bind_some, upd_n _ _ (by omega), hB.1.2.2.2.1, nI_1, mh_p16, Option.bind_some, mh_g16, Option.bind_some, upd_s, hB.2.1.2.1, va_up_ne _ _ (by omega), hB.2.1.2.2.1]
          · obtain ⟨⟨a1, a2, a3, a4, a5⟩, ⟨b1, b2, b3, b4⟩, r1, r2, r3, r4, r5⟩ := hB
            exact ⟨⟨a1, a2, a3, rfl, a5⟩, ⟨b1, rfl, rfl, b4⟩, r1, r2, r3, r4, r5⟩
      · refine ⟨-4, N, T, c, G, sd, WS_mono (Nat.le_add_right B 20) hW, ⟨F, ?_, hC, fun _ _ => rfl⟩, m_keep (fun F1 s ar hB => ⟨upd s 0 0, ar, ?_, MB_s 0 (by omega) hB⟩)⟩
        · show g_X7_see F 0 x y = _
          unfold g_X7_see g_X4_add
          rw [c_isWithin, bnd2_s, if_pos hx, if_neg (by decide), c_isWithin, bnd2_s, if_pos hy, if_neg (by decide), CS_r5 hC, Option.bind_some, ckO_t oo, gg, Option.bind_some, if_neg (nI_pos (by omega)), Option.bind_some, g0, Option.bind_some, n0, Option.bind_some, if_pos (nI_le (by omega) (by omega)), bnd2_s, if_pos rfl]
        · show g_X8_see (mh F1 s sd ar) 107 x y = _
          unfold g_X8_see
          rw [mh_p0, Option.bind_some, m_in _ x 0 99 0 99 (by decide) (by decide), bnd2_s, if_pos hx, if_neg (by decide), m_in _ y 0 3 0 3 (by decide) (by decide), bnd2_s, if_pos hy, if_neg (by decide), mh_g16, Option.bind_some, upd_n _ _ (by omega), hB.1.2.2.2.1, if_pos (show nI (N 3) = 6 by rw [show N 3 = 6 by omega]; rfl)]
    · refine ⟨-2, N, T, c, G, sd, WS_mono (Nat.le_add_right B 20) hW, ⟨F, ?_, hC, fun _ _ => rfl⟩, m_keep (fun F1 s ar hB => ⟨upd s 0 0, ar, ?_, MB_s 0 (by omega) hB⟩)⟩
      · show g_X7_see F 0 x y = _
        unfold g_X7_see
        rw [c_isWithin, bnd2_s, if_pos hx, if_neg (by decide), c_isWithin, bnd2_s, if_neg hy, if_pos rfl]
      · show g_X8_see (mh F1 s sd ar) 107 x y = _
        unfold g_X8_see
        rw [mh_p0, Option.bind_some, m_in _ x 0 99 0 99 (by decide) (by decide), bnd2_s, if_pos hx, if_neg (by decide), m_in _ y 0 3 0 3 (by decide) (by decide), bnd2_s, if_neg hy, if_pos rfl]
  · refine ⟨-2, N, T, c, G, sd, WS_mono (Nat.le_add_right B 20) hW, ⟨F, ?_, hC, fun _ _ => rfl⟩, m_keep (fun F1 s ar hB => ⟨upd s 0 0, ar, ?_, MB_s 0 (by omega) hB⟩)⟩
    · show g_X7_see F 0 x y = _
      unfold g_X7_see
      rw [c_isWithin, bnd2_s, if_neg hx, if_pos rfl]
    · show g_X8_see (mh F1 s sd ar) 107 x y = _
      unfold g_X8_see
      rw [mh_p0, Option.bind_some, m_in _ x 0 99 0 99 (by decide) (by decide), bnd2_s, if_neg hx, if_pos rfl]
