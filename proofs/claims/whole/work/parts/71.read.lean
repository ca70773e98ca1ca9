/-! the reference reads a text -/
def cd (x : Int32) : Int32 := if ltr x = true then x - 87 else x - 48
theorem l98 (x : Int32) : (97 ≤ x ∧ x ≤ 98) ↔ ltr x = true := by
  unfold ltr
  rw [decide_eq_true_iff]
  constructor
  · intro h
    rw [Int32.le_iff_toInt_le, Int32.le_iff_toInt_le] at h
    have h1 : (97 : Int32).toInt = 97 := by decide
    have h2 : (98 : Int32).toInt = 98 := by decide
    by_cases q : x.toInt = 97
    · exact Or.inl (Int32.toInt_inj.mp (by omega))
    · exact Or.inr (Int32.toInt_inj.mp (by omega))
  · rintro (rfl | rfl) <;> decide
theorem ltr_87 {x : Int32} (h : ltr x = true) : ¬ (1 ≤ x - 87 ∧ x - 87 ≤ 9) := by
  unfold ltr at h
  rcases of_decide_eq_true h with rfl | rfl <;> decide
theorem okS9 {p : Nat} {x : Int32} (hp : 9 ≤ p) : okS p x = (fg x || ltr x) := by
  unfold okS
  rw [if_neg (by omega), if_neg (by omega), show decide (9 ≤ p) = true from decide_eq_true hp, Bool.true_and]
section RE
variable {F : Hp} {N : Nat → Nat} {T : Nat → Nat → Int32} {c : Nat → Nat} {G : Nat → Nat → Int32} {sd : Int64}
theorem m_b254 {rec : Hp → Nat → Option (Int32 × Hp)} {s : Nat → Int32} {ar : Nat → Nat → Int32} {p : Nat} {v : Int32} (hp : 9 ≤ p) (h8 : p < 80) (s3 : s 3 = nI p) (s6 : s 6 = nI (p - 9)) : g_X8_readLink_b254 rec (mh F s sd ar) 107 v = rec (mh F (upd (upd s 6 (nI (p - 9 + 1))) 3 (nI (p + 1))) sd (va_up ar 110 (upd (ar 110) (p - 9) v))) 107 := by
  rw [g_X8_readLink_b254, mh_r5, Option.bind_some, mh_g6, Option.bind_some, s6, mh_st _ _ _ _ (p := 110) (kd := 0) (n := 80) (by omega) rfl rfl (by omega) (by omega), Option.bind_some, mh_g6, Option.bind_some, s6, nI_1, mh_p6, Option.bind_some, mh_g3, Option.bind_some, upd_n _ _ (by omega), s3, nI_1, mh_p3, Option.bind_some]
theorem m_evR {B : Nat} (hW : WS B N T c G) : ∀ (r p n : Nat) (s : Nat → Int32) (ar : Nat → Nat → Int32), MB s ar N T c G → p + r = N 0 → 9 ≤ p → r < n → s 3 = nI p → s 6 = nI (p - 9) → (∀ k, k < p - 9 → ar 110 k = cd (T 0 (9 + k))) → ∃ s' ar', g_X8_readLink_b154 n (mh F s sd ar) 107 = some (fp (T 0) r p, mh F s' sd ar') ∧ MB s' ar' N T c G ∧ ar' 109 = ar 109 ∧ (fp (T 0) r p = -9 → s' 6 = nI (N 0 - 9) ∧ ∀ k, k < N 0 - 9 → ar' 110 k = cd (T 0 (9 + k))) := by
  have h80 := hW.1
  intro r
  induction r with
  | zero =>
    intro p n s ar hB hp h9 hn s3 s6 hk
    obtain ⟨n, rfl⟩ : ∃ n', n = n' + 1 := ⟨n - 1, by omega⟩
    refine ⟨s, ar, ?_, hB, rfl, fun _ => ⟨?_, fun k k1 => hk k (by omega)⟩⟩
    · rw [g_X8_readLink_b154, mh_g3, Option.bind_some, mh_g2, Option.bind_some, s3, hB.1.1, if_pos (nI_le (by omega) (by omega)), fp, if_neg (by omega)]
    · rw [s6, show p = N 0 by omega]
  | succ r ih =>
    intro p n s ar hB hp h9 hn s3 s6 hk
    obtain ⟨n, rfl⟩ : ∃ n', n = n' + 1 := ⟨n - 1, by omega⟩
    have ld : aI (mh F s sd ar) 108 0 (nI p) = some (T 0 p) := by
      rw [mh_ld _ _ _ _ (p := 108) (kd := 0) (n := 80) (by omega) rfl rfl (by omega) (by omega), hB.2.1.1]
    have go : ∀ v, v = cd (T 0 p) → ∃ s' ar', g_X8_readLink_b254 (g_X8_readLink_b154 n) (mh F s sd ar) 107 v = some (fp (T 0) r (p + 1), mh F s' sd ar') ∧ MB s' ar' N T c G ∧ ar' 109 = ar 109 ∧ (fp (T 0) r (p + 1) = -9 → s' 6 = nI (N 0 - 9) ∧ ∀ k, k < N 0 - 9 → ar' 110 k = cd (T 0 (9 + k))) := by
      intro v hv
      obtain ⟨s', ar', i1, i2, i3, i4⟩ := ih (p + 1) n (upd (upd s 6 (nI (p - 9 + 1))) 3 (nI (p + 1))) (va_up ar 110 (upd (ar 110) (p - 9) v)) (MB_s _ (by omega) (MB_s _ (by omega) (MB_a _ (by omega) hB))) (by omega) (by omega) (by omega) (upd_s _ _ _) (by rw [upd_n _ _ (by omega), upd_s, show p + 1 - 9 = p - 9 + 1 by omega]) (fun k k1 => by
        rw [va_up_self]
        by_cases q : k = p - 9
        · subst q
          rw [upd_s, hv, show 9 + (p - 9) = p by omega]
        · rw [upd_n _ _ q]
          exact hk k (by omega))
      refine ⟨s', ar', ?_, i2, by rw [i3, va_up_ne _ _ (by omega)], i4⟩
      rw [m_b254 h9 (by omega) s3 s6]
      exact i1
    rw [g_X8_readLink_b154, mh_g3, Option.bind_some, mh_g2, Option.bind_some, s3, hB.1.1, if_neg (nI_ge (by omega) (by omega)), mh_r1, Option.bind_some, Option.bind_some, ld, Option.bind_some, m_in _ _ 97 98 97 98 (by decide) (by decide), bnd2_s, fp, okS9 h9]
    by_cases q : ltr (T 0 p) = true
    · have okt : (fg (T 0 p) || ltr (T 0 p)) = true := by rw [q, Bool.or_true]
      rw [if_pos ((l98 _).mpr q), if_neg (by decide), mh_r1, Option.bind_some, mh_g3, Option.bind_some, s3, ld, Option.bind_some, if_pos okt, g_X8_readLink_b214, m_in _ _ 1 9 1 9 (by decide) (by decide), bnd2_s, if_neg (ltr_87 q), if_pos rfl, mh_r1, Option.bind_some, mh_g3, Option.bind_some, s3, ld, Option.bind_some, m_in _ _ 97 98 97 98 (by decide) (by decide), bnd2_s, if_pos ((l98 _).mpr q), if_neg (by decide)]
      exact go _ (by unfold cd; rw [if_pos q])
    · rw [if_neg (fun z => q ((l98 _).mp z)), if_pos rfl, mh_r1, Option.bind_some, mh_g3, Option.bind_some, s3, ld, Option.bind_some, g_X8_readLink_b214, m_in _ _ 1 9 1 9 (by decide) (by decide), bnd2_s]
      by_cases q2 : 1 ≤ T 0 p - 48 ∧ T 0 p - 48 ≤ 9
      · have okt : (fg (T 0 p) || ltr (T 0 p)) = true := by rw [show fg (T 0 p) = true from decide_eq_true q2, Bool.true_or]
        rw [if_pos q2, if_neg (by decide), if_pos okt]
        exact go _ (by unfold cd; rw [if_neg q])
      · have okf : ¬ (fg (T 0 p) || ltr (T 0 p)) = true := by
          rw [show fg (T 0 p) = false from decide_eq_false q2, Bool.false_or]
          exact q
        rw [if_neg q2, if_pos rfl, mh_r1, Option.bind_some, mh_g3, Option.bind_some, s3, ld, Option.bind_some, m_in _ _ 97 98 97 98 (by decide) (by decide), bnd2_s, if_neg (fun z => q ((l98 _).mp z)), if_pos rfl, mh_g3, Option.bind_some, s3, if_neg okf]
        refine ⟨s, ar, rfl, hB, rfl, fun z => ?_⟩
        exfalso
        have := congrArg Int32.toInt z
        rw [nI_toInt (by omega)] at this
        have h9' : (-9 : Int32).toInt = -9 := by decide
        omega
theorem m_fig {s : Nat → Int32} {ar : Nat → Nat → Int32} {p le : Nat} (hle : le = 1 ∨ le = 2) (h8 : N 0 ≤ 80) (hp : p ≤ N 0) (hB : MB s ar N T c G) (s3 : s 3 = nI p) : g_X8_figure (mh F s sd ar) 107 (nI le) = if p < N 0 ∧ (nI le ≤ T 0 p - 48 ∧ T 0 p - 48 ≤ 9) then some (T 0 p - 48, mh F (upd s 3 (nI (p + 1))) sd ar) else some (-9, mh F s sd ar) := by
  rw [g_X8_figure, mh_g3, Option.bind_some, mh_g2, Option.bind_some, s3, hB.1.1]
  by_cases q : p < N 0
  · rw [if_neg (nI_ge q (by omega)), mh_r1, Option.bind_some, Option.bind_some, mh_ld _ _ _ _ (p := 108) (kd := 0) (n := 80) (by omega) rfl rfl (by omega) (by omega), Option.bind_some, hB.2.1.1, g_X8_figure_b28, m_in _ _ (nI le) 9 _ 9 rfl (by decide), bnd2_s]
    by_cases q2 : nI le ≤ T 0 p - 48 ∧ T 0 p - 48 ≤ 9
    · rw [if_pos q2, if_neg (by decide), mh_g3, Option.bind_some, s3, nI_1, mh_p3, Option.bind_some, if_pos ⟨q, q2⟩]
    · rw [if_neg q2, if_pos rfl, if_neg (fun z => q2 z.2)]
  · rw [if_pos (nI_le (by omega) (by omega)), g_X8_figure_b28, m_in _ _ (nI le) 9 _ 9 rfl (by decide), bnd2_s, if_neg (show ¬ (nI le ≤ -9 ∧ (-9 : Int32) ≤ 9) by rcases hle with rfl | rfl <;> decide), if_pos rfl, if_neg (fun z => q z.1)]
theorem okH {p le : Nat} {x : Int32} (h1 : 1 ≤ p) (h8 : p ≤ 8) (hle : le = if p = 2 then 2 else 1) : okS p x = true ↔ (nI le ≤ x - 48 ∧ x - 48 ≤ 9) := by
  unfold okS
  rw [if_neg (by omega), show decide (9 ≤ p) = false from decide_eq_false (by omega), Bool.false_and, Bool.or_false]
  by_cases p2 : p = 2
  · rw [if_pos p2] at hle
    subst hle
    by_cases a : x = 49
    · rw [if_pos (show p = 2 ∧ x = 49 from ⟨p2, a⟩)]
      subst a
      decide
    · rw [if_neg (show ¬ (p = 2 ∧ x = 49) from fun z => a z.2)]
      unfold fg
      rw [decide_eq_true_iff]
      constructor
      · intro h
        obtain ⟨j, j1, j9, hj⟩ := nI_cases1 (n := 9) rfl h
        refine ⟨?_, h.2⟩
        rcases (show j = 1 ∨ 2 ≤ j by omega) with rfl | q
        · exfalso
          apply a
          have := congrArg (fun z => z + 48) hj
          simp at this
          rw [this]
          rfl
        · rw [hj]
          exact nI_le q (by omega)
      · intro h
        refine ⟨?_, h.2⟩
        have h2 := h.1
        rw [Int32.le_iff_toInt_le] at h2 ⊢
        have e1 : (1 : Int32).toInt = 1 := by decide
        have e2 : (nI 2).toInt = 2 := by decide
        omega
  · rw [if_neg p2] at hle
    subst hle
    rw [if_neg (show ¬ (p = 2 ∧ x = 49) from fun z => p2 z.1)]
    unfold fg
    rw [decide_eq_true_iff]
    exact Iff.rfl
end RE
def hx (v : Nat) : Nat := if v < 2 then 9 + v else 11 + 14 * ((v - 2) / 3) + (v - 2) % 3
def hdr (t : Nat → Int32) : Nat → Nat → (Nat → Int32) → (Nat → Int32)
  | 0, _, w => w
  | r + 1, v, w => hdr t r (v + 1) (upd w (hx v) (t (v + 1) - 48))
def fin9 (w : Nat → Int32) : Nat → Int32 := upd (upd w (11 + 14 * 0 + 3) (w (11 + 14 * 1))) (11 + 14 * 1 + 3) ((upd w (11 + 14 * 0 + 3) (w (11 + 14 * 1))) (11 + 14 * 0))
theorem vdm : ∀ v, v < 8 → 2 ≤ v → (nI v - 2) / 3 = nI ((v - 2) / 3) ∧ jrem (nI v - 2) 3 = nI ((v - 2) % 3) := by decide
section RH
variable {F : Hp} {N : Nat → Nat} {T : Nat → Nat → Int32} {c : Nat → Nat} {G : Nat → Nat → Int32} {sd : Int64}
theorem m_hdL {B : Nat} (hW : WS B N T c G) : ∀ (r v n : Nat) (s : Nat → Int32) (ar : Nat → Nat → Int32), MB s ar N T c G → v + r = 8 → v + 1 ≤ N 0 → r < n → s 3 = nI (v + 1) → s 6 = nI 0 → ∃ s' ar', g_X8_readLink_b44 n (mh F s sd ar) 107 (nI v) = some (fp (T 0) (N 0 - (v + 1)) (v + 1), mh F s' sd ar') ∧ MB s' ar' N T c G ∧ (fp (T 0) (N 0 - (v + 1)) (v + 1) = -9 → s' 6 = nI (N 0 - 9) ∧ (∀ k, k < N 0 - 9 → ar' 110 k = cd (T 0 (9 + k))) ∧ ar' 109 = fin9 (hdr (T 0) r v (ar 109))) := by
  have h80 := hW.1
  intro r
  induction r with
  | zero =>
    intro v n s ar hB hv hN hn s3 s6
    obtain ⟨n, rfl⟩ : ∃ n', n = n' + 1 := ⟨n - 1, by omega⟩
    obtain rfl : v = 8 := by omega
    obtain ⟨s', ar', i1, i2, i3, i4⟩ := m_evR (F := F) (sd := sd) hW (N 0 - 9) 9 gF s (va_up ar 109 (fin9 (ar 109))) (MB_a _ (by omega) hB) (by omega) (by omega) (by unfold gF; omega) s3 s6 (fun k k1 => absurd k1 (by omega))
    refine ⟨s', ar', ?_, i2, fun z => ?_⟩
    · rw [g_X8_readLink_b44, if_pos (show (8 : Int32) ≤ nI 8 by decide), mh_r4, Option.bind_some, show g_X8_at (mh F s sd ar) 0 = _ from m_at _ 0, bnd2_s, mh_r4, Option.bind_some, show g_X8_at (mh F s sd ar) 1 = _ from m_at _ 1, bnd2_s, mh_ld _ _ _ _ (p := 109) (kd := 0) (n := 39) (by omega) rfl rfl (by omega) (by omega), Option.bind_some, nI_p3, mh_st _ _ _ _ (p := 109) (kd := 0) (n := 39) (by omega) rfl rfl (by omega) (by omega), Option.bind_some, mh_r4, Option.bind_some, show ∀ H, g_X8_at H 1 = _ from fun H => m_at H 1, bnd2_s, mh_r4, Option.bind_some, show ∀ H, g_X8_at H 0 = _ from fun H => m_at H 0, bnd2_s, mh_ld _ _ _ _ (p := 109) (kd := 0) (n := 39) (by omega) rfl rfl (by omega) (by omega), Option.bind_some, nI_p3, mh_st _ _ _ _ (p := 109) (kd := 0) (n := 39) (by omega) rfl rfl (by omega) (by omega), Option.bind_some, va_up_self, va_up2]
      exact i1
    · obtain ⟨j1, j2⟩ := i4 z
      exact ⟨j1, j2, by rw [i3, va_up_self, hdr]⟩
  | succ r ih =>
    intro v n s ar hB hv hN hn s3 s6
    obtain ⟨n, rfl⟩ : ∃ n', n = n' + 1 := ⟨n - 1, by omega⟩
    have ok := okH (p := v + 1) (x := T 0 (v + 1)) (by omega) (by omega) rfl
    have b61 : g_X8_readLink_b44 (n + 1) (mh F s sd ar) 107 (nI v) = g_X8_readLink_b61 (g_X8_readLink_b44 n) (mh F s sd ar) 107 (nI v) 107 (nI (if v + 1 = 2 then 2 else 1)) := by
      rw [g_X8_readLink_b44, if_neg (show ¬ (8 : Int32) ≤ nI v from nI_ge (b := 8) (by omega) (by omega))]
      by_cases q : v = 1
      · rw [if_pos (show nI v = 1 from (nI_eq (b := 1) (by omega) (by omega)).mpr q), if_pos (by omega)]
        rfl
      · rw [if_neg (show ¬ nI v = 1 from fun z => q ((nI_eq (b := 1) (by omega) (by omega)).mp z)), if_neg (by omega)]
        rfl
    rw [b61, g_X8_readLink_b61, ckO_t (mh_isO _ _ _ _), m_fig (by split <;> omega) h80 hN hB s3]
    by_cases q : v + 1 < N 0 ∧ (nI (if v + 1 = 2 then 2 else 1) ≤ T 0 (v + 1) - 48 ∧ T 0 (v + 1) - 48 ≤ 9)
    · have hok := ok.mpr q.2
      have n9 : ¬ T 0 (v + 1) - 48 = -9 := by
        intro z
        have z1 := q.2.1
        rw [z] at z1
        revert z1
        split <;> decide
      have hx39 : hx v < 39 := by
        unfold hx
        split <;> omega
      obtain ⟨s', ar', i1, i2, i3⟩ := ih (v + 1) n (upd s 3 (nI (v + 1 + 1))) (va_up ar 109 (upd (ar 109) (hx v) (T 0 (v + 1) - 48))) (MB_s _ (by omega) (MB_a _ (by omega) hB)) (by omega) (by omega) (by omega) (upd_s _ _ _) (by rw [upd_n _ _ (by omega)]; exact s6)
      have hfp : fp (T 0) (N 0 - (v + 1)) (v + 1) = fp (T 0) (N 0 - (v + 1 + 1)) (v + 1 + 1) := by
        rw [show N 0 - (v + 1) = (N 0 - (v + 1 + 1)) + 1 by omega, fp, if_pos hok]
      refine ⟨s', ar', ?_, i2, fun z => ?_⟩
      · rw [if_pos q, bnd2_s, if_neg n9, mh_r4, Option.bind_some, hfp]
        by_cases q2 : 2 ≤ v
        · obtain ⟨d1, d2⟩ := vdm v (by omega) q2
          have hxe : hx v = 11 + 14 * ((v - 2) / 3) + (v - 2) % 3 := by unfold hx; rw [if_neg (by omega)]
          rw [if_pos (show (2 : Int32) ≤ nI v from nI_le (a := 2) q2 (by omega)), d1, m_at, bnd2_s, d2, nI_add, ← hxe, g_X8_readLink_b106, mh_st _ _ _ _ (p := 109) (kd := 0) (n := 39) (by omega) rfl rfl hx39 (by omega), Option.bind_some, nI_1]
          exact i1
        · have hxe : hx v = 9 + v := by unfold hx; rw [if_pos (by omega)]
          rw [if_neg (show ¬ (2 : Int32) ≤ nI v from nI_ge (b := 2) (by omega) (by omega)), show (9 + nI v : Int32) = nI (9 + v) from nI_add 9 v, ← hxe, g_X8_readLink_b106, mh_st _ _ _ _ (p := 109) (kd := 0) (n := 39) (by omega) rfl rfl hx39 (by omega), Option.bind_some, nI_1]
          exact i1
      · rw [hfp] at z
        obtain ⟨j1, j2, j3⟩ := i3 z
        exact ⟨j1, j2, by rw [j3, va_up_self, hdr]⟩
    · have hfp : fp (T 0) (N 0 - (v + 1)) (v + 1) = nI (v + 1) := by
        by_cases q3 : v + 1 < N 0
        · rw [show N 0 - (v + 1) = (N 0 - (v + 1 + 1)) + 1 by omega, fp, if_neg (fun z => q ⟨q3, ok.mp z⟩)]
        · rw [show N 0 - (v + 1) = 0 by omega, fp, if_pos (by omega)]
      refine ⟨s, ar, ?_, hB, fun z => ?_⟩
      · rw [if_neg q, bnd2_s, if_pos rfl, mh_g3, Option.bind_some, s3, hfp]
      · exfalso
        rw [hfp] at z
        have := congrArg Int32.toInt z
        rw [nI_toInt (by omega)] at this
        have h9' : (-9 : Int32).toInt = -9 := by decide
        omega
theorem m_read {B : Nat} (hW : WS B N T c G) {s : Nat → Int32} {ar : Nat → Nat → Int32} (hB : MB s ar N T c G) : ∃ s' ar', g_X8_readLink (mh F s sd ar) 107 = some (fp (T 0) (N 0) 0, mh F s' sd ar') ∧ MB s' ar' N T c G ∧ (fp (T 0) (N 0) 0 = -9 → s' 6 = nI (N 0 - 9) ∧ (∀ k, k < N 0 - 9 → ar' 110 k = cd (T 0 (9 + k))) ∧ ar' 109 = fin9 (hdr (T 0) 8 0 (frst (ar 109)))) := by
  have hB1 : MB (upd (upd s 3 0) 6 0) (va_up ar 109 (frst (ar 109))) N T c G := MB_s _ (by omega) (MB_s _ (by omega) (MB_a _ (by omega) hB))
  have start : g_X8_readLink (mh F s sd ar) 107 = (if nI (N 0) = 0 then some (0, mh F (upd (upd s 3 0) 6 0) sd (va_up ar 109 (frst (ar 109)))) else if T 0 0 = 76 then g_X8_readLink_b44 gF (mh F (upd (upd (upd s 3 0) 6 0) 3 1) sd (va_up ar 109 (frst (ar 109)))) 107 0 else some (0, mh F (upd (upd s 3 0) 6 0) sd (va_up ar 109 (frst (ar 109))))) := by
    rw [g_X8_readLink, mh_p3, Option.bind_some, mh_p6, Option.bind_some, mh_r4, Option.bind_some, m_layFirst (by omega), Option.bind_some, mh_g2, Option.bind_some, hB1.1.1]
    by_cases q : nI (N 0) = 0
    · rw [if_pos q, if_pos q]
    · rw [if_neg q, if_neg q, mh_r1, Option.bind_some, show aI (mh F (upd (upd s 3 0) 6 0) sd (va_up ar 109 (frst (ar 109)))) 108 0 0 = _ from mh_ld _ _ _ _ (p := 108) (kd := 0) (n := 80) (j := 0) (by omega) rfl rfl (by omega) (by omega), Option.bind_some, hB1.2.1.1, mh_p3, Option.bind_some]
  have h80 := hW.1
  by_cases q : N 0 = 0
  · refine ⟨_, _, ?_, hB1, fun z => ?_⟩
    · rw [start, if_pos (show nI (N 0) = 0 by rw [q]; rfl), q, fp, if_pos (by omega)]
      rfl
    · exfalso
      rw [q, fp, if_pos (by omega)] at z
      exact absurd z (by decide)
  · have qn : ¬ nI (N 0) = 0 := fun z => q ((nI_eq (b := 0) (by omega) (by omega)).mp z)
    obtain ⟨M, hM⟩ : ∃ M, N 0 = M + 1 := ⟨N 0 - 1, by omega⟩
    by_cases q7 : T 0 0 = 76
    · have hok : okS 0 (T 0 0) = true := by unfold okS; rw [if_pos rfl]; exact decide_eq_true q7
      obtain ⟨s', ar', i1, i2, i3⟩ := m_hdL (F := F) (sd := sd) hW 8 0 gF (upd (upd (upd s 3 0) 6 0) 3 (nI (0 + 1))) (va_up ar 109 (frst (ar 109))) (MB_s _ (by omega) hB1) (by omega) (by omega) (by unfold gF; omega) (upd_s _ _ _) (by rw [upd_n _ _ (by omega), upd_s]; rfl)
      have hfp : fp (T 0) (N 0) 0 = fp (T 0) (N 0 - (0 + 1)) (0 + 1) := by rw [hM, fp, if_pos hok]; rfl
      refine ⟨s', ar', ?_, i2, fun z => ?_⟩
      · rw [start, if_neg qn, if_pos q7, hfp]
        exact i1
      · rw [hfp] at z
        obtain ⟨j1, j2, j3⟩ := i3 z
        exact ⟨j1, j2, by rw [j3, va_up_self]⟩
    · have hok : ¬ okS 0 (T 0 0) = true := by unfold okS; rw [if_pos rfl]; exact fun z => q7 (of_decide_eq_true z)
      have hfp : fp (T 0) (N 0) 0 = nI 0 := by rw [hM, fp, if_neg hok]
      refine ⟨_, _, ?_, hB1, fun z => ?_⟩
      · rw [start, if_neg qn, if_neg q7, hfp]
        rfl
      · exfalso
        rw [hfp] at z
        exact absurd z (by decide)
end RH
theorem s_fault {B : Nat} : Stp1 B (fun F => g_X7_fault F 0) (fun F => g_X8_fault F 107) := by
  refine stp_of (fun F N T c G sd hW hC hM => ?_)
  refine ⟨fp (T 0) (N 0) 0, N, T, c, G, sd, WS_mono (Nat.le_add_right B 20) hW, ⟨F, ?_, hC, fun _ _ => rfl⟩, m_keep (fun F1 s ar hB => ?_)⟩
  · show g_X7_fault F 0 = _
    unfold g_X7_fault
    rw [CS_r0 hC, Option.bind_some, ckO_t (CS_to hC), c_fault hW hC, bnd2_s]
  · obtain ⟨s', ar', g1, g2, -⟩ := m_read (F := F1) (sd := sd) hW (MB_s 0 (by omega) hB : MB (upd s 0 0) ar N T c G)
    refine ⟨s', ar', ?_, g2⟩
    show g_X8_fault (mh F1 s sd ar) 107 = _
    unfold g_X8_fault
    rw [mh_p0, Option.bind_some, ckO_t (mh_isO _ _ _ _), g1, bnd2_s]
