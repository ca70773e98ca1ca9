/-! link: the page and the events of a text -/
def pgT (t : Nat → Int32) : Nat → Int32 := fin9 (hdr t 8 0 (frst (fun _ => 0)))
def cw (w t : Nat → Int32) : Nat → Int32 := upd (upd (upd (upd (upd (upd (upd (upd (upd (upd w 9 (t 1 - 48)) 10 (t 2 - 48)) (11 + 14 * 0) (t 3 - 48)) (11 + 14 * 0 + 1) (t (3 + 1) - 48)) (11 + 14 * 0 + 2) (t (3 + 2) - 48)) (11 + 14 * 1) (t 6 - 48)) (11 + 14 * 1 + 1) (t (6 + 1) - 48)) (11 + 14 * 1 + 2) (t (6 + 2) - 48)) (11 + 14 * 0 + 3) (t 6 - 48)) (11 + 14 * 1 + 3) (t 3 - 48)
theorem hN_pgT (t : Nat → Int32) {e : Nat} (he : e = 0 ∨ e = 1) : hN e (pgT t) = 0 := by
  rcases he with rfl | rfl <;> rfl
theorem Eqv_cw {w : Nat → Int32} (t : Nat → Int32) (h : ∀ i, i < 9 → w i = 0) (h15 : w 15 = 0) (h29 : w 29 = 0) : Eqv (pgT t) (cw w t) := by
  refine ⟨fun i hi => ?_, fun e he k hk => ?_⟩
  · rcases (show i = 0 ∨ i = 1 ∨ i = 2 ∨ i = 3 ∨ i = 4 ∨ i = 5 ∨ i = 6 ∨ i = 7 ∨ i = 8 ∨ i = 9 ∨ i = 10 ∨ i = 11 ∨ i = 12 ∨ i = 13 ∨ i = 14 ∨ i = 15 ∨ i = 25 ∨ i = 26 ∨ i = 27 ∨ i = 28 ∨ i = 29 by omega) with rfl | rfl | rfl | rfl | rfl | rfl | rfl | rfl | rfl | rfl | rfl | rfl | rfl | rfl | rfl | rfl | rfl | rfl | rfl | rfl | rfl
    · exact (show pgT t 0 = 0 from rfl).trans ((h 0 (by omega)).symm.trans (show w 0 = cw w t 0 from rfl))
    · exact (show pgT t 1 = 0 from rfl).trans ((h 1 (by omega)).symm.trans (show w 1 = cw w t 1 from rfl))
    · exact (show pgT t 2 = 0 from rfl).trans ((h 2 (by omega)).symm.trans (show w 2 = cw w t 2 from rfl))
    · exact (show pgT t 3 = 0 from rfl).trans ((h 3 (by omega)).symm.trans (show w 3 = cw w t 3 from rfl))
    · exact (show pgT t 4 = 0 from rfl).trans ((h 4 (by omega)).symm.trans (show w 4 = cw w t 4 from rfl))
    · exact (show pgT t 5 = 0 from rfl).trans ((h 5 (by omega)).symm.trans (show w 5 = cw w t 5 from rfl))
    · exact (show pgT t 6 = 0 from rfl).trans ((h 6 (by omega)).symm.trans (show w 6 = cw w t 6 from rfl))
    · exact (show pgT t 7 = 0 from rfl).trans ((h 7 (by omega)).symm.trans (show w 7 = cw w t 7 from rfl))
    · exact (show pgT t 8 = 0 from rfl).trans ((h 8 (by omega)).symm.trans (show w 8 = cw w t 8 from rfl))
    · exact (show pgT t 9 = t 1 - 48 from rfl).trans (show t 1 - 48 = cw w t 9 from rfl)
    · exact (show pgT t 10 = t 2 - 48 from rfl).trans (show t 2 - 48 = cw w t 10 from rfl)
    · exact (show pgT t 11 = t 3 - 48 from rfl).trans (show t 3 - 48 = cw w t 11 from rfl)
    · exact (show pgT t 12 = t 4 - 48 from rfl).trans (show t 4 - 48 = cw w t 12 from rfl)
    · exact (show pgT t 13 = t 5 - 48 from rfl).trans (show t 5 - 48 = cw w t 13 from rfl)
    · exact (show pgT t 14 = t 6 - 48 from rfl).trans (show t 6 - 48 = cw w t 14 from rfl)
    · exact (show pgT t 15 = 0 from rfl).trans (h15.symm.trans (show w 15 = cw w t 15 from rfl))
    · exact (show pgT t 25 = t 6 - 48 from rfl).trans (show t 6 - 48 = cw w t 25 from rfl)
    · exact (show pgT t 26 = t 7 - 48 from rfl).trans (show t 7 - 48 = cw w t 26 from rfl)
    · exact (show pgT t 27 = t 8 - 48 from rfl).trans (show t 8 - 48 = cw w t 27 from rfl)
    · exact (show pgT t 28 = t 3 - 48 from rfl).trans (show t 3 - 48 = cw w t 28 from rfl)
    · exact (show pgT t 29 = 0 from rfl).trans (h29.symm.trans (show w 29 = cw w t 29 from rfl))
  · exfalso
    have hk' : k < hN e (pgT t) := hk
    rw [hN_pgT t he] at hk'
    omega
theorem upd39 {w w' : Nat → Int32} (j : Nat) (x : Int32) (h : ∀ i, i < 39 → w i = w' i) : ∀ i, i < 39 → upd w j x i = upd w' j x i := by
  intro i hi
  by_cases q : i = j
  · subst q
    rw [upd_s, upd_s]
  · rw [upd_n _ _ q, upd_n _ _ q]
    exact h i hi
theorem l4_39 (e : Nat) : ∀ (r j : Nat) (w w' : Nat → Int32), (∀ i, i < 39 → w i = w' i) → ∀ i, i < 39 → l4 e r j w i = l4 e r j w' i
  | 0, _, _, _, h => h
  | r + 1, j, _, _, h => l4_39 e r (j + 1) _ _ (upd39 _ _ h)
theorem frst_39 (w w' : Nat → Int32) : ∀ i, i < 39 → frst w i = frst w' i := by
  unfold frst
  refine l4_39 1 4 0 _ _ (l4_39 0 4 0 _ _ (upd39 _ _ (upd39 _ _ (fun i hi => ?_))))
  unfold zr
  rw [if_pos hi, if_pos hi]
theorem hdr_39 (t : Nat → Int32) : ∀ (r v : Nat) (w w' : Nat → Int32), (∀ i, i < 39 → w i = w' i) → ∀ i, i < 39 → hdr t r v w i = hdr t r v w' i
  | 0, _, _, _, h => h
  | r + 1, v, _, _, h => hdr_39 t r (v + 1) _ _ (upd39 _ _ h)
theorem fin9_39 {w w' : Nat → Int32} (h : ∀ i, i < 39 → w i = w' i) : ∀ i, i < 39 → fin9 w i = fin9 w' i := by
  unfold fin9
  rw [h (11 + 14 * 1) (by omega), upd39 (11 + 14 * 0 + 3) (w' (11 + 14 * 1)) h (11 + 14 * 0) (by omega)]
  exact upd39 _ _ (upd39 _ _ h)
theorem pgT_39 (t w : Nat → Int32) : ∀ i, i < 39 → pgT t i = fin9 (hdr t 8 0 (frst w)) i := fin9_39 (hdr_39 t 8 0 _ _ (frst_39 _ w))
theorem fp_ok (t : Nat → Int32) : ∀ (r p : Nat), p + r < 2 ^ 31 → fp t r p = -9 → (∀ i, p ≤ i → i < p + r → okS i (t i) = true) ∧ 9 ≤ p + r
  | 0, p, hp, h => by
    rw [fp] at h
    by_cases q : p < 9
    · exfalso
      rw [if_pos q] at h
      have := congrArg Int32.toInt h
      rw [nI_toInt (by omega)] at this
      have h9' : (-9 : Int32).toInt = -9 := by decide
      omega
    · exact ⟨fun i h1 h2 => absurd h2 (by omega), by omega⟩
  | r + 1, p, hp, h => by
    rw [fp] at h
    by_cases q : okS p (t p) = true
    · rw [if_pos q] at h
      obtain ⟨a, b⟩ := fp_ok t r (p + 1) (by omega) h
      refine ⟨fun i h1 h2 => ?_, by omega⟩
      by_cases e : i = p
      · subst e
        exact q
      · exact a i (by omega) (by omega)
    · exfalso
      rw [if_neg q] at h
      have := congrArg Int32.toInt h
      rw [nI_toInt (by omega)] at this
      have h9' : (-9 : Int32).toInt = -9 := by decide
      omega
theorem fg_n {x : Int32} (h : 1 ≤ x - 48 ∧ x - 48 ≤ 9) : ∃ j, 1 ≤ j ∧ j ≤ 9 ∧ x - 48 = nI j ∧ x = nI (j + 48) := by
  obtain ⟨j, j1, j9, hj⟩ := nI_cases1 (n := 9) rfl h
  refine ⟨j, j1, j9, hj, ?_⟩
  have := congrArg (fun z => z + 48) hj
  simp at this
  rw [this]
  exact nI_add j 48
theorem hd_n {p : Nat} {x : Int32} (h1 : 1 ≤ p) (h8 : p ≤ 8) (h : okS p x = true) : ∃ j, 1 ≤ j ∧ j ≤ 9 ∧ x - 48 = nI j := by
  have q := (okH h1 h8 rfl).mp h
  have q1 : 1 ≤ x - 48 := by
    have q2 := q.1
    revert q2
    split
    · intro q2
      rw [Int32.le_iff_toInt_le] at q2 ⊢
      have e1 : (1 : Int32).toInt = 1 := by decide
      have e2 : (nI 2).toInt = 2 := by decide
      omega
    · exact fun q2 => q2
  obtain ⟨j, a, b, c, -⟩ := fg_n ⟨q1, q.2⟩
  exact ⟨j, a, b, c⟩
theorem ev_n {p : Nat} {x : Int32} (h9 : 9 ≤ p) (h : okS p x = true) : ∃ j, 1 ≤ j ∧ j ≤ 11 ∧ cd x = nI j ∧ x = nI (enc j) := by
  rw [okS9 h9] at h
  by_cases q : ltr x = true
  · have q' : x = 97 ∨ x = 98 := of_decide_eq_true q
    unfold cd
    rw [if_pos q]
    rcases q' with rfl | rfl
    · exact ⟨10, by omega, by omega, by decide, by decide⟩
    · exact ⟨11, by omega, by omega, by decide, by decide⟩
  · have qf : ltr x = false := by cases hh : ltr x <;> simp_all
    rw [qf, Bool.or_false] at h
    obtain ⟨j, j1, j9, hj, he⟩ := fg_n (of_decide_eq_true h)
    refine ⟨j, j1, by omega, ?_, ?_⟩
    · unfold cd
      rw [if_neg q]
      exact hj
    · unfold enc
      rw [if_pos (by omega)]
      exact he
theorem fresh_pgT {t : Nat → Int32} (h : ∀ i, 1 ≤ i → i ≤ 8 → okS i (t i) = true) : fresh (pgT t) := by
  have f : ∀ i, 1 ≤ i → i ≤ 8 → ∃ j, 1 ≤ j ∧ j ≤ 9 ∧ t i - 48 = nI j := fun i h1 h2 => hd_n h1 h2 (h i h1 h2)
  refine ⟨⟨Or.inl rfl, fun _ => rfl, fun _ => rfl, ⟨0, Nat.le_refl _, rfl⟩, f 2 (by omega) (by omega), fun i hi => ?_, fun e he => ⟨0, by omega, ?_, fun k hk => absurd hk (by omega)⟩⟩, fun i hi => ?_, rfl, rfl⟩
  · rcases hi with rfl | rfl | rfl | rfl | rfl | rfl | rfl | rfl
    · exact f 3 (by omega) (by omega)
    · exact f 4 (by omega) (by omega)
    · exact f 5 (by omega) (by omega)
    · exact f 6 (by omega) (by omega)
    · exact f 6 (by omega) (by omega)
    · exact f 7 (by omega) (by omega)
    · exact f 8 (by omega) (by omega)
    · exact f 3 (by omega) (by omega)
  · rcases he with rfl | rfl <;> rfl
  · rcases (show i = 0 ∨ i = 1 ∨ i = 2 ∨ i = 3 ∨ i = 4 ∨ i = 5 ∨ i = 6 ∨ i = 7 ∨ i = 8 by omega) with rfl | rfl | rfl | rfl | rfl | rfl | rfl | rfl | rfl <;> rfl
/-! the reference's link -/
def dE (c : Nat → Nat) : Nat → Nat → (Nat → Int32) → (Nat → Int32)
  | 0, _, w => w
  | r + 1, i, w => dE c r (i + 1) (doEv true true true (c i) w)
theorem bit0 (e : Int32) : bit 0 e = false := by
  unfold bit
  rw [show (0 : Int32) >>> (e &&& 31) = 0 by simp]
  decide
theorem dE_run (c : Nat → Nat) : ∀ (r i n : Nat) (w : Nat → Int32), dE c r i w = runE true true true 0 c r i n w
  | 0, _, _, _ => rfl
  | r + 1, i, n, w => by
    rw [dE, runE, doEv]
    by_cases q : c i < 10
    · rw [if_pos q, if_pos q]
      exact dE_run c r (i + 1) n _
    · rw [if_neg q, if_neg q, if_neg (by rw [bit0]; simp)]
      exact dE_run c r (i + 1) (n + 1) _
section LM
variable {F : Hp} {sd : Int64} {c : Nat → Nat} {s : Nat → Int32}
theorem m_lkE {m : Nat} (h7 : s 21 = 7) (hm : s 10 = nI m) (hc : EvOk c m) : ∀ (r i n C : Nat) (ar : Nat → Nat → Int32), i + r = m → r < n → C + 9 * r < 100000000 → Wf C (ar 111) → (∀ k, k < m → ar 110 k = nI (c k)) → (∀ k, k < i → ar 113 k = nI (c k)) → ∃ ar', g_X8_link_b49 n (mh F s sd ar) 107 (nI i) = some (dE c r i (ar 111) 3, mh F (upd s 13 0) sd ar') ∧ ar' 111 = dE c r i (ar 111) ∧ (∀ k, k < m → ar' 113 k = nI (c k)) ∧ ar' 117 = upd (upd (ar 117) 0 0) 1 0 ∧ ∀ k, k ≠ 111 → k ≠ 113 → k ≠ 117 → ar' k = ar k := by
  have h71 := hc.1
  intro r
  induction r with
  | zero =>
    intro i n C ar hi hn hC hw h110 h113
    obtain ⟨n, rfl⟩ : ∃ n', n = n' + 1 := ⟨n - 1, by omega⟩
    refine ⟨va_up ar 117 (upd (upd (ar 117) 0 0) 1 0), ?_, ?_, ?_, va_up_self _ _ _, fun k k1 k2 k3 => va_up_ne _ _ k3⟩
    · rw [g_X8_link_b49, mh_g10, Option.bind_some, hm, if_pos (nI_le (by omega) (by omega)), mh_p13, Option.bind_some, mh_r15, Option.bind_some, show sI (mh F (upd s 13 0) sd ar) 117 1 0 0 = _ from mh_st _ _ _ _ (p := 117) (kd := 1) (n := 2) (j := 0) (by omega) rfl rfl (by omega) (by omega) 0, Option.bind_some, mh_r15, Option.bind_some, show sI (mh F (upd s 13 0) sd (va_up ar 117 (upd (ar 117) 0 0))) 117 1 1 0 = _ from mh_st _ _ _ _ (p := 117) (kd := 1) (n := 2) (j := 1) (by omega) rfl rfl (by omega) (by omega) 0, Option.bind_some, va_up_self, va_up2, mh_r7, Option.bind_some, show aI (mh F (upd s 13 0) sd (va_up ar 117 (upd (upd (ar 117) 0 0) 1 0))) 111 0 3 = _ from mh_ld _ _ _ _ (p := 111) (kd := 0) (n := 39) (j := 3) (by omega) rfl rfl (by omega) (by omega), Option.bind_some, va_up_ne _ _ (show 111 ≠ 117 by omega), dE]
    · rw [va_up_ne _ _ (by omega), dE]
    · intro k hk
      rw [va_up_ne _ _ (by omega)]
      exact h113 k (by omega)
  | succ r ih =>
    intro i n C ar hi hn hC hw h110 h113
    obtain ⟨n, rfl⟩ : ∃ n', n = n' + 1 := ⟨n - 1, by omega⟩
    have hk2 := hc.2 i (by omega)
    have de := m_doEvent (F := F) (s := s) (sd := sd) (ar := va_up ar 113 (upd (ar 113) i (nI (c i)))) (p := 111) (n := c i) (C := C) (by omega) hk2.1 hk2.2 (by omega) (by rw [va_up_ne _ _ (by omega)]; exact hw)
    rw [h7, show bit 7 2 = true from rfl, show bit 7 0 = true from rfl, show bit 7 1 = true from rfl, va_up_ne _ _ (show 111 ≠ 113 by omega)] at de
    have hw2 : Wf (C + 9) (doEv true true true (c i) (ar 111)) := by
      unfold doEv
      split
      · exact Wf_mono (by omega) (Wf_tkN (by omega) hw)
      · exact Wf_mono (by omega) (Wf_bring (by omega) (by omega) hw)
    obtain ⟨ar', i1, i2, i3, i4, i5⟩ := ih (i + 1) n (C + 9) (va_up (va_up ar 113 (upd (ar 113) i (nI (c i)))) 111 (doEv true true true (c i) (ar 111))) (by omega) (by omega) (by omega) (by rw [va_up_self]; exact hw2) (fun k hk => by rw [va_up_ne _ _ (by omega), va_up_ne _ _ (by omega)]; exact h110 k hk) (fun k hk => by
      rw [va_up_ne _ _ (by omega), va_up_self]
      by_cases q : k = i
      · subst q
        rw [upd_s]
      · rw [upd_n _ _ q]
        exact h113 k (by omega))
    rw [va_up_self] at i1 i2
    refine ⟨ar', ?_, by rw [dE]; exact i2, i3, by rw [i4, va_up_ne _ _ (by omega), va_up_ne _ _ (by omega)], fun k k1 k2 k3 => by rw [i5 k k1 k2 k3, va_up_ne _ _ k1, va_up_ne _ _ k2]⟩
    rw [g_X8_link_b49, mh_g10, Option.bind_some, hm, if_neg (nI_ge (by omega) (by omega)), mh_r9, Option.bind_some, mh_r5, Option.bind_some, mh_ld _ _ _ _ (p := 110) (kd := 0) (n := 80) (by omega) rfl rfl (by omega) (by omega), Option.bind_some, h110 i (by omega), mh_st _ _ _ _ (p := 113) (kd := 0) (n := 80) (by omega) rfl rfl (by omega) (by omega), Option.bind_some, mh_r7, Option.bind_some, mh_r9, Option.bind_some, mh_ld _ _ _ _ (p := 113) (kd := 0) (n := 80) (by omega) rfl rfl (by omega) (by omega), Option.bind_some, va_up_self, upd_s, ckO_t (mh_isO _ _ _ _), de, Option.bind_some, nI_1, dE]
    exact i1
end LM
