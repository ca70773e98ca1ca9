/-! the reference's own methods, over its canonical heap -/
def cp (w w' : Nat → Int32) : Nat → Int32 := fun i => if i < 39 then w i else w' i
theorem Eqv_cp {C : Nat} {w : Nat → Int32} (w' : Nat → Int32) (hw : Lw C w) : Eqv w (cp w w') := by
  refine ⟨fun i hi => ?_, fun e he k hk => ?_⟩
  · unfold cp; rw [if_pos (by omega)]
  · have := Lw_hN he hw
    have hk2 : k < hN e w := hk
    unfold cp; rw [if_pos (by omega)]
theorem pq39 {p : Nat} (h : p = 109 ∨ p = 111 ∨ p = 112 ∨ p = 114) : (108 ≤ p ∧ p < 121) ∧ p ≠ 117 ∧ mlen p = 39 ∧ (if p = 117 then 1 else 0) = 0 := by
  rcases h with rfl | rfl | rfl | rfl <;> decide
section MF
variable {F : Hp} {s : Nat → Int32} {sd : Int64} {ar : Nat → Nat → Int32}
theorem mt {p C : Nat} (hp : p = 109 ∨ p = 111 ∨ p = 112 ∨ p = 114) (hw : Wf C (ar p)) : g_X8_tick (mh F s sd ar) 107 p = some (mh F s sd (va_up ar p (tk (bit (s 21) 2) (bit (s 21) 0) (bit (s 21) 1) (ar p)))) := by
  obtain ⟨h1, h7, hn, -⟩ := pq39 hp
  obtain ⟨-, -, -, -, ⟨r, r1, r2, r3⟩, -, hE⟩ := id hw
  obtain ⟨n0, a0, b0, -⟩ := hE 0 (Or.inl rfl)
  obtain ⟨n1, a1, b1, -⟩ := hE 1 (Or.inr rfl)
  have h := m_tick (F := mh F s sd ar) (q := p) (m := 107) (w := ar p) (by omega) (mh_g21 F s sd ar) b0 b1 a0 a1 (by rw [r3]; exact nI_ne0 (by omega) (by omega))
  rw [← mh_pg0 F s sd ar h1 h7 hn, mh_pg F s sd ar h1 h7 hn] at h
  exact h
theorem m_layL {p q : Nat} (hp : p = 109 ∨ p = 111 ∨ p = 112 ∨ p = 114) (hq : q = 109 ∨ q = 111 ∨ q = 112 ∨ q = 114) (hpq : p ≠ q) : ∀ (r k n : Nat), k + r = 39 → r < n → g_X8_lay_b2 n (mh F s sd (va_up ar q (fun i => if i < k then ar p i else ar q i))) p q (nI k) = some (mh F s sd (va_up ar q (cp (ar p) (ar q)))) := by
  obtain ⟨p1, p7, pn, pk⟩ := pq39 hp
  obtain ⟨q1, q7, qn, qk⟩ := pq39 hq
  intro r
  induction r with
  | zero =>
    intro k n hk hn
    obtain ⟨n, rfl⟩ : ∃ n', n = n' + 1 := ⟨n - 1, by omega⟩
    rw [g_X8_lay_b2, if_pos (show (39 : Int32) ≤ nI k from nI_le (a := 39) (by omega) (by omega)), show k = 39 by omega]
    rfl
  | succ r ih =>
    intro k n hk hn
    obtain ⟨n, rfl⟩ : ∃ n', n = n' + 1 := ⟨n - 1, by omega⟩
    rw [g_X8_lay_b2, if_neg (show ¬ (39 : Int32) ≤ nI k from nI_ge (b := 39) (by omega) (by omega)), mh_ld _ _ _ _ p1 pk pn (by omega) (by omega), Option.bind_some, mh_st _ _ _ _ q1 qk qn (by omega) (by omega), Option.bind_some, nI_1, va_up_ne _ _ hpq, va_up2, va_up_self]
    have e : upd (fun i => if i < k then ar p i else ar q i) k (ar p k) = fun i => if i < k + 1 then ar p i else ar q i := by
      funext i
      by_cases hi : i = k
      · subst hi; rw [upd_s, if_pos (by omega)]
      · rw [upd_n _ _ hi]
        by_cases hc : i < k
        · rw [if_pos hc, if_pos (by omega)]
        · rw [if_neg hc, if_neg (by omega)]
    rw [e]
    exact ih (k + 1) n (by omega) (by omega)
theorem m_lay {p q : Nat} (hp : p = 109 ∨ p = 111 ∨ p = 112 ∨ p = 114) (hq : q = 109 ∨ q = 111 ∨ q = 112 ∨ q = 114) (hpq : p ≠ q) : g_X8_lay (mh F s sd ar) p q = some (mh F s sd (va_up ar q (cp (ar p) (ar q)))) := by
  have h := m_layL (F := F) (s := s) (sd := sd) (ar := ar) hp hq hpq 39 0 gF (by omega) (by unfold gF; omega)
  have e : va_up ar q (fun i => if i < 0 then ar p i else ar q i) = ar := va_up_eta (by funext i; rw [if_neg (by omega)])
  rw [e] at h
  exact h
theorem m_isQuiet {p : Nat} (hp : p = 109 ∨ p = 111 ∨ p = 112 ∨ p = 114) : g_X8_isQuiet (mh F s sd ar) p = some (if rest true (ar p) = true then 1 else 0, mh F s sd ar) := by
  obtain ⟨p1, p7, pn, pk⟩ := pq39 hp
  have hE := m_isEmpty (mh F s sd ar) p (ar p)
  rw [← mh_pg0 F s sd ar p1 p7 pn] at hE
  unfold g_X8_isQuiet rest
  rw [show aI (mh F s sd ar) p 0 0 = some (ar p 0) from mh_ld F s sd ar (j := 0) p1 pk pn (by omega) (by omega), Option.bind_some, hE, bnd2_s]
  by_cases c : ar p 0 = 2
  · rw [if_pos c]
    cases emp (ar p) with
    | true => simp [c]
    | false => simp
  · rw [if_neg c]
    simp [c]
theorem m_isEmp {p : Nat} (hp : p = 109 ∨ p = 111 ∨ p = 112 ∨ p = 114) : g_X8_isEmpty (mh F s sd ar) p = some (if rest false (ar p) = true then 1 else 0, mh F s sd ar) := by
  obtain ⟨p1, p7, pn, pk⟩ := pq39 hp
  have hE := m_isEmpty (mh F s sd ar) p (ar p)
  rw [← mh_pg0 F s sd ar p1 p7 pn] at hE
  rw [hE]
  unfold rest
  simp
theorem m_quiL : ∀ (r k n C : Nat) (ar : Nat → Nat → Int32), s 21 = 7 → k + r = 100 → r < n → C + r < 100000000 → Wf C (ar 114) → ∃ w, g_X8_quiet_b10 n (mh F s sd ar) 107 (nI k) = some (qui r k (ar 114), mh F s sd (va_up ar 114 w)) := by
  intro r
  induction r with
  | zero =>
    intro k n C ar hs hk hn hC hw
    obtain ⟨n, rfl⟩ : ∃ n', n = n' + 1 := ⟨n - 1, by omega⟩
    refine ⟨ar 114, ?_⟩
    rw [g_X8_quiet_b10, if_pos (show (100 : Int32) ≤ nI k from nI_le (a := 100) (by omega) (by omega)), va_up_eta rfl]
    rfl
  | succ r ih =>
    intro k n C ar hs hk hn hC hw
    obtain ⟨n, rfl⟩ : ∃ n', n = n' + 1 := ⟨n - 1, by omega⟩
    rw [g_X8_quiet_b10, if_neg (show ¬ (100 : Int32) ≤ nI k from nI_ge (b := 100) (by omega) (by omega)), mh_r11, Option.bind_some, m_isQuiet (by omega), bnd2_s, mh_r11, Option.bind_some, ckO_t (mh_isO _ _ _ _), mt (by omega) hw, Option.bind_some, nI_1, qui]
    cases hr : rest true (ar 114) with
    | true =>
      refine ⟨ar 114, ?_⟩
      rw [va_up_eta rfl]
      simp
    | false =>
      have hw2 := Wf_tk (bit (s 21) 2) (bit (s 21) 0) (bit (s 21) 1) (by omega) hw
      obtain ⟨w, h⟩ := ih (k + 1) n (C + 1) (va_up ar 114 (tk (bit (s 21) 2) (bit (s 21) 0) (bit (s 21) 1) (ar 114))) hs (by omega) (by omega) (by omega) (by rw [va_up_self]; exact hw2)
      refine ⟨w, ?_⟩
      rw [if_pos (by decide), h, va_up2, va_up_self, hs]
      simp
      rfl
theorem m_quiet {C : Nat} (hs : s 21 = 7) (hC : C + 100 < 100000000) (hw : Wf C (ar 111)) : ∃ w, g_X8_quiet (mh F s sd ar) 107 111 = some (qui 100 0 (ar 111), mh F s sd (va_up ar 114 w)) := by
  have hE := Eqv_cp (ar 114) (Wf_Lw hw)
  obtain ⟨w, h⟩ := m_quiL (F := F) (sd := sd) 100 0 gF C (va_up ar 114 (cp (ar 111) (ar 114))) hs (by omega) (by unfold gF; omega) hC (by rw [va_up_self]; exact Wf_eqv hE hw)
  refine ⟨w, ?_⟩
  unfold g_X8_quiet
  rw [mh_r11, Option.bind_some, m_lay (by omega) (by omega) (by omega), Option.bind_some]
  rw [va_up2, va_up_self, Eqv_qui 0 hC hw hE] at h
  exact h
theorem m_isFull {p e h : Nat} (hp : p = 109 ∨ p = 111 ∨ p = 112 ∨ p = 114) (he : e = 0 ∨ e = 1) (hh : ar p (15 + 14 * e) = nI h) (h9 : h ≤ 9) : g_X8_isFull (mh F s sd ar) p (nI e) = some (if h < 9 then 0 else 1, mh F s sd ar) := by
  obtain ⟨p1, p7, pn, pk⟩ := pq39 hp
  unfold g_X8_isFull
  rw [m_at, bnd2_s, nI_p4, mh_ld _ _ _ _ p1 pk pn (by omega) (by omega), Option.bind_some, show 11 + 14 * e + 4 = 15 + 14 * e by omega, hh]
  by_cases hc : h < 9
  · rw [if_neg (show ¬ nI h = 9 from fun q => by have := (nI_eq (a := h) (b := 9) (by omega) (by omega)).mp q; omega), if_pos hc]
  · rw [if_pos (show nI h = 9 by rw [show h = 9 by omega]; rfl), if_neg hc]
theorem m_comeOn {p e h : Nat} (t : Int32) (hp : p = 109 ∨ p = 111 ∨ p = 112 ∨ p = 114) (he : e = 0 ∨ e = 1) (hh : ar p (15 + 14 * e) = nI h) (h9 : h < 9) : g_X8_comeOn (mh F s sd ar) p (nI e) t = some (mh F s sd (va_up ar p (cm e t (ar p)))) := by
  obtain ⟨p1, p7, pn, pk⟩ := pq39 hp
  unfold g_X8_comeOn cm
  rw [m_at, bnd2_s, nI_p4, mh_ld _ _ _ _ p1 pk pn (by omega) (by omega), Option.bind_some, show 11 + 14 * e + 4 = 15 + 14 * e by omega, hh, show aI (mh F s sd ar) p 0 3 = some (ar p 3) from mh_ld F s sd ar (j := 3) p1 pk pn (by omega) (by omega), Option.bind_some, nI_p5, nI_add, mh_st _ _ _ _ p1 pk pn (by omega) (by omega), Option.bind_some, mh_ld _ _ _ _ p1 pk pn (by omega) (by omega), Option.bind_some, mh_st _ _ _ _ p1 pk pn (by omega) (by omega), Option.bind_some, va_up2, va_up_self, upd_n _ _ (by omega), hh, hN_of hh (by omega), show 11 + 14 * e + 5 + h = 16 + 14 * e + h by omega]
theorem m_evL {p m : Nat} (hp : p = 109 ∨ p = 111 ∨ p = 112 ∨ p = 114) (hm : m < 2 ^ 31) : ∀ (r k n C : Nat) (ar : Nat → Nat → Int32), k + r = m → r < n → C + r < 100000000 → Wf C (ar p) → g_X8_doEvent_b8 n (mh F s sd ar) 107 p (nI m) (nI k) = some (mh F s sd (va_up ar p (tkN (bit (s 21) 2) (bit (s 21) 0) (bit (s 21) 1) r (ar p)))) := by
  intro r
  induction r with
  | zero =>
    intro k n C ar hk hn hC hw
    obtain ⟨n, rfl⟩ : ∃ n', n = n' + 1 := ⟨n - 1, by omega⟩
    rw [g_X8_doEvent_b8, if_pos (nI_le (by omega) (by omega)), tkN, va_up_eta rfl]
  | succ r ih =>
    intro k n C ar hk hn hC hw
    obtain ⟨n, rfl⟩ : ∃ n', n = n' + 1 := ⟨n - 1, by omega⟩
    have hw2 := Wf_tk (bit (s 21) 2) (bit (s 21) 0) (bit (s 21) 1) (by omega) hw
    rw [g_X8_doEvent_b8, if_neg (nI_ge (by omega) (by omega)), ckO_t (mh_isO _ _ _ _), mt hp hw, Option.bind_some, nI_1, ih (k + 1) n (C + 1) _ (by omega) (by omega) (by omega) (by rw [va_up_self]; exact hw2), va_up2, va_up_self, tkN]
/-- one event -/
def doEv (mg u0 u1 : Bool) (c : Nat) (w : Nat → Int32) : Nat → Int32 := if c < 10 then tkN mg u0 u1 c w else bring (c - 10) w
theorem m_doEvent {p n C : Nat} (hp : p = 109 ∨ p = 111 ∨ p = 112 ∨ p = 114) (h1 : 1 ≤ n) (h2 : n ≤ 11) (hC : C + 9 < 100000000) (hw : Wf C (ar p)) : g_X8_doEvent (mh F s sd ar) 107 p (nI n) = some (mh F s sd (va_up ar p (doEv (bit (s 21) 2) (bit (s 21) 0) (bit (s 21) 1) n (ar p)))) := by
  obtain ⟨p1, p7, pn, pk⟩ := pq39 hp
  unfold g_X8_doEvent doEv
  by_cases hc : n < 10
  · rw [if_neg (show ¬ (10 : Int32) ≤ nI n from nI_ge (b := 10) hc (by omega)), if_pos hc]
    exact m_evL hp (by omega) n 0 gF C ar (by omega) (by unfold gF; omega) (by omega) hw
  · have he : n - 10 = 0 ∨ n - 10 = 1 := by omega
    obtain ⟨h, h9, hh, -⟩ := hw.2.2.2.2.2.2 (n - 10) he
    rw [if_pos (show (10 : Int32) ≤ nI n from nI_le (a := 10) (by omega) (by omega)), if_neg hc, show nI n - 10 = nI (n - 10) by rw [show (10 : Int32) = nI 10 from rfl, nI_sub (by omega)], m_isFull hp he hh h9, bnd2_s]
    unfold bring
    rw [hN_of hh h9]
    by_cases hf : h < 9
    · rw [if_pos hf, if_pos rfl, if_pos hf, m_comeOn 0 hp he hh hf]
      rfl
    · rw [if_neg hf, if_neg (by decide), if_neg hf, show aI (mh F s sd ar) p 0 8 = some (ar p 8) from mh_ld F s sd ar (j := 8) p1 pk pn (by omega) (by omega), Option.bind_some, show ∀ z, sI (mh F s sd ar) p 0 8 z = some (mh F s sd (va_up ar p (upd (ar p) 8 z))) from fun z => mh_st F s sd ar (j := 8) p1 pk pn (by omega) (by omega) z]
      rfl
theorem m_told {p C j : Nat} (hp : p = 109 ∨ p = 111 ∨ p = 112 ∨ p = 114) (hj : j ≤ 9) (hw : Wf C (ar p)) : g_X8_told (mh F s sd ar) p (nI j) = some (fig (nI j) (ar p), mh F s sd ar) := by
  obtain ⟨p1, p7, pn, pk⟩ := pq39 hp
  obtain ⟨hph, hl, hs, -⟩ := id hw
  have ld : ∀ i, i < 39 → aI (mh F s sd ar) p 0 (nI i) = some (ar p i) := fun i hi => mh_ld F s sd ar p1 pk pn hi (by omega)
  have hk := m_wakeTime (mh F s sd ar) p (ar p)
  rw [← mh_pg0 F s sd ar p1 p7 pn] at hk
  unfold g_X8_told g_X8_told_b50
  rw [show (0 : Int32) = nI 0 from rfl, show (1 : Int32) = nI 1 from rfl, show (2 : Int32) = nI 2 from rfl, ld 0 (by omega), ld 1 (by omega), ld 2 (by omega), hk, bnd2_s]
  simp only [Option.bind_some]
  rcases (show j = 0 ∨ j = 1 ∨ j = 2 ∨ j = 3 ∨ (4 ≤ j ∧ j ≤ 9) by omega) with rfl | rfl | rfl | rfl | hj2
  · rfl
  · rw [if_neg (show ¬ nI 1 = nI 0 by decide), if_pos rfl, show fig (nI 1) (ar p) = ar p 1 from rfl]
    by_cases c1 : ar p 0 = nI 1
    · rw [if_pos c1]
    · rw [if_neg c1]
      by_cases c3 : ar p 0 = 3
      · rw [if_pos c3]
      · have hz : ar p 1 = 0 := hl (by
          rcases hph with h | h | h | h
          · exact Or.inl h
          · exact absurd h c1
          · exact Or.inr h
          · exact absurd h c3)
        rw [if_neg c3, hz]
        rfl
  · rw [if_neg (show ¬ nI 2 = nI 0 by decide), if_neg (show ¬ nI 2 = nI 1 by decide), if_pos rfl, show fig (nI 2) (ar p) = ar p 2 from rfl]
    by_cases c2 : ar p 0 = nI 2
    · rw [if_pos c2]
    · rw [if_neg c2, hs c2]
      rfl
  · rfl
  · have e1 : (3 : Int32) + nI j - 4 = nI (j - 1) := by
      rw [show (3 : Int32) = nI 3 from rfl, nI_add, show (4 : Int32) = nI 4 from rfl, nI_sub (by omega)]
      congr 1
      omega
    have n0 : ¬ nI j = nI 0 := fun q => by have := (nI_eq (by omega) (by omega)).mp q; omega
    have n1 : ¬ nI j = nI 1 := fun q => by have := (nI_eq (by omega) (by omega)).mp q; omega
    have n2 : ¬ nI j = nI 2 := fun q => by have := (nI_eq (by omega) (by omega)).mp q; omega
    have n3 : ¬ nI j = 3 := fun q => by have := (nI_eq (a := j) (b := 3) (by omega) (by omega)).mp q; omega
    unfold fig
    rw [if_neg n0, if_neg n1, if_neg n2, if_neg n3, if_neg n3, show (0 : Int32) = nI 0 from rfl, show (1 : Int32) = nI 1 from rfl, show (2 : Int32) = nI 2 from rfl, if_neg n0, if_neg n1, if_neg n2, e1, ld _ (by omega), Option.bind_some, nI_clamp (by omega)]
end MF
