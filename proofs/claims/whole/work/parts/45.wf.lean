/-! what a tick keeps: bounds, and that dead letters don't count -/
def Lw (C : Nat) (w : Nat → Int32) : Prop :=
  (∀ i, i = 11 ∨ i = 12 ∨ i = 13 ∨ i = 14 ∨ i = 25 ∨ i = 26 ∨ i = 27 ∨ i = 28 → ∃ v, 1 ≤ v ∧ v ≤ 9 ∧ w i = nI v) ∧
  ∀ e, e = 0 ∨ e = 1 → ∃ h, h ≤ 9 ∧ w (15 + 14 * e) = nI h ∧ ∀ k, k < h → ∃ v, v ≤ 10 * C + 9 ∧ w (16 + 14 * e + k) = nI v
theorem Lw_mono {C C' : Nat} {w : Nat → Int32} (hC : C ≤ C') (h : Lw C w) : Lw C' w := by
  refine ⟨h.1, fun e he => ?_⟩
  obtain ⟨n, h1, h2, h3⟩ := h.2 e he
  refine ⟨n, h1, h2, fun k hk => ?_⟩
  obtain ⟨v, h4, h5⟩ := h3 k hk
  exact ⟨v, by omega, h5⟩
theorem Lw_up {C : Nat} {w : Nat → Int32} {i : Nat} (x : Int32) (hi : i < 11) (h : Lw C w) : Lw C (upd w i x) := by
  refine ⟨fun j hj => ?_, fun e he => ?_⟩
  · obtain ⟨v, h1, h2, h3⟩ := h.1 j hj
    exact ⟨v, h1, h2, by rw [upd_n _ _ (by omega)]; exact h3⟩
  · obtain ⟨n, h1, h2, h3⟩ := h.2 e he
    refine ⟨n, h1, by rw [upd_n _ _ (by omega)]; exact h2, fun k hk => ?_⟩
    obtain ⟨v, h4, h5⟩ := h3 k hk
    exact ⟨v, h4, by rw [upd_n _ _ (by omega)]; exact h5⟩
theorem snd_low {e : Nat} {w : Nat → Int32} {i : Nat} (he : e = 0 ∨ e = 1) (h : i < 5 ∨ (7 < i ∧ i < 14) ∨ (24 < i ∧ i < 28)) (hd : hN e w ≤ 9) : snd e w i = w i := by
  rcases he with rfl | rfl
  · exact snd_n (by omega) (by omega) (by omega)
  · exact snd_n (by omega) (by omega) (by omega)
theorem Lw_snd {C e : Nat} {w : Nat → Int32} (he : e = 0 ∨ e = 1) (hC : C < 100000000) (hw : Lw C w) : Lw C (snd e w) := by
  obtain ⟨h, h9, hh, hl⟩ := hw.2 e he
  have hNe := hN_of hh h9
  refine ⟨fun i hi => ?_, fun e' he' => ?_⟩
  · obtain ⟨v, v1, v2, v3⟩ := hw.1 i hi
    by_cases hc : i = 28 - 14 * e
    · subst hc
      unfold snd
      by_cases h0 : h = 0
      · subst h0
        rw [hh, if_pos (by decide)]
        exact ⟨v, v1, v2, v3⟩
      · obtain ⟨u, u1, u2⟩ := hl 0 (by omega)
        rw [hh, if_neg (nI_nle (by omega) (by omega)), upd_s]
        have er : jrem (w (16 + 14 * e)) 10 = nI (u % 10) := by
          rw [show w (16 + 14 * e) = nI u from u2]
          exact nI_rem (by omega) (b := 10) (by omega) (by omega)
        rw [er]
        by_cases hz : u % 10 = 0
        · rw [hz, if_pos (by decide)]
          exact ⟨v, v1, v2, v3⟩
        · rw [if_neg (nI_nle (by omega) (by omega))]
          exact ⟨u % 10, by omega, by omega, rfl⟩
    · refine ⟨v, v1, v2, ?_⟩
      rw [snd_n (by omega) (by rw [hNe]; rcases he with rfl | rfl <;> omega) hc]
      exact v3
  · by_cases hee : e' = e
    · subst hee
      refine ⟨h - 1, by omega, snd_hold he hh h9, fun k hk => ?_⟩
      obtain ⟨v, v1, v2⟩ := hl (k + 1) (by omega)
      refine ⟨v, v1, ?_⟩
      unfold snd
      rw [hh, if_neg (nI_nle (by omega) (by omega)), upd_n _ _ (by rcases he with rfl | rfl <;> omega), upd_n _ _ (by omega), upd_n _ _ (by omega), upd_n _ _ (by omega), upd_n _ _ (by omega), hNe]
      unfold shf
      rw [if_pos (by omega)]
      exact v2
    · obtain ⟨h', g1, g2, g3⟩ := hw.2 e' he'
      refine ⟨h', g1, ?_, fun k hk => ?_⟩
      · rw [snd_n (by omega) (by rw [hNe]; omega) (by omega)]
        exact g2
      · obtain ⟨v, v1, v2⟩ := g3 k hk
        refine ⟨v, v1, ?_⟩
        rw [snd_n (by omega) (by rw [hNe]; omega) (by omega)]
        exact v2
theorem Lw_hN {C e : Nat} {w : Nat → Int32} (he : e = 0 ∨ e = 1) (hw : Lw C w) : hN e w ≤ 9 := by
  obtain ⟨h, h9, hh, -⟩ := hw.2 e he
  rw [hN_of hh h9]
  exact h9
theorem Wf_Lw {C : Nat} {w : Nat → Int32} (h : Wf C w) : Lw C w := ⟨h.2.2.2.2.2.1, h.2.2.2.2.2.2⟩
theorem Wf_of {C : Nat} {w : Nat → Int32} (h1 : w 0 = 0 ∨ w 0 = 1 ∨ w 0 = 2 ∨ w 0 = 3) (h2 : (w 0 = 0 ∨ w 0 = 2) → w 1 = 0) (h3 : ¬ w 0 = 2 → w 2 = 0) (h4 : ∃ c, c ≤ C ∧ w 3 = nI c) (h5 : ∃ r, 1 ≤ r ∧ r ≤ 9 ∧ w 10 = nI r) (h6 : Lw C w) : Wf C w := ⟨h1, h2, h3, h4, h5, h6.1, h6.2⟩
theorem Wf_mono {C C' : Nat} {w : Nat → Int32} (hC : C ≤ C') (h : Wf C w) : Wf C' w := by
  obtain ⟨h1, h2, h3, ⟨c, hc, e⟩, h5, -⟩ := id h
  exact Wf_of h1 h2 h3 ⟨c, by omega, e⟩ h5 (Lw_mono hC (Wf_Lw h))
theorem Wf_tk {C : Nat} {w : Nat → Int32} (mg u0 u1 : Bool) (hC : C < 100000000) (hw : Wf C w) : Wf (C + 1) (tk mg u0 u1 w) := by
  obtain ⟨hp, hl, hs, ⟨cl, hcl, h3⟩, h10, -⟩ := id hw
  have hL : Lw C (tk1 w) := Lw_up _ (by omega) (Lw_up _ (by omega) (Wf_Lw hw))
  have t0 : tk1 w 0 = w 0 := rfl
  have t1 : tk1 w 1 = w 1 := rfl
  have t2 : tk1 w 2 = w 2 := rfl
  have t10 : tk1 w 10 = w 10 := rfl
  have t3 : tk1 w 3 = nI (cl + 1) := by
    show w 3 + 1 = _
    rw [h3, nI_1]
  unfold tk
  by_cases c0 : w 0 = 0
  · rw [if_pos c0]
    have L0 := Lw_snd (Or.inl rfl) hC hL
    have L1 := Lw_snd (Or.inr rfl) hC L0
    have lo : ∀ i, i < 5 ∨ (7 < i ∧ i < 14) → snd 1 (snd 0 (tk1 w)) i = tk1 w i := fun i hi => by
      rw [snd_low (Or.inr rfl) (by omega) (Lw_hN (Or.inr rfl) L0), snd_low (Or.inl rfl) (by omega) (Lw_hN (Or.inl rfl) hL)]
    have a0 := lo 0 (by omega)
    have a1 := lo 1 (by omega)
    have a2 := lo 2 (by omega)
    have a3 := lo 3 (by omega)
    have a10 := lo 10 (by omega)
    generalize snd 1 (snd 0 (tk1 w)) = w2 at L1 a0 a1 a2 a3 a10
    rw [t0, c0] at a0
    rw [t1, hl (Or.inl c0)] at a1
    rw [t2, hs (by rw [c0]; decide)] at a2
    unfold tkA
    split
    · refine Wf_of (Or.inr (Or.inl rfl)) (fun h => ?_) (fun _ => ?_) ⟨cl + 1, by omega, ?_⟩ ?_ (Lw_mono (Nat.le_succ C) (Lw_up _ (by omega) (Lw_up _ (by omega) L1)))
      · have q : upd (upd w2 0 1) 1 (w2 9) 0 = 1 := rfl
        rw [q] at h
        exact absurd h (by decide)
      · exact a2
      · exact a3.trans t3
      · obtain ⟨r, r1, r2, r3⟩ := h10
        exact ⟨r, r1, r2, a10.trans (t10.trans r3)⟩
    · refine Wf_of (Or.inl a0) (fun _ => a1) (fun _ => a2) ⟨cl + 1, by omega, a3.trans t3⟩ ?_ (Lw_mono (Nat.le_succ C) L1)
      obtain ⟨r, r1, r2, r3⟩ := h10
      exact ⟨r, r1, r2, a10.trans (t10.trans r3)⟩
  · rw [if_neg c0]
    by_cases c1 : w 0 = 1
    · rw [if_pos c1]
      unfold tkG
      split
      · next hz =>
        refine Wf_of (Or.inr (Or.inr (Or.inl rfl))) (fun _ => hz) (fun h => absurd rfl h) ⟨cl + 1, by omega, t3⟩ h10 (Lw_mono (Nat.le_succ C) (Lw_up _ (by omega) (Lw_up _ (by omega) (Lw_up _ (by omega) hL))))
      · refine Wf_of (Or.inr (Or.inl rfl)) (fun h => ?_) (fun _ => rfl) ⟨cl + 1, by omega, t3⟩ h10 (Lw_mono (Nat.le_succ C) (Lw_up _ (by omega) (Lw_up _ (by omega) (Lw_up _ (by omega) hL))))
        have q : upd (upd (upd (tk1 w) 1 (w 1 - 1)) 0 1) 2 0 0 = 1 := rfl
        rw [q] at h
        exact absurd h (by decide)
    · rw [if_neg c1]
      by_cases c2 : w 0 = 2
      · rw [if_pos c2]
        unfold tkS
        split
        · refine Wf_of (Or.inr (Or.inr (Or.inr rfl))) (fun h => ?_) (fun _ => rfl) ⟨cl + 1, by omega, t3⟩ h10 (Lw_mono (Nat.le_succ C) (Lw_up _ (by omega) (Lw_up _ (by omega) (Lw_up _ (by omega) (Lw_up _ (by omega) hL)))))
          have q : upd (upd (upd (upd (tk1 w) 2 (w 2 + 1)) 0 3) 1 (wk (upd (tk1 w) 2 (w 2 + 1)))) 2 0 0 = 3 := rfl
          rw [q] at h
          exact absurd h (by decide)
        · exact Wf_of (Or.inr (Or.inr (Or.inl c2))) (fun _ => hl (Or.inr c2)) (fun h => absurd c2 h) ⟨cl + 1, by omega, t3⟩ h10 (Lw_mono (Nat.le_succ C) (Lw_up _ (by omega) hL))
      · rw [if_neg c2]
        have c3 : w 0 = 3 := by
          rcases hp with h | h | h | h
          · exact absurd h c0
          · exact absurd h c1
          · exact absurd h c2
          · exact h
        unfold tkW
        split
        · next hz =>
          exact Wf_of (Or.inl rfl) (fun _ => hz) (fun _ => hs c2) ⟨cl + 1, by omega, t3⟩ h10 (Lw_mono (Nat.le_succ C) (Lw_up _ (by omega) (Lw_up _ (by omega) hL)))
        · refine Wf_of (Or.inr (Or.inr (Or.inr rfl))) (fun h => ?_) (fun _ => hs c2) ⟨cl + 1, by omega, t3⟩ h10 (Lw_mono (Nat.le_succ C) (Lw_up _ (by omega) (Lw_up _ (by omega) hL)))
          have q : upd (upd (tk1 w) 1 (w 1 - 1)) 0 3 0 = 3 := rfl
          rw [q] at h
          exact absurd h (by decide)
theorem Wf_cm {C e t : Nat} {w : Nat → Int32} (he : e = 0 ∨ e = 1) (hC : C < 100000000) (ht : t ≤ 9) (hw : Wf C w) (hf : hN e w < 9) : Wf C (cm e (nI t) w) := by
  obtain ⟨hp, hl, hs, ⟨cl, hcl, h3⟩, h10, hfg, hE⟩ := id hw
  obtain ⟨h, h9, hh, hlt⟩ := hE e he
  have hNe := hN_of hh h9
  rw [hNe] at hf
  have lo : ∀ i, i < 15 ∨ (24 < i ∧ i < 29) → cm e (nI t) w i = w i := fun i hi => by
    unfold cm
    rw [hNe, upd_n _ _ (by omega), upd_n _ _ (by omega)]
  have nv : 10 * w 3 + nI t = nI (10 * cl + t) := by
    rw [h3, show (10 : Int32) = nI 10 from rfl, nI_mul, nI_add]
  refine ⟨?_, ?_, ?_, ?_, ?_, ?_, ?_⟩
  · rw [lo 0 (by omega)]; exact hp
  · rw [lo 0 (by omega), lo 1 (by omega)]; exact hl
  · rw [lo 0 (by omega), lo 2 (by omega)]; exact hs
  · rw [lo 3 (by omega)]; exact ⟨cl, hcl, h3⟩
  · rw [lo 10 (by omega)]; exact h10
  · intro i hi
    rw [lo i (by omega)]
    exact hfg i hi
  · intro e' he'
    by_cases hee : e' = e
    · subst hee
      refine ⟨h + 1, by omega, ?_, fun k hk => ?_⟩
      · unfold cm
        rw [upd_s, hh, nI_1]
      · unfold cm
        rw [hNe, upd_n _ _ (by omega)]
        by_cases hkh : k = h
        · subst hkh
          rw [upd_s, nv]
          exact ⟨_, by omega, rfl⟩
        · rw [upd_n _ _ (by omega)]
          exact hlt k (by omega)
    · obtain ⟨h', g1, g2, g3⟩ := hE e' he'
      refine ⟨h', g1, ?_, fun k hk => ?_⟩
      · unfold cm
        rw [hNe, upd_n _ _ (by omega), upd_n _ _ (by omega)]
        exact g2
      · unfold cm
        rw [hNe, upd_n _ _ (by omega), upd_n _ _ (by omega)]
        exact g3 k hk
