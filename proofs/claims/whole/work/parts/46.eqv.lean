/-! pages that differ in dead letters alone -/
def EqN (n : Nat → Nat) (w w' : Nat → Int32) : Prop := (∀ i, i < 16 ∨ (25 ≤ i ∧ i < 30) → w i = w' i) ∧ ∀ e, e = 0 ∨ e = 1 → ∀ k, k < n e → w (16 + 14 * e + k) = w' (16 + 14 * e + k)
def Eqv (w w' : Nat → Int32) : Prop := EqN (fun e => hN e w) w w'
theorem EqN_upd {n : Nat → Nat} {w w' : Nat → Int32} (i : Nat) (x : Int32) (h : EqN n w w') : EqN n (upd w i x) (upd w' i x) := by
  have key : ∀ j, w j = w' j → upd w i x j = upd w' i x j := fun j hj => by
    by_cases hc : j = i
    · subst hc; rw [upd_s, upd_s]
    · rw [upd_n _ _ hc, upd_n _ _ hc, hj]
  exact ⟨fun j hj => key j (h.1 j hj), fun e he k hk => key _ (h.2 e he k hk)⟩
theorem EqN_mono {n m : Nat → Nat} {w w' : Nat → Int32} (hm : ∀ e, e = 0 ∨ e = 1 → m e ≤ n e) (h : EqN n w w') : EqN m w w' := ⟨h.1, fun e he k hk => h.2 e he k (Nat.lt_of_lt_of_le hk (hm e he))⟩
theorem Eqv_hN {w w' : Nat → Int32} (h : Eqv w w') {e : Nat} (he : e = 0 ∨ e = 1) : hN e w' = hN e w := by
  unfold hN
  rw [h.1 (15 + 14 * e) (by omega)]
theorem Eqv_refl (w : Nat → Int32) : Eqv w w := ⟨fun _ _ => rfl, fun _ _ _ _ => rfl⟩
theorem Eqv_symm {w w' : Nat → Int32} (h : Eqv w w') : Eqv w' w := ⟨fun i hi => (h.1 i hi).symm, fun e he k hk => (h.2 e he k (by show k < hN e w; rw [← Eqv_hN h he]; exact hk)).symm⟩
theorem Eqv_trans {w w' w'' : Nat → Int32} (h : Eqv w w') (h' : Eqv w' w'') : Eqv w w'' := ⟨fun i hi => (h.1 i hi).trans (h'.1 i hi), fun e he k hk => (h.2 e he k hk).trans (h'.2 e he k (by show k < hN e w'; rw [Eqv_hN h he]; exact hk))⟩
theorem Lw_eqv {C : Nat} {w w' : Nat → Int32} (h : Eqv w w') (hw : Lw C w) : Lw C w' := by
  refine ⟨fun i hi => ?_, fun e he => ?_⟩
  · rw [← h.1 i (by omega)]
    exact hw.1 i hi
  · obtain ⟨n, h1, h2, h3⟩ := hw.2 e he
    refine ⟨n, h1, by rw [← h.1 _ (by omega)]; exact h2, fun k hk => ?_⟩
    rw [← h.2 e he k (by show k < hN e w; rw [hN_of h2 h1]; exact hk)]
    exact h3 k hk
theorem Wf_eqv {C : Nat} {w w' : Nat → Int32} (h : Eqv w w') (hw : Wf C w) : Wf C w' := by
  obtain ⟨h1, h2, h3, h4, h5, -⟩ := id hw
  rw [h.1 0 (by omega)] at h1 h2 h3
  rw [h.1 1 (by omega)] at h2
  rw [h.1 2 (by omega)] at h3
  rw [h.1 3 (by omega)] at h4
  rw [h.1 10 (by omega)] at h5
  exact Wf_of h1 h2 h3 h4 h5 (Lw_eqv h (Wf_Lw hw))
theorem Eqv_upd {w w' : Nat → Int32} {i : Nat} (x : Int32) (hi : i < 15 ∨ (25 ≤ i ∧ i < 29)) (h : Eqv w w') : Eqv (upd w i x) (upd w' i x) := by
  refine EqN_mono (fun e he => ?_) (EqN_upd i x h)
  show hN e (upd w i x) ≤ hN e w
  unfold hN
  rw [upd_n _ _ (by omega)]
  exact Nat.le_refl _
theorem Eqv_due {w w' : Nat → Int32} {e : Nat} (u : Bool) (he : e = 0 ∨ e = 1) (h : Eqv w w') : due u e w' = due u e w := by
  have hL : ∀ r k, k + r = hN e w → dueL u e w' r k = dueL u e w r k := by
    intro r
    induction r with
    | zero => intro k _; rfl
    | succ r ih =>
      intro k hk
      rw [dueL, dueL, ih (k + 1) (by omega)]
      unfold cnd
      rw [← h.2 e he k (by show k < hN e w; omega), ← h.1 3 (by omega), ← h.1 (13 + 14 * e) (by omega)]
  unfold due
  rw [Eqv_hN h he, hL _ 0 (by omega), ← h.1 (12 + 14 * e) (by omega), ← h.1 (15 + 14 * e) (by omega)]
theorem Eqv_snd {C e : Nat} {w w' : Nat → Int32} (he : e = 0 ∨ e = 1) (hw : Lw C w) (h : Eqv w w') : Eqv (snd e w) (snd e w') := by
  obtain ⟨n, h9, hh, hl⟩ := hw.2 e he
  have hNe := hN_of hh h9
  have hNe' : hN e w' = n := (Eqv_hN h he).trans hNe
  have hh' : w' (15 + 14 * e) = nI n := by rw [← h.1 _ (by omega)]; exact hh
  have h28 : 28 - 14 * e < 16 ∨ (25 ≤ 28 - 14 * e ∧ 28 - 14 * e < 30) := by omega
  by_cases h0 : n = 0
  · subst h0
    have a1 : snd e w = w := by unfold snd; rw [hh, if_pos (by decide)]
    have a2 : snd e w' = w' := by unfold snd; rw [hh', if_pos (by decide)]
    rw [a1, a2]
    exact h
  · have hl0 : w (16 + 14 * e) = w' (16 + 14 * e) := h.2 e he 0 (by show 0 < hN e w; omega)
    have hle : ¬ w (15 + 14 * e) ≤ 0 := by rw [hh]; exact nI_nle (by omega) (by omega)
    have hle' : ¬ w' (15 + 14 * e) ≤ 0 := by rw [hh']; exact nI_nle (by omega) (by omega)
    have base : EqN (fun e' => if e' = e then n - 1 else hN e' w) (shf (16 + 14 * e) n w) (shf (16 + 14 * e) n w') := by
      refine ⟨fun i hi => ?_, fun e' he' k hk => ?_⟩
      · unfold shf
        rw [if_neg (by omega), if_neg (by omega)]
        exact h.1 i hi
      · unfold shf
        by_cases hee : e' = e
        · subst hee
          simp only [if_true] at hk
          rw [if_pos (by omega), if_pos (by omega)]
          exact h.2 e' he' (k + 1) (by show k + 1 < hN e' w; omega)
        · simp only [hee, if_false] at hk
          have hk9 : hN e' w ≤ 9 := Lw_hN he' hw
          rw [if_neg (by omega), if_neg (by omega)]
          exact h.2 e' he' k hk
    have hold : snd e w (15 + 14 * e) = nI (n - 1) := snd_hold he hh h9
    have main : EqN (fun e' => if e' = e then n - 1 else hN e' w) (snd e w) (snd e w') := by
      unfold snd
      rw [if_neg hle, if_neg hle', hNe, hNe', ← hl0, ← h.1 3 (by omega), ← h.1 5 (by omega), ← h.1 6 (by omega), ← h.1 7 (by omega), ← h.1 (15 + 14 * e) (by omega), ← h.1 (28 - 14 * e) h28]
      exact EqN_upd _ _ (EqN_upd _ _ (EqN_upd _ _ (EqN_upd _ _ (EqN_upd _ _ base))))
    refine EqN_mono (fun e' he' => ?_) main
    show hN e' (snd e w) ≤ if e' = e then n - 1 else hN e' w
    by_cases hee : e' = e
    · subst hee
      simp only [if_true]
      rw [hN_of hold (by omega)]
      exact Nat.le_refl _
    · simp only [hee, if_false]
      unfold hN
      rw [snd_n (by omega) (by rw [hNe]; omega) (by omega)]
      exact Nat.le_refl _
theorem Eqv_tk {C : Nat} {w w' : Nat → Int32} (mg u0 u1 : Bool) (hC : C < 100000000) (hw : Wf C w) (h : Eqv w w') : Eqv (tk mg u0 u1 w) (tk mg u0 u1 w') := by
  have hp : pwr w' = pwr w := by unfold pwr; rw [← h.1 0 (by omega), ← h.1 2 (by omega), ← h.1 10 (by omega)]
  have h1 : Eqv (tk1 w) (tk1 w') := by
    unfold tk1
    rw [hp, ← h.1 4 (by omega), ← h.1 3 (by omega)]
    exact Eqv_upd _ (by omega) (Eqv_upd _ (by omega) h)
  have hL : Lw C (tk1 w) := Lw_up _ (by omega) (Lw_up _ (by omega) (Wf_Lw hw))
  unfold tk
  rw [← h.1 0 (by omega), ← h.1 1 (by omega), ← h.1 2 (by omega)]
  split
  · have g0 := Eqv_snd (Or.inl rfl) hL h1
    have g1 := Eqv_snd (Or.inr rfl) (Lw_snd (Or.inl rfl) hC hL) g0
    generalize snd 1 (snd 0 (tk1 w)) = w2 at g1
    generalize snd 1 (snd 0 (tk1 w')) = w3 at g1
    unfold tkA emp
    rw [← g1.1 15 (by omega), ← g1.1 29 (by omega), ← g1.1 9 (by omega)]
    split
    · exact Eqv_upd _ (by omega) (Eqv_upd _ (by omega) g1)
    · exact g1
  · split
    · have g := Eqv_upd (i := 1) (w 1 - 1) (by omega) h1
      generalize upd (tk1 w) 1 (w 1 - 1) = w2 at g
      generalize upd (tk1 w') 1 (w 1 - 1) = w3 at g
      unfold tkG
      rw [← g.1 1 (by omega)]
      split <;> exact Eqv_upd _ (by omega) (Eqv_upd _ (by omega) g)
    · split
      · have g := Eqv_upd (i := 2) (w 2 + 1) (by omega) h1
        generalize upd (tk1 w) 2 (w 2 + 1) = w2 at g
        generalize upd (tk1 w') 2 (w 2 + 1) = w3 at g
        have hk : wk w3 = wk w2 := by unfold wk; rw [← g.1 11 (by omega), ← g.1 14 (by omega), ← g.1 25 (by omega), ← g.1 28 (by omega)]
        unfold tkS
        rw [Eqv_due u0 (Or.inl rfl) g, Eqv_due u1 (Or.inr rfl) g, hk]
        split
        · exact Eqv_upd _ (by omega) (Eqv_upd _ (by omega) (Eqv_upd _ (by omega) g))
        · exact g
      · have g := Eqv_upd (i := 1) (w 1 - 1) (by omega) h1
        generalize upd (tk1 w) 1 (w 1 - 1) = w2 at g
        generalize upd (tk1 w') 1 (w 1 - 1) = w3 at g
        unfold tkW
        rw [← g.1 1 (by omega)]
        split <;> exact Eqv_upd _ (by omega) g
theorem Eqv_cm {C e : Nat} {w w' : Nat → Int32} (t : Int32) (he : e = 0 ∨ e = 1) (hw : Lw C w) (hf : hN e w < 9) (h : Eqv w w') : Eqv (cm e t w) (cm e t w') := by
  obtain ⟨n, h9, hh, hl⟩ := hw.2 e he
  have hNe := hN_of hh h9
  rw [hNe] at hf
  have m1 : EqN (fun e' => if e' = e then n + 1 else hN e' w) (upd w (16 + 14 * e + n) (10 * w 3 + t)) (upd w' (16 + 14 * e + n) (10 * w 3 + t)) := by
    have b := EqN_upd (16 + 14 * e + n) (10 * w 3 + t) h
    refine ⟨b.1, fun e' he' k hk => ?_⟩
    by_cases hee : e' = e
    · subst hee
      simp only [if_true] at hk
      by_cases hkn : k = n
      · subst hkn; rw [upd_s, upd_s]
      · exact b.2 e' he' k (by show k < hN e' w; omega)
    · simp only [hee, if_false] at hk
      exact b.2 e' he' k hk
  have m2 : EqN (fun e' => if e' = e then n + 1 else hN e' w) (cm e t w) (cm e t w') := by
    unfold cm
    rw [Eqv_hN h he, hNe, ← h.1 3 (by omega), ← h.1 (15 + 14 * e) (by omega)]
    exact EqN_upd _ _ m1
  refine EqN_mono (fun e' he' => ?_) m2
  show hN e' (cm e t w) ≤ if e' = e then n + 1 else hN e' w
  by_cases hee : e' = e
  · subst hee
    simp only [if_true]
    have : cm e' t w (15 + 14 * e') = nI (n + 1) := by unfold cm; rw [upd_s, hh, nI_1]
    rw [hN_of this (by omega)]
    exact Nat.le_refl _
  · simp only [hee, if_false]
    unfold hN cm
    rw [hNe, upd_n _ _ (by omega), upd_n _ _ (by omega)]
    exact Nat.le_refl _
/-! savers that are away -/
def md (u0 u1 : Bool) (w : Nat → Int32) : Nat → Int32 := fun i => if i = 12 ∧ u0 = false then 1 else if i = 26 ∧ u1 = false then 1 else w i
theorem md_n {u0 u1 : Bool} {w : Nat → Int32} {i : Nat} (h1 : i ≠ 12) (h2 : i ≠ 26) : md u0 u1 w i = w i := by
  unfold md
  rw [if_neg (fun h => h1 h.1), if_neg (fun h => h2 h.1)]
theorem md_tt (w : Nat → Int32) : md true true w = w := by
  funext i
  unfold md
  rw [if_neg (fun h => by cases h.2), if_neg (fun h => by cases h.2)]
theorem md_upd {u0 u1 : Bool} {w : Nat → Int32} {i : Nat} (x : Int32) (h1 : i ≠ 12) (h2 : i ≠ 26) : upd (md u0 u1 w) i x = md u0 u1 (upd w i x) := by
  funext j
  by_cases hj : j = i
  · subst hj; rw [upd_s, md_n h1 h2, upd_s]
  · rw [upd_n _ _ hj]
    unfold md
    rw [upd_n _ _ hj]
theorem md_hN {u0 u1 : Bool} {w : Nat → Int32} {e : Nat} (he : e = 0 ∨ e = 1) : hN e (md u0 u1 w) = hN e w := by
  unfold hN
  rw [md_n (by omega) (by omega)]
theorem md_shf {u0 u1 : Bool} {w : Nat → Int32} {e n : Nat} (he : e = 0 ∨ e = 1) (hn : n ≤ 9) : shf (16 + 14 * e) n (md u0 u1 w) = md u0 u1 (shf (16 + 14 * e) n w) := by
  funext i
  by_cases hc : 16 + 14 * e ≤ i ∧ i + 1 < 16 + 14 * e + n
  · rw [md_n (by omega) (by omega)]
    unfold shf
    rw [if_pos hc, if_pos hc, md_n (by omega) (by omega)]
  · have : ∀ v : Nat → Int32, shf (16 + 14 * e) n v i = v i := fun v => by unfold shf; rw [if_neg hc]
    rw [this]
    unfold md
    rw [this]
theorem md_snd {C e : Nat} {u0 u1 : Bool} {w : Nat → Int32} (he : e = 0 ∨ e = 1) (hw : Lw C w) : snd e (md u0 u1 w) = md u0 u1 (snd e w) := by
  unfold snd
  rw [md_hN he, md_n (show 15 + 14 * e ≠ 12 by omega) (show 15 + 14 * e ≠ 26 by omega), md_n (show 16 + 14 * e ≠ 12 by omega) (show 16 + 14 * e ≠ 26 by omega), md_n (show 28 - 14 * e ≠ 12 by omega) (show 28 - 14 * e ≠ 26 by omega), md_n (i := 3) (by omega) (by omega), md_n (i := 5) (by omega) (by omega), md_n (i := 6) (by omega) (by omega), md_n (i := 7) (by omega) (by omega), md_shf he (Lw_hN he hw)]
  split
  · rfl
  · rw [md_upd _ (by omega) (by omega), md_upd _ (by omega) (by omega), md_upd _ (by omega) (by omega), md_upd _ (by omega) (by omega), md_upd _ (by omega) (by omega)]
theorem md_due {C e : Nat} {u0 u1 : Bool} {w : Nat → Int32} (he : e = 0 ∨ e = 1) (hw : Lw C w) : due true e (md u0 u1 w) = due (if e = 0 then u0 else u1) e w := by
  obtain ⟨n, h9, hh, hl⟩ := hw.2 e he
  obtain ⟨cv, cv1, cv2, cv3⟩ := hw.1 (12 + 14 * e) (by omega)
  have hNe := hN_of hh h9
  have hL : ∀ r k, k + r = n → dueL true e (md u0 u1 w) r k = dueL true e w r k := by
    intro r
    induction r with
    | zero => intro k _; rfl
    | succ r ih =>
      intro k hk
      rw [dueL, dueL, ih (k + 1) (by omega)]
      unfold cnd
      rw [md_n (show 16 + 14 * e + k ≠ 12 by omega) (show 16 + 14 * e + k ≠ 26 by omega), md_n (i := 3) (by omega) (by omega), md_n (show 13 + 14 * e ≠ 12 by omega) (show 13 + 14 * e ≠ 26 by omega)]
  unfold due
  rw [md_hN he, hNe, hL n 0 (by omega), md_n (show 15 + 14 * e ≠ 12 by omega) (show 15 + 14 * e ≠ 26 by omega), hh, cv3]
  cases hu : (if e = 0 then u0 else u1) with
  | true =>
    have : md u0 u1 w (12 + 14 * e) = nI cv := by
      unfold md
      rcases he with rfl | rfl
      · simp at hu
        subst hu
        simp only [Nat.reduceMul, Nat.reduceAdd] at cv3 ⊢
        simp [cv3]
      · simp at hu
        subst hu
        simp only [Nat.reduceMul, Nat.reduceAdd] at cv3 ⊢
        simp [cv3]
    rw [this]
  | false =>
    have e1 : md u0 u1 w (12 + 14 * e) = nI 1 := by
      unfold md
      rcases he with rfl | rfl
      · simp at hu
        subst hu
        rfl
      · simp at hu
        subst hu
        simp
        rfl
    rw [e1]
    by_cases h0 : n = 0
    · subst h0
      have q1 : ¬ nI 1 ≤ nI 0 := by decide
      have q2 : ¬ nI cv ≤ nI 0 := nI_ge (by omega) (by omega)
      simp [q1, q2, dueL]
    · have q1 : nI 1 ≤ nI n := nI_le (by omega) (by omega)
      obtain ⟨n', rfl⟩ : ∃ n', n = n' + 1 := ⟨n - 1, by omega⟩
      simp [q1, dueL, cnd]
theorem md_tk {C : Nat} {u0 u1 : Bool} {w : Nat → Int32} (mg : Bool) (hC : C < 100000000) (hw : Wf C w) : tk mg true true (md u0 u1 w) = md u0 u1 (tk mg u0 u1 w) := by
  have hL : Lw C (tk1 w) := Lw_up _ (by omega) (Lw_up _ (by omega) (Wf_Lw hw))
  have h1 : tk1 (md u0 u1 w) = md u0 u1 (tk1 w) := by
    unfold tk1 pwr
    rw [md_n (i := 0) (by omega) (by omega), md_n (i := 2) (by omega) (by omega), md_n (i := 3) (by omega) (by omega), md_n (i := 4) (by omega) (by omega), md_n (i := 10) (by omega) (by omega), md_upd _ (by omega) (by omega), md_upd _ (by omega) (by omega)]
  unfold tk
  rw [h1, md_n (i := 0) (by omega) (by omega), md_n (i := 1) (by omega) (by omega), md_n (i := 2) (by omega) (by omega)]
  split
  · rw [md_snd (Or.inl rfl) hL, md_snd (Or.inr rfl) (Lw_snd (Or.inl rfl) hC hL)]
    unfold tkA emp
    rw [md_n (i := 15) (by omega) (by omega), md_n (i := 29) (by omega) (by omega), md_n (i := 9) (by omega) (by omega)]
    split
    · rw [md_upd _ (by omega) (by omega), md_upd _ (by omega) (by omega)]
    · rfl
  · split
    · rw [md_upd _ (by omega) (by omega)]
      unfold tkG
      rw [md_n (i := 1) (by omega) (by omega)]
      split <;> rw [md_upd _ (by omega) (by omega), md_upd _ (by omega) (by omega)]
    · split
      · rw [md_upd _ (by omega) (by omega)]
        unfold tkS
        have L2 : Lw C (upd (tk1 w) 2 (w 2 + 1)) := Lw_up _ (by omega) hL
        have d0 := md_due (u0 := u0) (u1 := u1) (Or.inl rfl) L2
        have d1 := md_due (u0 := u0) (u1 := u1) (Or.inr rfl) L2
        simp only [if_true] at d0
        rw [if_neg (by omega)] at d1
        have hk : wk (md u0 u1 (upd (tk1 w) 2 (w 2 + 1))) = wk (upd (tk1 w) 2 (w 2 + 1)) := by
          unfold wk
          rw [md_n (i := 11) (by omega) (by omega), md_n (i := 14) (by omega) (by omega), md_n (i := 25) (by omega) (by omega), md_n (i := 28) (by omega) (by omega)]
        rw [d0, d1, hk]
        split
        · rw [md_upd _ (by omega) (by omega), md_upd _ (by omega) (by omega), md_upd _ (by omega) (by omega)]
        · rfl
      · rw [md_upd _ (by omega) (by omega)]
        unfold tkW
        rw [md_n (i := 1) (by omega) (by omega)]
        split <;> rw [md_upd _ (by omega) (by omega)]
theorem md_cm {e : Nat} {u0 u1 : Bool} {w : Nat → Int32} (t : Int32) (he : e = 0 ∨ e = 1) (h9 : hN e w ≤ 9) : cm e t (md u0 u1 w) = md u0 u1 (cm e t w) := by
  unfold cm
  rw [md_hN he, md_n (i := 3) (by omega) (by omega), md_n (show 15 + 14 * e ≠ 12 by omega) (show 15 + 14 * e ≠ 26 by omega), md_upd _ (by omega) (by omega), md_upd _ (by omega) (by omega)]
