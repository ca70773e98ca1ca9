/-! events: what both sides do with them -/
theorem and1 (x : Int32) : (x &&& 1) = 0 ∨ (x &&& 1) = 1 := by
  have h : (x &&& 1).toBitVec = x.toBitVec &&& 1#32 := rfl
  rw [BitVec.and_one_eq_setWidth_ofBool_getLsbD] at h
  cases hb : x.toBitVec.getLsbD 0 with
  | true => right; apply Int32.toBitVec_inj.mp; rw [h, hb]; rfl
  | false => left; apply Int32.toBitVec_inj.mp; rw [h, hb]; rfl
theorem bit_f {x e : Int32} : (((x >>> (e &&& 31)) &&& 1) = 0) ↔ bit x e = false := by
  unfold bit
  rcases and1 (x >>> (e &&& 31)) with h | h
  · rw [h]; decide
  · rw [h]; decide
def bring (e : Nat) (w : Nat → Int32) : Nat → Int32 := if hN e w < 9 then cm e 0 w else upd w 8 (w 8 + 1)
def runE (mg u0 u1 : Bool) (gone : Int32) (c : Nat → Nat) : Nat → Nat → Nat → (Nat → Int32) → (Nat → Int32)
  | 0, _, _, w => w
  | r + 1, k, n, w => if c k < 10 then runE mg u0 u1 gone c r (k + 1) n (tkN mg u0 u1 (c k) w) else if n < 6 ∧ bit gone (nI n) = true then runE mg u0 u1 gone c r (k + 1) (n + 1) w else runE mg u0 u1 gone c r (k + 1) (n + 1) (bring (c k - 10) w)
def EvOk (c : Nat → Nat) (m : Nat) : Prop := m ≤ 71 ∧ ∀ k, k < m → 1 ≤ c k ∧ c k ≤ 11
theorem Wf_up8 {C : Nat} {w : Nat → Int32} {i : Nat} (x : Int32) (hi : 4 ≤ i ∧ i < 10) (h : Wf C w) : Wf C (upd w i x) := by
  obtain ⟨h1, h2, h3, h4, h5, -⟩ := id h
  refine Wf_of ?_ ?_ ?_ ?_ ?_ (Lw_up x (by omega) (Wf_Lw h))
  · rw [upd_n _ _ (by omega)]; exact h1
  · rw [upd_n _ _ (by omega), upd_n _ _ (by omega)]; exact h2
  · rw [upd_n _ _ (by omega), upd_n _ _ (by omega)]; exact h3
  · rw [upd_n _ _ (by omega)]; exact h4
  · rw [upd_n _ _ (by omega)]; exact h5
theorem Wf_bring {C e : Nat} {w : Nat → Int32} (he : e = 0 ∨ e = 1) (hC : C < 100000000) (h : Wf C w) : Wf C (bring e w) := by
  unfold bring
  split
  · next hf => exact Wf_cm (t := 0) he hC (by omega) h hf
  · exact Wf_up8 _ (by omega) h
theorem Eqv_bring {C e : Nat} {w w' : Nat → Int32} (he : e = 0 ∨ e = 1) (hw : Wf C w) (h : Eqv w w') : Eqv (bring e w) (bring e w') := by
  unfold bring
  rw [Eqv_hN h he, ← h.1 8 (by omega)]
  split
  · next hf => exact Eqv_cm _ he (Wf_Lw hw) hf h
  · exact Eqv_upd _ (by omega) h
theorem md_bring {C e : Nat} {u0 u1 : Bool} {w : Nat → Int32} (he : e = 0 ∨ e = 1) (hw : Wf C w) : bring e (md u0 u1 w) = md u0 u1 (bring e w) := by
  unfold bring
  rw [md_hN he, md_n (i := 8) (by omega) (by omega), md_cm _ he (Lw_hN he (Wf_Lw hw)), md_upd _ (by omega) (by omega)]
  split <;> rfl
theorem Wf_runE {mg u0 u1 : Bool} {gone : Int32} {c : Nat → Nat} {m : Nat} (hc : EvOk c m) : ∀ (r k n C : Nat) (w : Nat → Int32), k + r = m → C + 9 * r < 100000000 → Wf C w → Wf (C + 9 * r) (runE mg u0 u1 gone c r k n w) := by
  intro r
  induction r with
  | zero => intro k n C w _ _ h; exact h
  | succ r ih =>
    intro k n C w hk hC hw
    have h1 := (hc.2 k (by omega))
    rw [runE]
    split
    · next ht =>
      have := ih (k + 1) n (C + c k) (tkN mg u0 u1 (c k) w) (by omega) (by omega) (Wf_tkN (by omega) hw)
      exact Wf_mono (by omega) this
    · next ht =>
      split
      · exact Wf_mono (by omega) (ih (k + 1) (n + 1) C w (by omega) (by omega) hw)
      · exact Wf_mono (by omega) (ih (k + 1) (n + 1) C _ (by omega) (by omega) (Wf_bring (by omega) (by omega) hw))
theorem Eqv_runE {mg u0 u1 : Bool} {gone : Int32} {c : Nat → Nat} {m : Nat} (hc : EvOk c m) : ∀ (r k n C : Nat) (w w' : Nat → Int32), k + r = m → C + 9 * r < 100000000 → Wf C w → Eqv w w' → Eqv (runE mg u0 u1 gone c r k n w) (runE mg u0 u1 gone c r k n w') := by
  intro r
  induction r with
  | zero => intro k n C w w' _ _ _ h; exact h
  | succ r ih =>
    intro k n C w w' hk hC hw h
    have h1 := (hc.2 k (by omega))
    rw [runE, runE]
    split
    · next ht => exact ih (k + 1) n (C + c k) _ _ (by omega) (by omega) (Wf_tkN (by omega) hw) (Eqv_tkN (C := C) (by omega) hw h)
    · next ht =>
      split
      · exact ih (k + 1) (n + 1) C _ _ (by omega) (by omega) hw h
      · exact ih (k + 1) (n + 1) C _ _ (by omega) (by omega) (Wf_bring (by omega) (by omega) hw) (Eqv_bring (by omega) hw h)
theorem md_runE {mg u0 u1 : Bool} {gone : Int32} {c : Nat → Nat} {m : Nat} (hc : EvOk c m) : ∀ (r k n C : Nat) (w : Nat → Int32), k + r = m → C + 9 * r < 100000000 → Wf C w → runE mg true true gone c r k n (md u0 u1 w) = md u0 u1 (runE mg u0 u1 gone c r k n w) := by
  intro r
  induction r with
  | zero => intro k n C w _ _ _; rfl
  | succ r ih =>
    intro k n C w hk hC hw
    have h1 := (hc.2 k (by omega))
    rw [runE, runE]
    split
    · next ht =>
      rw [md_tkN (C := C) (by omega) hw]
      exact ih (k + 1) n (C + c k) _ (by omega) (by omega) (Wf_tkN (by omega) hw)
    · next ht =>
      split
      · exact ih (k + 1) (n + 1) C _ (by omega) (by omega) hw
      · rw [md_bring (by omega) hw]
        exact ih (k + 1) (n + 1) C _ (by omega) (by omega) (Wf_bring (by omega) (by omega) hw)
/-! the program's Script at 3, its row of events at 9 -/
def enc (c : Nat) : Nat := if c < 10 then c + 48 else c + 87
def SC (F : Hp) (m : Nat) (c : Nat → Nat) : Prop := F 3 = .inr (2, [.ref 4, .ref 9, .int (nI m)]) ∧ (∃ f, F 9 = .inl (0, 71, .inl f) ∧ ∀ k, k < m → f k = nI (enc (c k))) ∧ EvOk c m
theorem SC_fr {F F1 : Hp} {m : Nat} {c : Nat → Nat} (h : SC F m c) (h3 : F1 3 = F 3) (h9 : F1 9 = F 9) : SC F1 m c := by
  unfold SC
  rw [h3, h9]
  exact h
section SCR
variable {F : Hp} {m : Nat} {c : Nat → Nat}
theorem SC_g2 (h : SC F m c) : gI F 3 2 2 = some (nI m) := by simp only [gI, gV, h.1]; rfl
theorem SC_g1 (h : SC F m c) : gR F 3 2 1 = some 9 := by simp only [gR, gV, h.1]; rfl
theorem SC_g0 (h : SC F m c) : gR F 3 2 0 = some 4 := by simp only [gR, gV, h.1]; rfl
theorem SC_o (h : SC F m c) : isO F 3 2 = true := by simp [isO, h.1]
theorem SC_n (h : SC F m c) : aN F 9 = some (nI 71) := by
  obtain ⟨f, hf, -⟩ := h.2.1
  simp only [aN, hf]; rfl
theorem SC_ld (h : SC F m c) {k : Nat} (hk : k < m) : aI F 9 0 (nI k) = some (nI (enc (c k))) := by
  obtain ⟨f, hf, hv⟩ := h.2.1
  have hm := h.2.2.1
  have hb : ¬ (nI k < 0 ∨ 71 ≤ (nI k).toNatClampNeg) := nI_in (by omega) (by omega)
  have hg : gA F 9 0 = some (71, f) := by simp only [gA, hf]; rfl
  unfold aI
  rw [hg]
  show (if nI k < 0 ∨ 71 ≤ (nI k).toNatClampNeg then none else some (f (nI k).toNatClampNeg)) = _
  rw [if_neg hb, nI_clamp (by omega), hv k hk]
theorem c_isLetter {n : Nat} (F : Hp) (h1 : 1 ≤ n) (h2 : n ≤ 11) : g_X2_isLetter F (nI (enc n)) = some (if n < 10 then 0 else 1, F) := by
  unfold g_X2_isLetter g_X2_isLetter_b12 enc
  rcases (show n = 1 ∨ n = 2 ∨ n = 3 ∨ n = 4 ∨ n = 5 ∨ n = 6 ∨ n = 7 ∨ n = 8 ∨ n = 9 ∨ n = 10 ∨ n = 11 by omega) with rfl | rfl | rfl | rfl | rfl | rfl | rfl | rfl | rfl | rfl | rfl <;> rfl
theorem c_bring {a e C : Nat} {mg : Int32} {w : Nat → Int32} (he : e = 0 ∨ e = 1) (hw : Wf C w) : g_X2_bring (dz F a mg w) a (nI (97 + e)) = some (dz F a mg (bring e w)) := by
  obtain ⟨n, h9, hh, -⟩ := hw.2.2.2.2.2.2 e he
  unfold g_X2_bring bring
  rw [ckO_t (dz_isO _ _ _ _), show nI (97 + e) - 97 = nI e by rw [show (97 : Int32) = nI 97 from rfl, nI_sub (by omega), show 97 + e - 97 = e by omega], c_receive he hh h9, hN_of hh h9]
  by_cases hc : n < 9
  · rw [if_pos hc, if_pos hc, bnd2_s, if_neg (by decide)]
  · rw [if_neg hc, if_neg hc, bnd2_s, if_pos rfl, dz_g13, Option.bind_some, dz_p13, Option.bind_some]
theorem SC_dz {a : Nat} {mg : Int32} {w : Nat → Int32} (ha : 10 ≤ a) (h : SC F m c) : SC (dz F a mg w) m c := SC_fr h (dz_n (by omega)) (dz_n (by omega))
theorem c_perL {a : Nat} {mg gone : Int32} (ha : 10 ≤ a) (h : SC F m c) : ∀ (r k n fu C : Nat) (w : Nat → Int32), k + r = m → n ≤ k → r < fu → C + 9 * r < 100000000 → Wf C w → g_X2_perform_b5 fu (dz F a mg w) 3 a gone (nI n) (nI k) = some (dz F a mg (runE (decide (¬ mg = 0)) true true gone c r k n w)) := by
  intro r
  induction r with
  | zero =>
    intro k n fu C w hk hn hfu hC hw
    obtain ⟨fu, rfl⟩ : ∃ n', fu = n' + 1 := ⟨fu - 1, by omega⟩
    have hm := h.2.2.1
    rw [g_X2_perform_b5, SC_g2 (SC_dz ha h), Option.bind_some, if_pos (nI_le (by omega) (by omega))]
    rfl
  | succ r ih =>
    intro k n fu C w hk hn hfu hC hw
    obtain ⟨fu, rfl⟩ : ∃ n', fu = n' + 1 := ⟨fu - 1, by omega⟩
    have hm := h.2.2.1
    have hk2 := h.2.2.2 k (by omega)
    have hS := SC_dz (mg := mg) (w := w) ha h
    rw [g_X2_perform_b5, SC_g2 hS, Option.bind_some, if_neg (nI_ge (by omega) (by omega)), SC_g1 hS, Option.bind_some, SC_n hS, Option.bind_some, if_neg (nI_ge (by omega) (by omega)), Option.bind_some, SC_ld hS (by omega), Option.bind_some, c_isLetter _ hk2.1 hk2.2, bnd2_s, runE]
    by_cases ht : c k < 10
    · have e1 : nI (enc (c k)) - 48 = nI (c k) := by
        unfold enc
        rw [if_pos ht, show (48 : Int32) = nI 48 from rfl, nI_sub (by omega), Nat.add_sub_cancel]
      rw [if_pos ht, if_pos rfl, ckO_t (dz_isO _ _ _ _), e1, c_elapse (by omega) (by omega) hw, Option.bind_some, if_pos ht]
      simp only [g_X2_perform_b88]
      rw [nI_1]
      exact ih (k + 1) n fu (C + c k) _ (by omega) (by omega) (by omega) (by omega) (Wf_tkN (by omega) hw)
    · have he : c k - 10 = 0 ∨ c k - 10 = 1 := by omega
      have e1 : nI (enc (c k)) = nI (97 + (c k - 10)) := by
        unfold enc
        rw [if_neg ht]
        congr 1
        omega
      have yes : g_X2_perform_b67 (g_X2_perform_b5 fu) (dz F a mg w) 3 a gone (nI n) (nI k) (nI (enc (c k))) = some (dz F a mg (runE (decide (¬ mg = 0)) true true gone c r (k + 1) (n + 1) (bring (c k - 10) w))) := by
        simp only [g_X2_perform_b67, g_X2_perform_b72, g_X2_perform_b88]
        rw [if_neg (by decide), e1, c_bring he hw, Option.bind_some, nI_1, nI_1]
        exact ih (k + 1) (n + 1) fu C _ (by omega) (by omega) (by omega) (by omega) (Wf_bring he (by omega) hw)
      have no : g_X2_perform_b72 (g_X2_perform_b5 fu) (dz F a mg w) 3 a gone (nI n) (nI k) (nI (enc (c k))) 0 = some (dz F a mg (runE (decide (¬ mg = 0)) true true gone c r (k + 1) (n + 1) w)) := by
        simp only [g_X2_perform_b72, g_X2_perform_b88]
        rw [if_pos trivial, nI_1, nI_1]
        exact ih (k + 1) (n + 1) fu C _ (by omega) (by omega) (by omega) (by omega) hw
      rw [if_neg ht, if_neg (by decide), yes, no, if_neg ht]
      by_cases h6 : n < 6
      · rw [if_neg (show ¬ (6 : Int32) ≤ nI n from nI_ge (b := 6) h6 (by omega))]
        by_cases hb : bit gone (nI n) = true
        · rw [if_neg (fun q => by rw [bit_f.mp q] at hb; cases hb), if_pos ⟨h6, hb⟩]
        · have hb' : bit gone (nI n) = false := by
            cases hq : bit gone (nI n) with
            | true => exact absurd hq hb
            | false => rfl
          rw [if_pos (bit_f.mpr hb'), if_neg (fun q => hb q.2)]
      · rw [if_pos (show (6 : Int32) ≤ nI n from nI_le (a := 6) (by omega) (by omega)), if_neg (fun q => h6 q.1)]
theorem c_perform {a C : Nat} {mg gone : Int32} {w : Nat → Int32} (ha : 10 ≤ a) (h : SC F m c) (hC : C + 9 * m < 100000000) (hw : Wf C w) : g_X2_perform (dz F a mg w) 3 a gone = some (dz F a mg (runE (decide (¬ mg = 0)) true true gone c m 0 0 w)) := by
  have hm := h.2.2.1
  exact c_perL ha h m 0 0 gF C w (by omega) (by omega) (by unfold gF; omega) hC hw
/-- how many letters there are -/
def ltrs (c : Nat → Nat) : Nat → Nat
  | 0 => 0
  | r + 1 => ltrs c r + (if c r < 10 then 0 else 1)
theorem ltrs_le (c : Nat → Nat) : ∀ r, ltrs c r ≤ r
  | 0 => Nat.le_refl _
  | r + 1 => by
    have := ltrs_le c r
    rw [ltrs]
    split <;> omega
theorem c_ltrL (h : SC F m c) : ∀ (r k fu : Nat), k + r = m → r < fu → g_X2_letters_b4 fu F 3 (nI (ltrs c k)) (nI k) = some (nI (ltrs c m), F) := by
  intro r
  induction r with
  | zero =>
    intro k fu hk hfu
    obtain ⟨fu, rfl⟩ : ∃ n', fu = n' + 1 := ⟨fu - 1, by omega⟩
    have hm := h.2.2.1
    rw [g_X2_letters_b4, SC_g2 h, Option.bind_some, if_pos (nI_le (by omega) (by omega)), show k = m by omega]
  | succ r ih =>
    intro k fu hk hfu
    obtain ⟨fu, rfl⟩ : ∃ n', fu = n' + 1 := ⟨fu - 1, by omega⟩
    have hm := h.2.2.1
    have hk2 := h.2.2.2 k (by omega)
    have hi := ih (k + 1) fu (by omega) (by omega)
    rw [ltrs] at hi
    rw [g_X2_letters_b4, SC_g2 h, Option.bind_some, if_neg (nI_ge (by omega) (by omega)), SC_g1 h, Option.bind_some, SC_n h, Option.bind_some, if_neg (nI_ge (by omega) (by omega)), Option.bind_some, SC_ld h (by omega), Option.bind_some, c_isLetter _ hk2.1 hk2.2, bnd2_s]
    simp only [g_X2_letters_b36]
    rw [nI_1, nI_1]
    by_cases ht : c k < 10
    · rw [if_pos ht] at hi
      rw [if_pos ht, if_pos rfl]
      exact hi
    · rw [if_neg ht] at hi
      rw [if_neg ht, if_neg (by decide)]
      exact hi
theorem c_letters (h : SC F m c) : g_X2_letters F 3 = some (nI (ltrs c m), F) := by
  have hm := h.2.2.1
  exact c_ltrL h m 0 gF (by omega) (by unfold gF; omega)
end SCR
