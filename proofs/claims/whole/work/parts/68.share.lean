/-! share -/
theorem md_eq (u0 u1 : Bool) (w : Nat → Int32) : (if u1 = true then (if u0 = true then w else upd w (11 + 14 * 0 + 1) 1) else upd (if u0 = true then w else upd w (11 + 14 * 0 + 1) 1) (11 + 14 * 1 + 1) 1) = md u0 u1 w := by
  funext i
  by_cases i12 : i = 12
  · subst i12
    cases u0 <;> cases u1 <;> rfl
  · by_cases i26 : i = 26
    · subst i26
      cases u0 <;> cases u1 <;> rfl
    · rw [md_n i12 i26]
      cases u0 <;> cases u1
      · show upd (upd w (11 + 14 * 0 + 1) 1) (11 + 14 * 1 + 1) 1 i = w i
        rw [upd_n _ _ (by omega), upd_n _ _ (by omega)]
      · show upd w (11 + 14 * 0 + 1) 1 i = w i
        rw [upd_n _ _ (by omega)]
      · show upd w (11 + 14 * 1 + 1) 1 i = w i
        rw [upd_n _ _ (by omega)]
      · rfl
theorem sv_bits {k : Nat} (hk : k < 8) : ((nI k &&& 1) = 0 ↔ ¬ bit (nI k) 0 = true) ∧ ((nI k &&& 2) = 0 ↔ ¬ bit (nI k) 1 = true) ∧ ((nI k &&& 4) = 0 ↔ ¬ bit (nI k) 2 = true) := by
  rcases (show k = 0 ∨ k = 1 ∨ k = 2 ∨ k = 3 ∨ k = 4 ∨ k = 5 ∨ k = 6 ∨ k = 7 by omega) with rfl | rfl | rfl | rfl | rfl | rfl | rfl | rfl <;> decide
section SH
variable {N : Nat → Nat} {T : Nat → Nat → Int32} {c : Nat → Nat} {G : Nat → Nat → Int32} {sd : Int64}
def eng (c : Nat → Nat) (mn : Nat) (W : Nat → Int32) (sv gone : Int32) : Int32 := play (bit sv 2) (bit sv 0) (bit sv 1) gone c mn W 4
theorem Wf_md {C : Nat} {u0 u1 : Bool} {w : Nat → Int32} (h : Wf C w) : Wf C (md u0 u1 w) := by
  rw [← md_eq]
  cases u0 <;> cases u1
  · exact Wf_upF (i := 11 + 14 * 1 + 1) (v := 1) (by omega) (by omega) (by omega) (Wf_upF (i := 11 + 14 * 0 + 1) (v := 1) (by omega) (by omega) (by omega) h)
  · exact Wf_upF (i := 11 + 14 * 0 + 1) (v := 1) (by omega) (by omega) (by omega) h
  · exact Wf_upF (i := 11 + 14 * 1 + 1) (v := 1) (by omega) (by omega) (by omega) h
  · exact h
theorem c_en63 {F : Hp} {B : Nat} {mg mg' gone : Int32} {u0 u1 : Bool} {w : Nat → Int32} (hW : WS B N T c G) (hC : CS F N T c G sd) (hg : Eqv (G 0) w) (hm : mg' = 0 ∨ mg' = 1) : ∃ F', g_X7_energyOf_b63 (dz F 15 mg (md u0 u1 w)) 0 gone 15 mg' = some (play (decide (¬ mg' = 0)) u0 u1 gone c (N 1) (G 0) 4, F') ∧ CS F' N T c G sd ∧ ∀ j, 107 ≤ j → F' j = F j := by
  have hEv := hW.2.1
  have hw0 := hW.2.2.2.2.2.2.1.1
  have hw1 := Wf_eqv hg hw0
  obtain ⟨p1, p2⟩ := c_playT (mg := mg') (gone := gone) (C := 0) hm hC (by omega) (Wf_md (u0 := u0) (u1 := u1) hw1)
  have hEp := Eqv_play (mg := decide (¬ mg' = 0)) (u0 := u0) (u1 := u1) (gone := gone) hEv (C := 0) (by omega) hw0 hg
  have cs : ∀ v, CS (dz F 15 mg' v) N T c G sd := fun v => CS_trial hm hC
  refine ⟨dz F 15 mg' (play (decide (¬ mg' = 0)) true true gone c (N 1) (md u0 u1 w)), ?_, cs _, fun j hj => dz_n (by omega)⟩
  rw [g_X7_energyOf_b63, dz_pZ _ _ _ _ _ hm, Option.bind_some, CS_r1 (cs _), Option.bind_some, CS_r3 (cs _), Option.bind_some, ckO_t (SC_o (cs _).2.2.1), p1, Option.bind_some, CS_r3 (cs _), Option.bind_some, ckO_t (dz_isO _ _ _ _), p2, Option.bind_some, CS_r3 (cs _), Option.bind_some, dz_g9, Option.bind_some]
  congr 2
  rw [md_play (C := 0) hEv (by omega) hw1, md_n (by omega) (by omega), hEp.1 4 (by omega)]
theorem c_energy {F : Hp} {B k : Nat} {gone : Int32} (hk : k < 8) (hW : WS B N T c G) (hC : CS F N T c G sd) : ∃ F', g_X7_energyOf F 0 (nI k) gone = some (eng c (N 1) (G 0) (nI k) gone, F') ∧ CS F' N T c G sd ∧ ∀ j, 107 ≤ j → F' j = F j := by
  obtain ⟨w, g1, g2⟩ := c_tryStart hW hC
  obtain ⟨b0, b1, b2⟩ := sv_bits hk
  have hS := hC.2.2.1
  have cs : ∀ v, CS (dz F 15 1 v) N T c G sd := fun v => CS_trial (Or.inr rfl) hC
  have e48 : ∀ v, v = md (bit (nI k) 0) (bit (nI k) 1) w → ∃ F', g_X7_energyOf_b48 (dz F 15 1 v) 0 (nI k) gone = some (eng c (N 1) (G 0) (nI k) gone, F') ∧ CS F' N T c G sd ∧ ∀ j, 107 ≤ j → F' j = F j := by
    intro v hv
    subst hv
    rw [g_X7_energyOf_b48, CS_r3 (cs _), Option.bind_some, eng]
    by_cases q : bit (nI k) 2 = true
    · rw [if_neg (fun z => (b2.mp z) q), q]
      exact c_en63 hW hC g2 (Or.inr rfl)
    · rw [if_pos (b2.mpr q), show bit (nI k) 2 = false from by cases h : bit (nI k) 2 <;> simp_all]
      exact c_en63 hW hC g2 (Or.inl rfl)
  have e31 : ∀ v, v = (if bit (nI k) 0 = true then w else upd w (11 + 14 * 0 + 1) 1) → ∃ F', g_X7_energyOf_b31 (dz F 15 1 v) 0 (nI k) gone = some (eng c (N 1) (G 0) (nI k) gone, F') ∧ CS F' N T c G sd ∧ ∀ j, 107 ≤ j → F' j = F j := by
    intro v hv
    rw [g_X7_energyOf_b31]
    by_cases q : bit (nI k) 1 = true
    · rw [if_neg (fun z => (b1.mp z) q)]
      refine e48 v ?_
      rw [← md_eq, if_pos q]
      exact hv
    · rw [if_pos (b1.mpr q), CS_r3 (cs _), Option.bind_some, dz_g1, Option.bind_some, show pV (dz F 15 1 v) (15 + 3) 3 1 (.int 1) = _ from dz_sp1 F 15 1 v (e := 1) (Or.inr rfl) 1, Option.bind_some]
      refine e48 _ ?_
      rw [← md_eq, if_neg q, ← hv]
  rw [g_X7_energyOf, CS_r3 hC, Option.bind_some, CS_r1 hC, Option.bind_some, SC_g0 hS, Option.bind_some, ckO_t (CS_i15 hC), g1, Option.bind_some]
  by_cases q : bit (nI k) 0 = true
  · rw [if_neg (fun z => (b0.mp z) q)]
    exact e31 w (by rw [if_pos q])
  · rw [if_pos (b0.mpr q), CS_r3 (cs _), Option.bind_some, dz_g0, Option.bind_some, show pV (dz F 15 1 w) (15 + 1) 3 1 (.int 1) = _ from dz_sp1 F 15 1 w (e := 0) (Or.inl rfl) 1, Option.bind_some]
    exact e31 _ (by rw [if_neg q])
end SH
/-! ones, factorials, powers -/
def onF (x : Int32) : Nat → Nat → Int32 → Int32
  | 0, _, v => v
  | r + 1, i, v => onF x r (i + 1) (v + ((x >>> (nI i &&& 31)) &&& 1))
theorem m_onL {F : Hp} {x : Int32} : ∀ (r i n : Nat) (v : Int32), i + r = 12 → r < n → g_X8_ones_b4 n F x v (nI i) = some (onF x r i v, F) := by
  intro r
  induction r with
  | zero =>
    intro i n v hi hn
    obtain ⟨n, rfl⟩ : ∃ n', n = n' + 1 := ⟨n - 1, by omega⟩
    rw [g_X8_ones_b4, if_pos (show (12 : Int32) ≤ nI i from nI_le (a := 12) (by omega) (by omega)), onF]
  | succ r ih =>
    intro i n v hi hn
    obtain ⟨n, rfl⟩ : ∃ n', n = n' + 1 := ⟨n - 1, by omega⟩
    rw [g_X8_ones_b4, if_neg (show ¬ (12 : Int32) ≤ nI i from nI_ge (b := 12) (by omega) (by omega)), onF, nI_1]
    exact ih (i + 1) n _ (by omega) (by omega)
theorem m_ones {F : Hp} (x : Int32) : g_X8_ones F x = some (onF x 12 0 0, F) := m_onL 12 0 gF 0 (by omega) (by unfold gF; omega)
theorem m_fac {F : Hp} {o : Nat} (ho : o ≤ 2) : g_X8_factorial F (nI o) = some (if o = 2 then 2 else 1, F) := by
  unfold g_X8_factorial
  rw [show gF = 998 + 1 + 1 from rfl]
  rcases (show o = 0 ∨ o = 1 ∨ o = 2 by omega) with rfl | rfl | rfl
  · rw [g_X8_factorial_b4, if_pos (show nI 0 < 2 by decide), if_neg (by decide)]
  · rw [g_X8_factorial_b4, if_pos (show nI 1 < 2 by decide), if_neg (by decide)]
  · rw [g_X8_factorial_b4, if_neg (show ¬ nI 2 < 2 by decide), g_X8_factorial_b4, if_pos (show nI 2 < 2 + 1 by decide), if_pos rfl]
    rfl
def ob (k : Nat) : Int32 := if k = 1 ∨ k = 2 ∨ k = 4 then 1 else 2
def on3 (k : Nat) : Nat := if k = 0 then 0 else if k = 1 ∨ k = 2 ∨ k = 4 then 1 else if k = 7 then 3 else 2
theorem c_ob {F : Hp} {k : Nat} (hk : k < 8) (h7 : k ≠ 7) : g_X7_ordersBehind F (nI k) = some (ob k, F) := by
  unfold g_X7_ordersBehind g_J6_bitCount_0f7a4
  rw [bnd2_s]
  rcases (show k = 0 ∨ k = 1 ∨ k = 2 ∨ k = 3 ∨ k = 4 ∨ k = 5 ∨ k = 6 by omega) with rfl | rfl | rfl | rfl | rfl | rfl | rfl
  · rw [if_neg (by decide)]; rfl
  · rw [if_pos (by decide)]; rfl
  · rw [if_pos (by decide)]; rfl
  · rw [if_neg (by decide)]; rfl
  · rw [if_pos (by decide)]; rfl
  · rw [if_neg (by decide)]; rfl
  · rw [if_neg (by decide)]; rfl
theorem on_k {k : Nat} (hk : k < 8) : onF (nI k) 12 0 0 = nI (on3 k) := by
  rcases (show k = 0 ∨ k = 1 ∨ k = 2 ∨ k = 3 ∨ k = 4 ∨ k = 5 ∨ k = 6 ∨ k = 7 by omega) with rfl | rfl | rfl | rfl | rfl | rfl | rfl | rfl <;> decide
theorem fac_ob {k : Nat} (hk : k < 7) : on3 k ≤ 2 ∧ ((if on3 k = 2 then (2 : Int32) else 1) * (if 2 - on3 k = 2 then 2 else 1)) = ob k := by
  rcases (show k = 0 ∨ k = 1 ∨ k = 2 ∨ k = 3 ∨ k = 4 ∨ k = 5 ∨ k = 6 by omega) with rfl | rfl | rfl | rfl | rfl | rfl | rfl <;> decide
theorem or_k {j k : Nat} (hj : j < 3) (hk : k < 8) : ((nI k &&& (1 <<< (nI j &&& 31))) = 0 ↔ ¬ bit (nI k) (nI j) = true) ∧ (∃ k', k' < 8 ∧ (nI k ||| (1 <<< (nI j &&& 31))) = nI k') ∧ (¬ bit (nI k) (nI j) = true → k < 7) := by
  rcases (show j = 0 ∨ j = 1 ∨ j = 2 by omega) with rfl | rfl | rfl
  · rcases (show k = 0 ∨ k = 1 ∨ k = 2 ∨ k = 3 ∨ k = 4 ∨ k = 5 ∨ k = 6 ∨ k = 7 by omega) with rfl | rfl | rfl | rfl | rfl | rfl | rfl | rfl
    · exact ⟨by decide, ⟨1, by decide, by decide⟩, by decide⟩
    · exact ⟨by decide, ⟨1, by decide, by decide⟩, by decide⟩
    · exact ⟨by decide, ⟨3, by decide, by decide⟩, by decide⟩
    · exact ⟨by decide, ⟨3, by decide, by decide⟩, by decide⟩
    · exact ⟨by decide, ⟨5, by decide, by decide⟩, by decide⟩
    · exact ⟨by decide, ⟨5, by decide, by decide⟩, by decide⟩
    · exact ⟨by decide, ⟨7, by decide, by decide⟩, by decide⟩
    · exact ⟨by decide, ⟨7, by decide, by decide⟩, by decide⟩
  · rcases (show k = 0 ∨ k = 1 ∨ k = 2 ∨ k = 3 ∨ k = 4 ∨ k = 5 ∨ k = 6 ∨ k = 7 by omega) with rfl | rfl | rfl | rfl | rfl | rfl | rfl | rfl
    · exact ⟨by decide, ⟨2, by decide, by decide⟩, by decide⟩
    · exact ⟨by decide, ⟨3, by decide, by decide⟩, by decide⟩
    · exact ⟨by decide, ⟨2, by decide, by decide⟩, by decide⟩
    · exact ⟨by decide, ⟨3, by decide, by decide⟩, by decide⟩
    · exact ⟨by decide, ⟨6, by decide, by decide⟩, by decide⟩
    · exact ⟨by decide, ⟨7, by decide, by decide⟩, by decide⟩
    · exact ⟨by decide, ⟨6, by decide, by decide⟩, by decide⟩
    · exact ⟨by decide, ⟨7, by decide, by decide⟩, by decide⟩
  · rcases (show k = 0 ∨ k = 1 ∨ k = 2 ∨ k = 3 ∨ k = 4 ∨ k = 5 ∨ k = 6 ∨ k = 7 by omega) with rfl | rfl | rfl | rfl | rfl | rfl | rfl | rfl
    · exact ⟨by decide, ⟨4, by decide, by decide⟩, by decide⟩
    · exact ⟨by decide, ⟨5, by decide, by decide⟩, by decide⟩
    · exact ⟨by decide, ⟨6, by decide, by decide⟩, by decide⟩
    · exact ⟨by decide, ⟨7, by decide, by decide⟩, by decide⟩
    · exact ⟨by decide, ⟨4, by decide, by decide⟩, by decide⟩
    · exact ⟨by decide, ⟨5, by decide, by decide⟩, by decide⟩
    · exact ⟨by decide, ⟨6, by decide, by decide⟩, by decide⟩
    · exact ⟨by decide, ⟨7, by decide, by decide⟩, by decide⟩
def shS (en : Int32 → Int32) (j : Nat) : Nat → Nat → Int32 → Int32
  | 0, _, v => v
  | r + 1, k, v => shS en j r (k + 1) (if bit (nI k) (nI j) = true then v else v + ob k * (en (nI k) - en (nI k ||| (1 <<< (nI j &&& 31)))))
theorem frac6 : ¬ (6 : Int32) = 0 ∧ nA 6 < 2 ^ 20 := by decide
section SJ
variable {N : Nat → Nat} {T : Nat → Nat → Int32} {c : Nat → Nat} {G : Nat → Nat → Int32} {sd : Int64}
theorem c_shL {B j : Nat} {u : Int32} (hj : j < 3) (hW : WS B N T c G) : ∀ (r k n : Nat) (v : Int32) (F : Hp), k + r = 8 → r < n → CS F N T c G sd → ∃ F', g_X7_share_b21 n F 0 u (1 <<< (nI j &&& 31)) v (nI k) = some (frc (shS (fun sv => eng c (N 1) (G 0) sv 0) j r k v) 6 u, F') ∧ CS F' N T c G sd ∧ ∀ i, 107 ≤ i → F' i = F i := by
  intro r
  induction r with
  | zero =>
    intro k n v F hk hn hC
    obtain ⟨n, rfl⟩ : ∃ n', n = n' + 1 := ⟨n - 1, by omega⟩
    refine ⟨F, ?_, hC, fun _ _ => rfl⟩
    rw [g_X7_share_b21, if_pos (show (7 : Int32) < nI k from nI_lt (a := 7) (by omega) (by omega)), c_frac frac6.1 frac6.2, bnd2_s, shS]
  | succ r ih =>
    intro k n v F hk hn hC
    obtain ⟨n, rfl⟩ : ∃ n', n = n' + 1 := ⟨n - 1, by omega⟩
    obtain ⟨o1, ⟨k', o2, o3⟩, o4⟩ := or_k hj (show k < 8 by omega)
    rw [g_X7_share_b21, if_neg (show ¬ (7 : Int32) < nI k from nI_nlt (a := 7) (by omega) (by omega)), shS]
    simp only [g_X7_share_b67, nI_1]
    by_cases q : bit (nI k) (nI j) = true
    · rw [if_neg (fun z => (o1.mp z) q), if_pos q]
      exact ih (k + 1) n v F (by omega) (by omega) hC
    · obtain ⟨F1, g1, g2, g3⟩ := c_energy (gone := 0) (sd := sd) (show k < 8 by omega) hW hC
      obtain ⟨F2, f1, f2, f3⟩ := c_energy (gone := 0) (sd := sd) o2 hW g2
      rw [if_pos (o1.mpr q), if_neg q, ckO_t (CS_o hC), g1, bnd2_s, ckO_t (CS_o g2), o3, f1, bnd2_s, c_ob (by omega) (by have := o4 q; omega), bnd2_s]
      obtain ⟨F', i1, i2, i3⟩ := ih (k + 1) n (v + ob k * (eng c (N 1) (G 0) (nI k) 0 - eng c (N 1) (G 0) (nI k') 0)) F2 (by omega) (by omega) f2
      exact ⟨F', i1, i2, fun i hi => by rw [i3 i hi, f3 i hi, g3 i hi]⟩
theorem m_shL {F : Hp} {s : Nat → Int32} {B j : Nat} {u : Int32} (hj : j < 3) (hW : WS B N T c G) : ∀ (r k n : Nat) (v : Int32) (ar : Nat → Nat → Int32), MB s ar N T c G → k + r = 8 → r < n → ∃ ar', g_X8_share_b24 n (mh F s sd ar) 107 (nI j) u v (nI k) = some (frc (shS (fun sv => eng c (N 1) (G 0) sv 0) j r k v) 6 u, mh F s sd ar') ∧ MB s ar' N T c G := by
  have hw0 := hW.2.2.2.2.2.2.1.1
  intro r
  induction r with
  | zero =>
    intro k n v ar hB hk hn
    obtain ⟨n, rfl⟩ : ∃ n', n = n' + 1 := ⟨n - 1, by omega⟩
    refine ⟨ar, ?_, hB⟩
    rw [g_X8_share_b24, if_pos (show (8 : Int32) ≤ nI k from nI_le (a := 8) (by omega) (by omega)), m_frac frac6.1 frac6.2, bnd2_s, shS]
  | succ r ih =>
    intro k n v ar hB hk hn
    obtain ⟨n, rfl⟩ : ∃ n', n = n' + 1 := ⟨n - 1, by omega⟩
    obtain ⟨o1, ⟨k', o2, o3⟩, o4⟩ := or_k hj (show k < 8 by omega)
    rw [g_X8_share_b24, if_neg (show ¬ (8 : Int32) ≤ nI k from nI_ge (b := 8) (by omega) (by omega)), shS, m_has, bnd2_s]
    simp only [g_X8_share_b83, nI_1]
    by_cases q : bit (nI k) (nI j) = true
    · rw [if_pos q, if_neg (by decide), if_pos q]
      exact ih (k + 1) n v ar hB (by omega) (by omega)
    · have en : ∀ (sv : Int32) (ar : Nat → Nat → Int32), MB s ar N T c G → ∃ w, g_X8_energyBy (mh F s sd ar) 107 sv 0 = some (eng c (N 1) (G 0) sv 0, mh F s sd (va_up ar 114 w)) := by
        intro sv ar hB
        obtain ⟨⟨s1, s2, s3, s4, s5⟩, -, e1, e0, ev, -⟩ := hB
        obtain ⟨w, h⟩ := m_energy (F := F) (sd := sd) (s := s) (ar := ar) (gone := 0) (c := c) (mn := N 1) (C := 0) sv s5 s2 hW.2.1 ev (by omega) (Wf_eqv e0 hw0)
        have hEp := Eqv_play (mg := bit sv 2) (u0 := bit sv 0) (u1 := bit sv 1) (gone := 0) hW.2.1 (C := 0) (by omega) hw0 e0
        rw [← hEp.1 4 (by omega)] at h
        exact ⟨w, h⟩
      obtain ⟨w1, g1⟩ := en (nI k) ar hB
      have hB1 : MB s (va_up ar 114 w1) N T c G := MB_a _ (by omega) hB
      obtain ⟨w2, g2⟩ := en (nI k') _ hB1
      have hB2 : MB s (va_up (va_up ar 114 w1) 114 w2) N T c G := MB_a _ (by omega) hB1
      obtain ⟨fo1, fo2⟩ := fac_ob (o4 q)
      obtain ⟨ar', i1, i2⟩ := ih (k + 1) n (v + ob k * (eng c (N 1) (G 0) (nI k) 0 - eng c (N 1) (G 0) (nI k') 0)) _ hB2 (by omega) (by omega)
      refine ⟨ar', ?_, i2⟩
      rw [if_neg q, if_pos rfl, if_neg q, m_ones, bnd2_s, on_k (by omega), m_fac fo1, bnd2_s, show (2 - nI (on3 k) : Int32) = nI (2 - on3 k) from nI_sub (a := 2) fo1, m_fac (by omega), bnd2_s, ckO_t (mh_isO _ _ _ _), g1, bnd2_s, ckO_t (mh_isO _ _ _ _), o3, g2, bnd2_s, fo2]
      exact i1
end SJ
theorem s_share {B : Nat} (x u : Int32) : Stp1 B (fun F => g_X7_share F 0 x u) (fun F => g_X8_share F 107 x u) := by
  refine stp_of (fun F N T c G sd hW hC hM => ?_)
  by_cases hx : 0 ≤ x ∧ x ≤ 2
  · obtain ⟨j, hj, rfl⟩ := nI_cases (n := 2) rfl hx
    obtain ⟨F', g1, g2, g3⟩ := c_shL (sd := sd) (u := u) (show j < 3 by omega) hW 8 0 gF 0 F (by omega) (by unfold gF; omega) hC
    refine ⟨frc (shS (fun sv => eng c (N 1) (G 0) sv 0) j 8 0 0) 6 u, N, T, c, G, sd, WS_mono (Nat.le_add_right B 20) hW, ⟨F', ?_, g2, g3⟩, m_keep (fun F1 s ar hB => ?_)⟩
    · show g_X7_share F 0 (nI j) u = _
      unfold g_X7_share
      rw [c_isWithin, bnd2_s, if_pos hx, if_neg (by decide)]
      exact g1
    · obtain ⟨ar', i1, i2⟩ := m_shL (F := F1) (sd := sd) (s := upd s 0 0) (u := u) (show j < 3 by omega) hW 8 0 gF 0 ar (MB_s 0 (by omega) hB) (by omega) (by unfold gF; omega)
      refine ⟨upd s 0 0, ar', ?_, i2⟩
      show g_X8_share (mh F1 s sd ar) 107 (nI j) u = _
      unfold g_X8_share
      rw [mh_p0, Option.bind_some, m_in _ _ 0 2 0 2 (by decide) (by decide), bnd2_s, if_pos hx, if_neg (by decide)]
      exact i1
  · refine ⟨-1, N, T, c, G, sd, WS_mono (Nat.le_add_right B 20) hW, ⟨F, ?_, hC, fun _ _ => rfl⟩, m_keep (fun F1 s ar hB => ⟨upd s 0 0, ar, ?_, MB_s 0 (by omega) hB⟩)⟩
    · show g_X7_share F 0 x u = _
      unfold g_X7_share
      rw [c_isWithin, bnd2_s, if_neg hx, if_pos rfl]
    · show g_X8_share (mh F1 s sd ar) 107 x u = _
      unfold g_X8_share
      rw [mh_p0, Option.bind_some, m_in _ _ 0 2 0 2 (by decide) (by decide), bnd2_s, if_neg hx, if_pos rfl]
