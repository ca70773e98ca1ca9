/-! luck -/
def cnt (k : Nat) : Nat → Nat → Nat
  | 0, _ => 0
  | r + 1, i => k / 2 ^ i % 2 + cnt k r (i + 1)
theorem cnt_le (k : Nat) : ∀ r i, cnt k r i ≤ r
  | 0, _ => Nat.le_refl _
  | r + 1, i => by
    rw [cnt]
    have := cnt_le k r (i + 1)
    omega
def wt (a q k : Nat) : Nat := a ^ cnt k q 0 * (10 - a) ^ (q - cnt k q 0)
theorem bits64 : ∀ k, k < 64 → ∀ i, i < 12 → ((nI k >>> (nI i &&& 31)) &&& 1) = nI (k / 2 ^ i % 2) := by decide +kernel
theorem cnt12 : ∀ q, q < 7 → ∀ k, k < 2 ^ q → cnt k 12 0 = cnt k q 0 := by decide +kernel
def al (a q : Nat) : Nat → Nat → Nat → Nat
  | 0, _, s => s
  | r + 1, k, s => al a q r (k + 1) (s + wt a q k)
theorem al_10 : ∀ q, q < 7 → ∀ a, a < 11 → al a q (2 ^ q) 0 0 = 10 ^ q := by decide +kernel
theorem p2q : ∀ q, q < 7 → ((1 : Int32) <<< (nI q &&& 31)) = nI (2 ^ q) ∧ 2 ^ q ≤ 64 ∧ 10 ^ q ≤ 1000000 ∧ ¬ nI (10 ^ q) = 0 ∧ nA (nI (10 ^ q)) < 2 ^ 20 := by decide +kernel
theorem wt_le {a q k : Nat} (ha : a ≤ 10) (hq : q ≤ 6) : wt a q k ≤ 1000000 := by
  unfold wt
  have h1 := cnt_le k q 0
  have h2 : a ^ cnt k q 0 ≤ 10 ^ cnt k q 0 := Nat.pow_le_pow_left ha _
  have h3 : (10 - a) ^ (q - cnt k q 0) ≤ 10 ^ (q - cnt k q 0) := Nat.pow_le_pow_left (by omega) _
  have h4 := Nat.mul_le_mul h2 h3
  rw [← Nat.pow_add, show cnt k q 0 + (q - cnt k q 0) = q by omega] at h4
  have h5 := (p2q q (by omega)).2.2.1
  omega
theorem onF_n {k : Nat} (hk : k < 64) : ∀ (r i v : Nat), i + r ≤ 12 → onF (nI k) r i (nI v) = nI (v + cnt k r i)
  | 0, _, _, _ => rfl
  | r + 1, i, v, h => by
    rw [onF, bits64 k hk i (by omega), nI_add, onF_n hk r (i + 1) _ (by omega), cnt, Nat.add_assoc]
theorem c_wtL {F : Hp} {k a q : Nat} (hk : k < 64) (ha : a ≤ 10) (hq : q ≤ 6) : ∀ (r i n v : Nat), i + r = q → r < n → g_X7_weightOf_b5 n F (nI k) (nI q) (nI a) (nI v) (nI i) = some (nI (v * (a ^ cnt k r i * (10 - a) ^ (r - cnt k r i))), F) := by
  intro r
  induction r with
  | zero =>
    intro i n v hi hn
    obtain ⟨n, rfl⟩ : ∃ n', n = n' + 1 := ⟨n - 1, by omega⟩
    rw [g_X7_weightOf_b5, if_pos (nI_le (by omega) (by omega))]
    congr 3
    show v = v * (a ^ 0 * (10 - a) ^ 0)
    simp
  | succ r ih =>
    intro i n v hi hn
    obtain ⟨n, rfl⟩ : ∃ n', n = n' + 1 := ⟨n - 1, by omega⟩
    have hcl := cnt_le k r (i + 1)
    rw [g_X7_weightOf_b5, if_neg (nI_ge (by omega) (by omega)), bits64 k hk i (by omega)]
    simp only [g_X7_weightOf_b30, nI_1]
    rcases (show k / 2 ^ i % 2 = 0 ∨ k / 2 ^ i % 2 = 1 by omega) with q0 | q1
    · rw [q0, if_neg (by decide), show (10 - nI a : Int32) = nI (10 - a) from nI_sub (a := 10) ha, nI_mul, ih (i + 1) n _ (by omega) (by omega), cnt, q0]
      congr 3
      rw [Nat.zero_add, show r + 1 - cnt k r (i + 1) = (r - cnt k r (i + 1)) + 1 by omega, Nat.pow_succ, Nat.mul_assoc]
      congr 1
      rw [Nat.mul_comm ((10 - a) ^ (r - cnt k r (i + 1))) (10 - a), ← Nat.mul_assoc, ← Nat.mul_assoc, Nat.mul_comm (10 - a)]
    · rw [q1, if_pos (by decide), nI_mul, ih (i + 1) n _ (by omega) (by omega), cnt, q1]
      congr 3
      rw [show r + 1 - (1 + cnt k r (i + 1)) = r - cnt k r (i + 1) by omega, Nat.add_comm 1, Nat.pow_succ, Nat.mul_assoc]
      congr 1
      rw [← Nat.mul_assoc, Nat.mul_comm a]
theorem c_wt {F : Hp} {k a q : Nat} (hk : k < 64) (ha : a ≤ 10) (hq : q ≤ 6) : g_X7_weightOf F (nI k) (nI q) (nI a) = some (nI (wt a q k), F) := by
  have g := c_wtL (F := F) hk ha hq q 0 gF 1 (by omega) (by unfold gF; omega)
  rw [Nat.one_mul] at g
  exact g
theorem m_pwL {F : Hp} {a e : Nat} (he : e ≤ 20) : ∀ (r i n : Nat), i + r = e → r < n → g_X8_power_b4 n F (nI a) (nI e) (nI (a ^ i)) (nI i) = some (nI (a ^ e), F) := by
  intro r
  induction r with
  | zero =>
    intro i n hi hn
    obtain ⟨n, rfl⟩ : ∃ n', n = n' + 1 := ⟨n - 1, by omega⟩
    obtain rfl : i = e := by omega
    rw [g_X8_power_b4, if_pos (nI_le (by omega) (by omega))]
  | succ r ih =>
    intro i n hi hn
    obtain ⟨n, rfl⟩ : ∃ n', n = n' + 1 := ⟨n - 1, by omega⟩
    rw [g_X8_power_b4, if_neg (nI_ge (by omega) (by omega)), nI_mul, ← Nat.pow_succ, nI_1]
    exact ih (i + 1) n (by omega) (by omega)
theorem m_pw {F : Hp} {a e : Nat} (he : e ≤ 20) : g_X8_power F (nI a) (nI e) = some (nI (a ^ e), F) := m_pwL he e 0 gF (by omega) (by unfold gF; omega)
def lkF (en : Int32 → Int32) (v : Int32) (a q : Nat) : Nat → Nat → Int32 → Int32
  | 0, _, l => l
  | r + 1, k, l => lkF en v a q r (k + 1) (if v < en (nI k) then l else l + nI (wt a q k))
section LK
variable {N : Nat → Nat} {T : Nat → Nat → Int32} {c : Nat → Nat} {G : Nat → Nat → Int32} {sd : Int64}
theorem c_lkL {B a q : Nat} {v u : Int32} (ha : a ≤ 10) (hq : q ≤ 6) (hW : WS B N T c G) : ∀ (r k n : Nat) (l : Int32) (sm : Nat) (F : Hp), k + r = 2 ^ q → r < n → al a q r k sm = 10 ^ q → CS F N T c G sd → ∃ F', g_X7_luck_b56 n F 0 v (nI a) u (nI q) l (nI sm) (nI k) = some (frc (lkF (fun g => eng c (N 1) (G 0) 7 g) v a q r k l) (nI (10 ^ q)) u, F') ∧ CS F' N T c G sd ∧ ∀ i, 107 ≤ i → F' i = F i := by
  obtain ⟨p1, p2, p3, p4, p5⟩ := p2q q (by omega)
  intro r
  induction r with
  | zero =>
    intro k n l sm F hk hn hs hC
    obtain ⟨n, rfl⟩ : ∃ n', n = n' + 1 := ⟨n - 1, by omega⟩
    refine ⟨F, ?_, hC, fun _ _ => rfl⟩
    rw [al] at hs
    rw [g_X7_luck_b56, p1, if_pos (nI_le (by omega) (by omega)), hs, c_frac p4 p5, bnd2_s, lkF]
  | succ r ih =>
    intro k n l sm F hk hn hs hC
    obtain ⟨n, rfl⟩ : ∃ n', n = n' + 1 := ⟨n - 1, by omega⟩
    have hwt := wt_le (k := k) ha hq
    rw [al] at hs
    rw [g_X7_luck_b56, p1, if_neg (nI_ge (by omega) (by omega)), c_wt (by omega) ha hq, bnd2_s, lkF]
    simp only [g_X7_luck_b106, nI_1, nI_add]
    by_cases q0 : wt a q k = 0
    · rw [if_pos (show nI (wt a q k) ≤ 0 by rw [q0]; decide)]
      have e0 : (if v < eng c (N 1) (G 0) 7 (nI k) then l else l + nI (wt a q k)) = l := by
        rw [q0, show nI 0 = 0 from rfl, Int32.add_zero]
        split <;> rfl
      rw [e0]
      exact ih (k + 1) n l _ F (by omega) (by omega) hs hC
    · obtain ⟨F1, g1, g2, g3⟩ := c_energy (k := 7) (gone := nI k) (sd := sd) (by omega) hW hC
      rw [if_neg (show ¬ nI (wt a q k) ≤ 0 from nI_ge (a := 0) (by omega) (by omega)), ckO_t (CS_o hC), show g_X7_energyOf F 0 7 (nI k) = some (eng c (N 1) (G 0) 7 (nI k), F1) from g1, bnd2_s]
      by_cases q2 : v < eng c (N 1) (G 0) 7 (nI k)
      · rw [if_pos q2, if_pos q2]
        obtain ⟨F', i1, i2, i3⟩ := ih (k + 1) n l (sm + wt a q k) F1 (by omega) (by omega) hs g2
        exact ⟨F', i1, i2, fun i hi => by rw [i3 i hi, g3 i hi]⟩
      · rw [if_neg q2, if_neg q2]
        obtain ⟨F', i1, i2, i3⟩ := ih (k + 1) n (l + nI (wt a q k)) (sm + wt a q k) F1 (by omega) (by omega) hs g2
        exact ⟨F', i1, i2, fun i hi => by rw [i3 i hi, g3 i hi]⟩
theorem m_lkL {F : Hp} {s : Nat → Int32} {B a q : Nat} {v u : Int32} (ha : a ≤ 10) (hq : q ≤ 6) (hW : WS B N T c G) : ∀ (r k n : Nat) (l : Int32) (ar : Nat → Nat → Int32), MB s ar N T c G → k + r = 2 ^ q → r < n → ∃ ar', g_X8_luck_b68 n (mh F s sd ar) 107 v (nI a) u (nI q) l (nI k) = some (frc (lkF (fun g => eng c (N 1) (G 0) 7 g) v a q r k l) (nI (10 ^ q)) u, mh F s sd ar') ∧ MB s ar' N T c G := by
  obtain ⟨p1, p2, p3, p4, p5⟩ := p2q q (by omega)
  have hw0 := hW.2.2.2.2.2.2.1.1
  intro r
  induction r with
  | zero =>
    intro k n l ar hB hk hn
    obtain ⟨n, rfl⟩ : ∃ n', n = n' + 1 := ⟨n - 1, by omega⟩
    refine ⟨ar, ?_, hB⟩
    rw [g_X8_luck_b68, p1, if_pos (nI_le (by omega) (by omega)), show g_X8_power (mh F s sd ar) 10 (nI q) = _ from m_pw (a := 10) (by omega), bnd2_s, m_frac p4 p5, bnd2_s, lkF]
  | succ r ih =>
    intro k n l ar hB hk hn
    obtain ⟨n, rfl⟩ : ∃ n', n = n' + 1 := ⟨n - 1, by omega⟩
    obtain ⟨⟨s1, s2, s3, s4, s5⟩, -, e1, e0, ev, -⟩ := id hB
    obtain ⟨w, h⟩ := m_energy (F := F) (sd := sd) (s := s) (ar := ar) (gone := nI k) (c := c) (mn := N 1) (C := 0) 7 s5 s2 hW.2.1 ev (by omega) (Wf_eqv e0 hw0)
    have hEp := Eqv_play (mg := bit 7 2) (u0 := bit 7 0) (u1 := bit 7 1) (gone := nI k) hW.2.1 (C := 0) (by omega) hw0 e0
    rw [← hEp.1 4 (by omega)] at h
    have hB1 : MB s (va_up ar 114 w) N T c G := MB_a _ (by omega) hB
    have hcl := cnt_le k q 0
    have on : onF (nI k) 12 0 0 = nI (cnt k q 0) := by
      rw [show (0 : Int32) = nI 0 from rfl, onF_n (by omega) 12 0 0 (by omega), Nat.zero_add, cnt12 q (by omega) k (by omega)]
    rw [g_X8_luck_b68, p1, if_neg (nI_ge (by omega) (by omega)), ckO_t (mh_isO _ _ _ _), show g_X8_energyBy (mh F s sd ar) 107 7 (nI k) = some (eng c (N 1) (G 0) 7 (nI k), mh F s sd (va_up ar 114 w)) from h, bnd2_s, lkF]
    simp only [g_X8_luck_b120, nI_1]
    by_cases q2 : v < eng c (N 1) (G 0) 7 (nI k)
    · rw [if_pos q2, if_pos q2, Int32.add_zero]
      exact ih (k + 1) n l _ hB1 (by omega) (by omega)
    · rw [if_neg q2, if_neg q2, m_ones, bnd2_s, on, m_pw (by omega), bnd2_s, m_ones, bnd2_s, on, show (10 - nI a : Int32) = nI (10 - a) from nI_sub (a := 10) ha, nI_sub hcl, m_pw (by omega), bnd2_s, nI_mul]
      exact ih (k + 1) n (l + nI (wt a q k)) _ hB1 (by omega) (by omega)
end LK
theorem s_luck {B : Nat} (x y z u : Int32) : Stp1 B (fun F => g_X7_luck F 0 x y z u) (fun F => g_X8_luck F 107 x y z u) := by
  refine stp_of (fun F N T c G sd hW hC hM => ?_)
  by_cases hx : 0 ≤ x ∧ x ≤ 6
  · by_cases hy : 0 ≤ y ∧ y ≤ 9999
    · by_cases hz : 0 ≤ z ∧ z ≤ 10
      · obtain ⟨j, hj, rfl⟩ := nI_cases (n := 6) rfl hx
        obtain ⟨a, ha, rfl⟩ := nI_cases (n := 10) rfl hz
        have hS := hC.2.2.1
        have hL := ltrs_le c (N 1)
        have h71 := hW.2.1.1
        have hq : min j (ltrs c (N 1)) ≤ 6 := Nat.le_trans (Nat.min_le_left _ _) hj
        have p2 := (p2q _ (show min j (ltrs c (N 1)) < 7 by omega)).2.1
        obtain ⟨F', g1, g2, g3⟩ := c_lkL (sd := sd) (u := u) (v := y) ha hq hW (2 ^ min j (ltrs c (N 1))) 0 gF 0 0 F (by omega) (by unfold gF; omega) (al_10 _ (by omega) a (by omega)) hC
        refine ⟨frc (lkF (fun g => eng c (N 1) (G 0) 7 g) y a (min j (ltrs c (N 1))) (2 ^ min j (ltrs c (N 1))) 0 0) (nI (10 ^ min j (ltrs c (N 1)))) u, N, T, c, G, sd, WS_mono (Nat.le_add_right B 20) hW, ⟨F', ?_, g2, g3⟩, m_keep (fun F1 s ar hB => ?_)⟩
        · show g_X7_luck F 0 (nI j) y (nI a) u = _
          unfold g_X7_luck
          rw [c_isWithin, bnd2_s, if_pos hx, if_neg (by decide), c_isWithin, bnd2_s, if_pos hy, if_neg (by decide), c_isWithin, bnd2_s, if_pos hz, if_neg (by decide), CS_r1 hC, Option.bind_some, ckO_t (SC_o hS), c_letters hS, bnd2_s, jmin_nI (by omega) (by omega)]
          exact g1
        · obtain ⟨ar', i1, i2⟩ := m_lkL (F := F1) (sd := sd) (s := upd s 0 0) (u := u) (v := y) ha hq hW (2 ^ min j (ltrs c (N 1))) 0 gF 0 ar (MB_s 0 (by omega) hB) (by omega) (by unfold gF; omega)
          have lt := m_letters (F := F1) (sd := sd) (s := upd s 0 0) (ar := ar) (c := c) (mn := N 1) (by rw [upd_n _ _ (by omega)]; exact hB.1.2.1) hW.2.1 hB.2.2.2.2.1
          refine ⟨upd s 0 0, ar', ?_, i2⟩
          show g_X8_luck (mh F1 s sd ar) 107 (nI j) y (nI a) u = _
          unfold g_X8_luck
          rw [mh_p0, Option.bind_some, m_in _ _ 0 6 0 6 (by decide) (by decide), bnd2_s, if_pos hx, if_neg (by decide), m_in _ _ 0 9999 0 9999 (by decide) (by decide), bnd2_s, if_pos hy, if_neg (by decide), m_in _ _ 0 10 0 10 (by decide) (by decide), bnd2_s, if_pos hz, if_neg (by decide), ckO_t (mh_isO _ _ _ _), lt, bnd2_s]
          by_cases q : j ≤ ltrs c (N 1)
          · rw [if_pos (nI_le q (by omega))]
            rw [Nat.min_eq_left q] at i1 ⊢
            exact i1
          · rw [if_neg (nI_ge (by omega) (by omega)), ckO_t (mh_isO _ _ _ _), lt, bnd2_s]
            rw [Nat.min_eq_right (by omega)] at i1 ⊢
            exact i1
      · refine ⟨-2, N, T, c, G, sd, WS_mono (Nat.le_add_right B 20) hW, ⟨F, ?_, hC, fun _ _ => rfl⟩, m_keep (fun F1 s ar hB => ⟨upd s 0 0, ar, ?_, MB_s 0 (by omega) hB⟩)⟩
        · show g_X7_luck F 0 x y z u = _
          unfold g_X7_luck
          rw [c_isWithin, bnd2_s, if_pos hx, if_neg (by decide), c_isWithin, bnd2_s, if_pos hy, if_neg (by decide), c_isWithin, bnd2_s, if_neg hz, if_pos rfl]
        · show g_X8_luck (mh F1 s sd ar) 107 x y z u = _
          unfold g_X8_luck
          rw [mh_p0, Option.bind_some, m_in _ _ 0 6 0 6 (by decide) (by decide), bnd2_s, if_pos hx, if_neg (by decide), m_in _ _ 0 9999 0 9999 (by decide) (by decide), bnd2_s, if_pos hy, if_neg (by decide), m_in _ _ 0 10 0 10 (by decide) (by decide), bnd2_s, if_neg hz, if_pos rfl]
    · refine ⟨-2, N, T, c, G, sd, WS_mono (Nat.le_add_right B 20) hW, ⟨F, ?_, hC, fun _ _ => rfl⟩, m_keep (fun F1 s ar hB => ⟨upd s 0 0, ar, ?_, MB_s 0 (by omega) hB⟩)⟩
      · show g_X7_luck F 0 x y z u = _
        unfold g_X7_luck
        rw [c_isWithin, bnd2_s, if_pos hx, if_neg (by decide), c_isWithin, bnd2_s, if_neg hy, if_pos rfl]
      · show g_X8_luck (mh F1 s sd ar) 107 x y z u = _
        unfold g_X8_luck
        rw [mh_p0, Option.bind_some, m_in _ _ 0 6 0 6 (by decide) (by decide), bnd2_s, if_pos hx, if_neg (by decide), m_in _ _ 0 9999 0 9999 (by decide) (by decide), bnd2_s, if_neg hy, if_pos rfl]
  · refine ⟨-2, N, T, c, G, sd, WS_mono (Nat.le_add_right B 20) hW, ⟨F, ?_, hC, fun _ _ => rfl⟩, m_keep (fun F1 s ar hB => ⟨upd s 0 0, ar, ?_, MB_s 0 (by omega) hB⟩)⟩
    · show g_X7_luck F 0 x y z u = _
      unfold g_X7_luck
      rw [c_isWithin, bnd2_s, if_neg hx, if_pos rfl]
    · show g_X8_luck (mh F1 s sd ar) 107 x y z u = _
      unfold g_X8_luck
      rw [mh_p0, Option.bind_some, m_in _ _ 0 6 0 6 (by decide) (by decide), bnd2_s, if_neg hx, if_pos rfl]
