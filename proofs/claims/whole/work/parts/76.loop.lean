/-! the law's loop -/
theorem isO_pv {α : Type} {F1 : Hp} {v : Value} {K : Hp → Option α} {y : α} (h : ((pV F1 107 8 0 v).bind K) = some y) : isO F1 107 8 = true := by
  unfold pV at h
  unfold isO
  cases hF : F1 107 with
  | inl z => rw [hF] at h; exact absurd h (by simp)
  | inr z =>
    obtain ⟨c, fs⟩ := z
    rw [hF] at h
    by_cases q : c = 8
    · simp [q]
    · exfalso
      simp [q] at h
theorem Jn_o {B : Nat} {F : Hp} (h : Jn B F) : isO F 0 7 = true := by
  obtain ⟨N, T, c, G, sd, -, hC, -⟩ := h
  exact CS_o hC
theorem stepL {B L : Nat} {xs : Nat → Int32} {F : Hp} {v3 : Int32} {rec : Hp → Nat → Nat → Int32 → Option Unit} {gc gm : Hp → Option (Int32 × Hp)} (hS : Stp1 B gc gm) (hJ : Jn B F) (hm : ∀ F1 y, gm F1 = some y → isO F1 107 8 = true) (hr : ∀ F2, Jn (B + 20) F2 → rec F2 0 107 (v3 + 5) = some ()) : ckO F 0 7 (bnd2 (gc F) fun x F9 => ckO F9 107 8 (bnd2 (gm F9) fun y F12 => if x = y then g_L_law_b839 L xs rec F12 0 107 v3 else none)) = some () := by
  obtain ⟨r, F1, F2, g1, g2, g3⟩ := hS F hJ
  rw [ckO_t (Jn_o hJ), g1, bnd2_s, ckO_t (hm F1 _ g2), g2, bnd2_s, if_pos rfl]
  exact hr F2 g3
theorem lgc_self (x : Int64) : lg_cmp x x = 0 := by
  unfold lg_cmp
  rw [if_neg (by rw [gt_iff_lt, Int64.lt_iff_toInt_lt]; omega), if_pos rfl]
theorem stepD {B L : Nat} {xs : Nat → Int32} {F : Hp} {v3 : Int32} {rec : Hp → Nat → Nat → Int32 → Option Unit} {gc gm : Hp → Option (Int64 × Hp)} (hS : Stp1 B gc gm) (hJ : Jn B F) (hm : ∀ F1 y, gm F1 = some y → isO F1 107 8 = true) (hr : ∀ F2, Jn (B + 20) F2 → rec F2 0 107 (v3 + 5) = some ()) : ckO F 0 7 (bnd2 (gc F) fun x F9 => ckO F9 107 8 (bnd2 (gm F9) fun y F12 => if lg_cmp x y = 0 then g_L_law_b839 L xs rec F12 0 107 v3 else none)) = some () := by
  obtain ⟨r, F1, F2, g1, g2, g3⟩ := hS F hJ
  rw [ckO_t (Jn_o hJ), g1, bnd2_s, ckO_t (hm F1 _ g2), g2, bnd2_s, if_pos (lgc_self r)]
  exact hr F2 g3
theorem law_loop {L : Nat} {xs : Nat → Int32} (hL : L ≤ 2560) : ∀ (r k n : Nat) (F : Hp), Jn (1000 + 20 * k) F → L < 5 * (k + r) + 5 → r < n → k ≤ 512 → g_L_law_b18 L xs n F 0 107 (nI (5 * k)) = some () := by
  have fin : ∀ (k n : Nat) (F : Hp), L < 5 * k + 5 → k ≤ 512 → g_L_law_b18 L xs (n + 1) F 0 107 (nI (5 * k)) = some () := by
    intro k n F hk h5
    have hlt : (Int32.ofNat L) - 5 < nI (5 * k) := by
      rw [Int32.lt_iff_toInt_lt, nI_toInt (by omega), Int32.toInt_sub]
      have h1 : (Int32.ofNat L).toInt = L := nI_toInt (n := L) (by omega)
      have h2 : (5 : Int32).toInt = 5 := by decide
      rw [h1, h2, Int.bmod_eq_of_le (by omega) (by omega)]
      omega
    rw [g_L_law_b18, if_pos hlt]
  intro r
  induction r with
  | zero =>
    intro k n F hJ hk hn h5
    obtain ⟨n, rfl⟩ : ∃ n', n = n' + 1 := ⟨n - 1, by omega⟩
    exact fin k n F (by omega) h5
  | succ r ih =>
    intro k n F hJ hk hn h5
    obtain ⟨n, rfl⟩ : ∃ n', n = n' + 1 := ⟨n - 1, by omega⟩
    by_cases q : L < 5 * k + 5
    · exact fin k n F q h5
    · have hge : ¬ (Int32.ofNat L) - 5 < nI (5 * k) := by
        rw [show (Int32.ofNat L) - 5 = nI (L - 5) from nI_sub (a := L) (b := 5) (by omega)]
        exact nI_nlt (by omega) (by omega)
      have rd : ∀ j, j < 5 → aS L xs (nI (5 * k + j)) = some (xs (5 * k + j)) := fun j hj => by
        unfold aS
        rw [nI_clamp (by omega), if_neg]
        intro z
        rcases z with z | z
        · exact nI_pos (by omega) z
        · omega
      have a0 : aS L xs (nI (5 * k)) = some (xs (5 * k)) := rd 0 (by omega)
      have a1 : aS L xs (nI (5 * k) + 1) = some (xs (5 * k + 1)) := by rw [nI_1]; exact rd 1 (by omega)
      have a2 : aS L xs (nI (5 * k) + 2) = some (xs (5 * k + 2)) := by rw [nI_p2]; exact rd 2 (by omega)
      have a3 : aS L xs (nI (5 * k) + 3) = some (xs (5 * k + 3)) := by rw [nI_p3]; exact rd 3 (by omega)
      have a4 : aS L xs (nI (5 * k) + 4) = some (xs (5 * k + 4)) := by rw [nI_p4]; exact rd 4 (by omega)
      have hr : ∀ F2, Jn (1000 + 20 * k + 20) F2 → g_L_law_b18 L xs n F2 0 107 (nI (5 * k) + 5) = some () := fun F2 h2 => by
        rw [nI_p5, show 5 * k + 5 = 5 * (k + 1) by omega]
        exact ih (k + 1) n F2 (by rw [show 1000 + 20 * (k + 1) = 1000 + 20 * k + 20 by omega]; exact h2) (by omega) (by omega) (by omega)
      have hr0 : g_L_law_b18 L xs n F 0 107 (nI (5 * k) + 5) = some () := hr F (by
        obtain ⟨N, T, c, G, sd, x1, x2, x3⟩ := hJ
        exact ⟨N, T, c, G, sd, WS_mono (Nat.le_add_right _ 20) x1, x2, x3⟩)
      rw [g_L_law_b18, if_neg hge]
      simp only [a0, a1, a2, a3, a4, Option.bind_some, g_L_law_b594, g_L_law_b616, g_L_law_b653, g_L_law_b685]
      generalize hop : xs (5 * k) &&& 31 = op
      by_cases o0 : op = 0
      · rw [if_pos o0]
        exact stepL (s_write (xs (5 * k + 1))) hJ (fun F1 y h => isO_pv h) hr
      rw [if_neg o0]
      by_cases o1 : op = 1
      · rw [if_pos o1]
        exact stepL (s_wipe ) hJ (fun F1 y h => isO_pv h) hr
      rw [if_neg o1]
      by_cases o2 : op = 2
      · rw [if_pos o2]
        exact stepL (s_fault ) hJ (fun F1 y h => isO_pv h) hr
      rw [if_neg o2]
      by_cases o3 : op = 3
      · rw [if_pos o3]
        exact stepL (s_link (by omega) ) hJ (fun F1 y h => isO_pv h) hr
      rw [if_neg o3]
      by_cases o4 : op = 4
      · rw [if_pos o4]
        exact stepL (s_ask (by omega) (xs (5 * k + 1))) hJ (fun F1 y h => isO_pv h) hr
      rw [if_neg o4]
      by_cases o5 : op = 5
      · rw [if_pos o5]
        exact stepL (s_end (by omega) (xs (5 * k + 1)) (xs (5 * k + 2))) hJ (fun F1 y h => isO_pv h) hr
      rw [if_neg o5]
      by_cases o6 : op = 6
      · rw [if_pos o6]
        exact stepL (s_held (xs (5 * k + 1)) (xs (5 * k + 2))) hJ (fun F1 y h => isO_pv h) hr
      rw [if_neg o6]
      by_cases o7 : op = 7
      · rw [if_pos o7]
        exact stepL (s_come (by omega) (xs (5 * k + 1))) hJ (fun F1 y h => isO_pv h) hr
      rw [if_neg o7]
      by_cases o8 : op = 8
      · rw [if_pos o8]
        exact stepL (s_pass (by omega) (xs (5 * k + 1))) hJ (fun F1 y h => isO_pv h) hr
      rw [if_neg o8]
      by_cases o9 : op = 9
      · rw [if_pos o9]
        exact stepL (s_tell (by omega) (xs (5 * k + 1)) (xs (5 * k + 2)) (xs (5 * k + 3))) hJ (fun F1 y h => isO_pv h) hr
      rw [if_neg o9]
      by_cases o10 : op = 10
      · rw [if_pos o10]
        exact stepL (s_undo ) hJ (fun F1 y h => isO_pv h) hr
      rw [if_neg o10]
      by_cases o11 : op = 11
      · rw [if_pos o11]
        exact stepL (s_ahead (by omega) (xs (5 * k + 1)) (xs (5 * k + 2))) hJ (fun F1 y h => isO_pv h) hr
      rw [if_neg o11]
      by_cases o12 : op = 12
      · rw [if_pos o12]
        exact stepL (s_play (xs (5 * k + 1))) hJ (fun F1 y h => isO_pv h) hr
      rw [if_neg o12]
      by_cases o13 : op = 13
      · rw [if_pos o13]
        exact stepL (s_judge (by omega) (xs (5 * k + 1)) _) hJ (fun F1 y h => isO_pv h) hr
      rw [if_neg o13]
      by_cases o14 : op = 14
      · rw [if_pos o14]
        exact stepL (s_see (xs (5 * k + 1)) (xs (5 * k + 2))) hJ (fun F1 y h => isO_pv h) hr
      rw [if_neg o14]
      by_cases o15 : op = 15
      · rw [if_pos o15]
        exact stepL (s_unsee ) hJ (fun F1 y h => isO_pv h) hr
      rw [if_neg o15]
      by_cases o16 : op = 16
      · rw [if_pos o16]
        exact stepL (s_which ) hJ (fun F1 y h => isO_pv h) hr
      rw [if_neg o16]
      by_cases o17 : op = 17
      · rw [if_pos o17]
        by_cases z : xs (5 * k + 2) = 0
        · simp only [if_pos z]
          exact stepL (s_share (xs (5 * k + 1)) 0) hJ (fun F1 y h => isO_pv h) hr
        · simp only [if_neg z]
          exact stepL (s_share (xs (5 * k + 1)) 1) hJ (fun F1 y h => isO_pv h) hr
      rw [if_neg o17]
      by_cases o18 : op = 18
      · rw [if_pos o18]
        by_cases z : xs (5 * k + 4) = 0
        · simp only [if_pos z]
          exact stepL (s_luck (xs (5 * k + 1)) (xs (5 * k + 2)) (xs (5 * k + 3)) 0) hJ (fun F1 y h => isO_pv h) hr
        · simp only [if_neg z]
          exact stepL (s_luck (xs (5 * k + 1)) (xs (5 * k + 2)) (xs (5 * k + 3)) 1) hJ (fun F1 y h => isO_pv h) hr
      rw [if_neg o18]
      by_cases o19 : op = 19
      · rw [if_pos o19]
        exact stepD (s_seed _) hJ (fun F1 y h => isO_pv h) hr
      rw [if_neg o19]
      by_cases o20 : op = 20
      · rw [if_pos o20]
        exact stepL (s_drawn (by omega) (xs (5 * k + 1))) hJ (fun F1 y h => isO_pv h) hr
      rw [if_neg o20]
      by_cases o21 : op = 21
      · rw [if_pos o21]
        exact stepL (s_keep (xs (5 * k + 1))) hJ (fun F1 y h => isO_pv h) hr
      rw [if_neg o21]
      by_cases o22 : op = 22
      · rw [if_pos o22]
        exact stepL (s_again (xs (5 * k + 1))) hJ (fun F1 y h => isO_pv h) hr
      rw [if_neg o22]
      by_cases o23 : op = 23
      · rw [if_pos o23]
        exact stepL (s_count (xs (5 * k + 1))) hJ (fun F1 y h => isO_pv h) hr
      rw [if_neg o23]
      exact hr0
