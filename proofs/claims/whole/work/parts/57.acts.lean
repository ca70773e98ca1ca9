/-! acts -/
def fgt (G : Nat → Nat → Int32) : Nat → Nat → Int32 := fun k => if 2 ≤ k ∧ k < 15 then G (k + 1) else G k
def psh (d : Nat) (G : Nat → Nat → Int32) : Nat → Nat → Int32 := if d < 14 then va_up G (2 + d) (G 1) else va_up (fgt G) 15 (G 1)
def pN (d : Nat) : Nat := if d < 14 then d + 1 else 14
theorem isO_dz {F : Hp} {a : Nat} {mg : Int32} {w : Nat → Int32} (h : isDz F a mg w) : isO F a 1 = true := by
  have := dz_isO F a mg w
  rw [h] at this
  exact this
section AA
variable {F : Hp} {d : Nat} {G : Nat → Nat → Int32} {p : Nat → Nat}
theorem AC_g1 (h : AC F d G p) : gI F 20 0 1 = some (nI d) := by simp only [gI, gV, h.1]; rfl
theorem AC_g0 (h : AC F d G p) : gR F 20 0 0 = some 21 := by simp only [gR, gV, h.1]; rfl
theorem AC_o (h : AC F d G p) : isO F 20 0 = true := by simp [isO, h.1]
theorem AC_n (h : AC F d G p) : aN F 21 = some (nI 14) := by
  obtain ⟨r, hr, -⟩ := h.2.1
  simp only [aN, hr]
  rfl
theorem AC_q {j : Nat} (h : AC F d G p) (hj : j < 14) : aQ F 21 (nI j) = some (some (22 + 5 * p j)) := by
  obtain ⟨r, hr, h1⟩ := h.2.1
  have hg : gQ F 21 = some (14, r) := by simp only [gQ, hr, if_true]
  unfold aQ
  rw [hg]
  show (if nI j < 0 ∨ 14 ≤ (nI j).toNatClampNeg then none else some (r (nI j).toNatClampNeg)) = _
  rw [if_neg (nI_in hj (by omega)), nI_clamp (by omega), h1 j hj]
theorem AC_b {j : Nat} (h : AC F d G p) (hj : j < 14) : g_X0_beforeAt F 20 (nI j) = some (some (22 + 5 * p j), F) := by
  rw [g_X0_beforeAt, if_neg (nI_pos (by omega)), AC_g0 h, Option.bind_some, AC_n h, Option.bind_some, if_neg (nI_ge hj (by omega)), Option.bind_some, AC_q h hj, Option.bind_some]
  rfl
def rwF (F : Hp) (r : Nat → Option Nat) : Hp := va_up F 21 (.inl (2, 14, .inr (.inr (.inr (.inr r)))))
theorem rw_q {r : Nat → Option Nat} {j : Nat} (hj : j < 14) : aQ (rwF F r) 21 (nI j) = some (r j) := by
  have hg : gQ (rwF F r) 21 = some (14, r) := by simp only [gQ, rwF, va_up_self, if_true]
  unfold aQ
  rw [hg]
  show (if nI j < 0 ∨ 14 ≤ (nI j).toNatClampNeg then none else some (r (nI j).toNatClampNeg)) = _
  rw [if_neg (nI_in hj (by omega)), nI_clamp (by omega)]
theorem rw_s {r : Nat → Option Nat} {j v : Nat} (hj : j < 14) (hv : v ≠ 21) (ho : isO F v 1 = true) : sQ (rwF F r) 21 (nI j) v = some (rwF F (va_up r j (some v))) := by
  have hg : gQ (rwF F r) 21 = some (14, r) := by simp only [gQ, rwF, va_up_self, if_true]
  have ho2 : isO (rwF F r) v 1 = true := by
    unfold isO rwF
    rw [va_up_ne _ _ hv]
    exact ho
  unfold sQ
  rw [hg]
  show (if (nI j < 0 ∨ 14 ≤ (nI j).toNatClampNeg) ∨ isO (rwF F r) v 1 = false then none else some (va_up (rwF F r) 21 (.inl (2, 14, .inr (.inr (.inr (.inr (va_up r (nI j).toNatClampNeg (some v))))))))) = _
  rw [if_neg (fun q => by rcases q with q | q; · exact nI_in hj (by omega) q
                          · rw [ho2] at q; exact absurd q (by decide)), nI_clamp (by omega)]
  unfold rwF
  rw [va_up2]
theorem rw_r {r : Nat → Option Nat} (h : F 20 = .inr (0, [.ref 21, .int (nI d)])) : gR (rwF F r) 20 0 0 = some 21 := by
  simp only [gR, gV, rwF]
  rw [va_up_ne _ _ (by omega), h]
  rfl
theorem c_fgL {r : Nat → Option Nat} (h0 : F 20 = .inr (0, [.ref 21, .int (nI d)])) (hr : ∀ j, j < 14 → r j = some (22 + 5 * p j)) (ho : ∀ j, j < 14 → isO F (22 + 5 * p j) 1 = true) : ∀ (m k n : Nat), k + m = 13 → m < n → g_X0_forgetFirst_b16 n (rwF F (fun j => if j < k then r (j + 1) else r j)) 20 (22 + 5 * p 0) (nI 13) (nI k) = some (va_up (rwF F (va_up (fun j => if j < 13 then r (j + 1) else r j) 13 (some (22 + 5 * p 0)))) 20 (.inr (0, [.ref 21, .int (nI 13)]))) := by
  intro m
  induction m with
  | zero =>
    intro k n hk hn
    obtain ⟨n, rfl⟩ : ∃ n', n = n' + 1 := ⟨n - 1, by omega⟩
    obtain rfl : k = 13 := by omega
    have pp : ∀ r', pV (rwF F r') 20 0 1 (.int (nI 13)) = some (va_up (rwF F r') 20 (.inr (0, [.ref 21, .int (nI 13)]))) := by
      intro r'
      have e : rwF F r' 20 = .inr (0, [.ref 21, .int (nI d)]) := by
        unfold rwF
        rw [va_up_ne _ _ (by omega), h0]
      simp only [pV, e]
      rfl
    rw [g_X0_forgetFirst_b16, if_pos (nI_le (by omega) (by omega)), if_neg (nI_pos (by omega)), rw_r h0, Option.bind_some, rw_s (by omega) (by omega) (ho 0 (by omega)), Option.bind_some, pp, Option.bind_some]
  | succ m ih =>
    intro k n hk hn
    obtain ⟨n, rfl⟩ : ∃ n', n = n' + 1 := ⟨n - 1, by omega⟩
    have e1 : (if k + 1 < k then r (k + 1 + 1) else r (k + 1)) = some (22 + 5 * p (k + 1)) := by
      rw [if_neg (by omega), hr _ (by omega)]
    have e2 : va_up (fun j => if j < k then r (j + 1) else r j) k (some (22 + 5 * p (k + 1))) = fun j => if j < k + 1 then r (j + 1) else r j := by
      funext j
      by_cases hj : j = k
      · subst hj
        rw [va_up_self, if_pos (by omega), hr _ (by omega)]
      · rw [va_up_ne _ _ hj]
        by_cases hj2 : j < k
        · rw [if_pos hj2, if_pos (by omega)]
        · rw [if_neg hj2, if_neg (by omega)]
    rw [g_X0_forgetFirst_b16, if_neg (nI_ge (by omega) (by omega)), rw_r h0, Option.bind_some, Option.bind_some, nI_1, rw_q (by omega), e1, Option.bind_some]
    show (sQ _ 21 (nI k) (22 + 5 * p (k + 1))).bind _ = _
    rw [rw_s (by omega) (by omega) (ho _ (by omega)), Option.bind_some, e2]
    exact ih (k + 1) n (by omega) (by omega)
theorem c_forget (h : AC F 14 G p) : ∃ F1, g_X0_forgetFirst F 20 = some F1 ∧ (∃ p', AC F1 13 (fgt G) p') ∧ ∀ k, k ≠ 20 → k ≠ 21 → F1 k = F k := by
  obtain ⟨h1, ⟨r, hr, hj⟩, h3, h4, h5⟩ := id h
  have hF : rwF F (fun j => if j < 0 then r (j + 1) else r j) = F := by
    unfold rwF
    exact va_up_eta hr
  have g := c_fgL (F := F) (d := 14) (p := p) h1 hj (fun j hj => by obtain ⟨w, q, -⟩ := h5 j hj; exact isO_dz q) 13 0 gF (by omega) (by unfold gF; omega)
  rw [hF] at g
  refine ⟨(va_up (rwF F (va_up (fun j => if j < 13 then r (j + 1) else r j) 13 (some (22 + 5 * p 0)))) 20 (.inr (0, [.ref 21, .int (nI 13)]))), ?_, ⟨fun j => if j < 13 then p (j + 1) else p 0, va_up_self _ _ _, ⟨(va_up (fun j => if j < 13 then r (j + 1) else r j) 13 (some (22 + 5 * p 0))), by rw [va_up_ne _ _ (by omega)]; exact va_up_self _ _ _, fun j hj' => ?_⟩, fun j hj' => ?_, fun i j hi hj' q => ?_, fun j hj' => ?_⟩, fun k k1 k2 => by unfold rwF; rw [va_up_ne _ _ k1, va_up_ne _ _ k2]⟩
  · rw [g_X0_forgetFirst, ckO_t (AC_o h), show g_X0_beforeAt F 20 0 = _ from AC_b h (j := 0) (by omega), bnd2_s]
    show ((gR F 20 0 0).bind fun q3 => (aN F q3).bind fun x4 => g_X0_forgetFirst_b16 gF F 20 (22 + 5 * p 0) (x4 - 1) 0) = _
    rw [AC_g0 h, Option.bind_some, AC_n h, Option.bind_some, nI_pred]
    exact g
  · by_cases q : j = 13
    · subst q
      rw [va_up_self]
      rfl
    · rw [va_up_ne _ _ q]
      show (if j < 13 then r (j + 1) else r j) = some (22 + 5 * (if j < 13 then p (j + 1) else p 0))
      rw [if_pos (by omega), if_pos (by omega), hj _ (by omega)]
  · show (if j < 13 then p (j + 1) else p 0) < 14
    split
    · exact h3 _ (by omega)
    · exact h3 _ (by omega)
  · have q' : (if i < 13 then p (i + 1) else p 0) = (if j < 13 then p (j + 1) else p 0) := q
    by_cases a : i < 13
    · rw [if_pos a] at q'
      by_cases b : j < 13
      · rw [if_pos b] at q'
        have := h4 _ _ (by omega) (by omega) q'
        omega
      · rw [if_neg b] at q'
        have := h4 _ _ (by omega) (by omega) q'
        omega
    · rw [if_neg a] at q'
      by_cases b : j < 13
      · rw [if_pos b] at q'
        have := h4 _ _ (by omega) (by omega) q'
        omega
      · omega
  · by_cases a : j < 13
    · obtain ⟨w, q1, q2⟩ := h5 (j + 1) (by omega)
      refine ⟨w, ?_, fun _ => ?_⟩
      · show isDz _ (22 + 5 * (if j < 13 then p (j + 1) else p 0)) 1 w
        rw [if_pos a]
        exact isDz_fr q1 (fun k k1 k2 => by unfold rwF; rw [va_up_ne _ _ (by omega), va_up_ne _ _ (by omega)])
      · show Eqv (if 2 ≤ 2 + j ∧ 2 + j < 15 then G (2 + j + 1) else G (2 + j)) w
        rw [if_pos (by omega)]
        exact q2 (by omega)
    · obtain ⟨w, q1, q2⟩ := h5 0 (by omega)
      refine ⟨w, ?_, fun q => absurd q a⟩
      show isDz _ (22 + 5 * (if j < 13 then p (j + 1) else p 0)) 1 w
      rw [if_neg a]
      exact isDz_fr q1 (fun k k1 k2 => by unfold rwF; rw [va_up_ne _ _ (by omega), va_up_ne _ _ (by omega)])
theorem c_add1 {C : Nat} {W wn : Nat → Int32} (h : AC F d G p) (hd : d < 14) (hn : isDz F 10 1 wn) (hE : Eqv W wn) (hw : Wf C W) : ∃ F1, g_X0_add_b16 F 20 10 = some F1 ∧ AC F1 (d + 1) (va_up G (2 + d) W) p ∧ ∀ k, k < 20 ∨ 92 ≤ k → F1 k = F k := by
  obtain ⟨h1, h2, h3, h4, h5⟩ := id h
  obtain ⟨wo, o1, -⟩ := h5 d hd
  have hp := h3 d hd
  obtain ⟨w2, g1, g2⟩ := c_become (a := 22 + 5 * p d) (b := 10) (mg := 1) (w := wo) hn (by omega) (Or.inr rfl) (Lw_eqv hE (Wf_Lw hw))
  rw [o1] at g1
  have e20 : dz F (22 + 5 * p d) 1 w2 20 = .inr (0, [.ref 21, .int (nI d)]) := by rw [dz_n (by omega), h1]
  have gg : gI (dz F (22 + 5 * p d) 1 w2) 20 0 1 = some (nI d) := by simp only [gI, gV, e20]; rfl
  have pp : pV (dz F (22 + 5 * p d) 1 w2) 20 0 1 (.int (nI (d + 1))) = some (va_up (dz F (22 + 5 * p d) 1 w2) 20 (.inr (0, [.ref 21, .int (nI (d + 1))]))) := by
    simp only [pV, e20]
    rfl
  refine ⟨va_up (dz F (22 + 5 * p d) 1 w2) 20 (.inr (0, [.ref 21, .int (nI (d + 1))])), ?_, ⟨va_up_self _ _ _, ?_, h3, h4, fun j hj => ?_⟩, fun k hk => by rw [va_up_ne _ _ (by omega), dz_n (by omega)]⟩
  · rw [g_X0_add_b16, AC_g1 h, Option.bind_some, ckO_t (AC_o h), AC_b h hd, bnd2_s]
    show ckO F (22 + 5 * p d) 1 ((g_X1_become F (22 + 5 * p d) 10).bind _) = _
    rw [ckO_t (isO_dz o1), g1, Option.bind_some, gg, Option.bind_some, nI_1, pp, Option.bind_some]
  · obtain ⟨r, hr, hj⟩ := h2
    exact ⟨r, by rw [va_up_ne _ _ (by omega), dz_n (by omega)]; exact hr, hj⟩
  · have hpj := h3 j hj
    by_cases q : j = d
    · subst q
      refine ⟨w2, ?_, fun _ => by rw [va_up_self]; exact Eqv_trans hE g2⟩
      exact isDz_fr (isDz_dz F (22 + 5 * p j) 1 w2) (fun k k1 k2 => va_up_ne _ _ (by omega))
    · obtain ⟨w, q1, q2⟩ := h5 j hj
      have hne : p j ≠ p d := fun e => q (h4 j d hj hd e)
      refine ⟨w, isDz_fr q1 (fun k k1 k2 => by rw [va_up_ne _ _ (by omega), dz_n (by omega)]), fun k => ?_⟩
      rw [va_up_ne _ _ (by omega)]
      exact q2 (by omega)
end AA
section AB
variable {F F1 : Hp} {N : Nat → Nat} {T : Nat → Nat → Int32} {c : Nat → Nat} {G : Nat → Nat → Int32} {sd : Int64} {s : Nat → Int32} {ar : Nat → Nat → Int32}
theorem CS_acts {d : Nat} {G' : Nat → Nat → Int32} (h : CS F N T c G sd) (hA : ∃ p, AC F1 d G' p) (hf : ∀ k, k < 20 ∨ 92 ≤ k → F1 k = F k) (hG : ∀ k, k < 2 ∨ 16 ≤ k → G' k = G k) : CS F1 (va_up N 2 d) T c G' sd := by
  obtain ⟨h0, ⟨h1, h2⟩, h3, ⟨w4, a4, b4⟩, ⟨w5, a5, b5⟩, ⟨mg, w6, a6, b6⟩, -, ⟨h8, h9, h10⟩, ⟨h11, w12, a12, b12⟩, h13, w14, a14, b14⟩ := h
  refine ⟨by rw [hf 0 (by omega)]; exact h0, ⟨by rw [hf 1 (by omega)]; exact h1, by rw [hf 2 (by omega)]; exact h2⟩, SC_fr h3 (hf 3 (by omega)) (hf 9 (by omega)), ⟨w4, isDz_fr a4 (fun k k1 k2 => hf k (by omega)), by rw [hG _ (by omega)]; exact b4⟩, ⟨w5, isDz_fr a5 (fun k k1 k2 => hf k (by omega)), by rw [hG _ (by omega)]; exact b5⟩, ⟨mg, w6, isDz_fr a6 (fun k k1 k2 => hf k (by omega)), b6⟩, hA, ⟨by rw [hf 92 (by omega)]; exact h8, by rw [hf 93 (by omega)]; exact h9, by rw [hf 94 (by omega)]; exact h10⟩, ⟨by rw [hf 95 (by omega)]; exact h11, w12, isDz_fr a12 (fun k k1 k2 => hf k (by omega)), by rw [hG _ (by omega)]; exact b12⟩, by rw [hf 101 (by omega)]; exact h13, w14, isDz_fr a14 (fun k k1 k2 => hf k (by omega)), by rw [hG _ (by omega)]; exact b14⟩
theorem c_add {B : Nat} (hW : WS B N T c G) (hC : CS F N T c G sd) : ∃ F1, g_X0_add F 20 10 = some F1 ∧ CS F1 (va_up N 2 (pN (N 2))) T c (psh (N 2) G) sd ∧ ∀ k, k < 20 ∨ 92 ≤ k → F1 k = F k := by
  obtain ⟨wn, hd, hE⟩ := hC.2.2.2.2.1
  obtain ⟨p, hA⟩ := hC.2.2.2.2.2.2.1
  have hw := hW.2.2.2.2.2.2.2.1
  have h14 := hW.2.2.1
  by_cases hn : N 2 < 14
  · obtain ⟨F1, g1, g2, g3⟩ := c_add1 hA hn hd hE hw
    refine ⟨F1, ?_, ?_, g3⟩
    · rw [g_X0_add, AC_g1 hA, Option.bind_some, AC_g0 hA, Option.bind_some, AC_n hA, Option.bind_some, if_pos (nI_lt hn (by omega)), g1]
    · rw [pN, if_pos hn, psh, if_pos hn]
      exact CS_acts hC ⟨p, g2⟩ g3 (fun k hk => va_up_ne _ _ (by omega))
  · have e : N 2 = 14 := by omega
    rw [e] at hA
    obtain ⟨F0, f1, ⟨p', f2⟩, f3⟩ := c_forget hA
    obtain ⟨F1, g1, g2, g3⟩ := c_add1 f2 (by omega) (isDz_fr hd (fun k k1 k2 => f3 k (by omega) (by omega))) hE hw
    have hf : ∀ k, k < 20 ∨ 92 ≤ k → F1 k = F k := fun k hk => by rw [g3 k hk, f3 k (by omega) (by omega)]
    refine ⟨F1, ?_, ?_, hf⟩
    · rw [g_X0_add, AC_g1 hA, Option.bind_some, AC_g0 hA, Option.bind_some, AC_n hA, Option.bind_some, if_neg (nI_nlt (by omega) (by omega)), ckO_t (AC_o hA), f1, Option.bind_some, g1]
    · rw [pN, if_neg hn, psh, if_neg hn]
      refine CS_acts hC ⟨p', g2⟩ hf (fun k hk => ?_)
      rw [va_up_ne _ _ (by omega)]
      unfold fgt
      rw [if_neg (by omega)]
theorem WS_push {B : Nat} (h : WS B N T c G) : WS B (va_up N 2 (pN (N 2))) T c (psh (N 2) G) := by
  obtain ⟨h1, h2, h3, h4, h5, h6, h7, h8, h9, h10⟩ := h
  have key : ∀ k, k < 2 ∨ 16 ≤ k → psh (N 2) G k = G k := by
    intro k hk
    unfold psh
    split
    · rw [va_up_ne _ _ (by omega)]
    · rw [va_up_ne _ _ (by omega)]
      unfold fgt
      rw [if_neg (by omega)]
  refine ⟨h1, h2, ?_, h4, h5, h6, by rw [key _ (by omega)]; exact h7, by rw [key _ (by omega)]; exact h8, fun j hj => ?_, fun i hi hk => by rw [key _ (by omega)]; exact h10 i hi hk⟩
  · show pN (N 2) ≤ 14
    unfold pN
    split <;> omega
  · have hj' : j < pN (N 2) := hj
    unfold pN at hj'
    unfold psh
    by_cases hn : N 2 < 14
    · rw [if_pos hn] at hj' ⊢
      by_cases q : j = N 2
      · subst q
        rw [va_up_self]
        exact h8
      · rw [va_up_ne _ _ (by omega)]
        exact h9 j (by omega)
    · rw [if_neg hn] at hj' ⊢
      by_cases q : j = 13
      · subst q
        rw [va_up_self]
        exact h8
      · rw [va_up_ne _ _ (by omega)]
        show Wf B (if 2 ≤ 2 + j ∧ 2 + j < 15 then G (2 + j + 1) else G (2 + j))
        rw [if_pos (by omega)]
        exact h9 (j + 1) (by omega)
theorem WS_now {B : Nat} {W : Nat → Int32} (hW : Wf B W) (h : WS B N T c G) : WS B N T c (va_up G 1 W) := by
  obtain ⟨h1, h2, h3, h4, h5, h6, h7, h8, h9, h10⟩ := h
  exact ⟨h1, h2, h3, h4, h5, h6, h7, hW, fun j hj => by rw [va_up_ne _ _ (by omega)]; exact h9 j hj, fun i hi hk => by rw [va_up_ne _ _ (by omega)]; exact h10 i hi hk⟩
theorem MB_now {W w : Nat → Int32} (hE : Eqv W w) (h : MB s ar N T c G) : MB s (va_up ar 111 w) N T c (va_up G 1 W) := by
  obtain ⟨q, ⟨a1, a2, a3, a4⟩, b1, b2, b3, b4, b5⟩ := h
  exact ⟨q, ⟨a1, a2, a3, a4⟩, hE, b2, b3, fun j hj => by rw [va_up_ne _ _ (by omega), va_up_ne _ _ (by omega)]; exact b4 j hj, fun i hi hk => by rw [va_up_ne _ _ (by omega), va_up_ne _ _ (by omega)]; exact b5 i hi hk⟩
theorem Eqv_39 {C : Nat} {w w' : Nat → Int32} (hw : Lw C w) (h : ∀ i, i < 39 → w i = w' i) : Eqv w w' := by
  refine ⟨fun i hi => h i (by omega), fun e he k hk => ?_⟩
  have := Lw_hN he hw
  have hk' : k < hN e w := hk
  exact h _ (by omega)
def cpk (d k : Nat) (w f : Nat → Int32) : Nat → Int32 := fun i => if 39 * d ≤ i ∧ i < 39 * d + k then w (i - 39 * d) else f i
theorem cpk_0 (d : Nat) (w f : Nat → Int32) : cpk d 0 w f = f := by
  funext i
  unfold cpk
  rw [if_neg (by omega)]
theorem cpk_s (d k : Nat) (w f : Nat → Int32) : upd (cpk d k w f) (39 * d + k) (w k) = cpk d (k + 1) w f := by
  funext i
  by_cases q : i = 39 * d + k
  · subst q
    rw [upd_s]
    unfold cpk
    rw [if_pos (by omega), show 39 * d + k - 39 * d = k by omega]
  · rw [upd_n _ _ q]
    unfold cpk
    by_cases q2 : 39 * d ≤ i ∧ i < 39 * d + k
    · rw [if_pos q2, if_pos (by omega)]
    · rw [if_neg q2, if_neg (by omega)]
theorem idx39 (d k : Nat) : (39 * nI d + nI k : Int32) = nI (39 * d + k) := by rw [show (39 : Int32) = nI 39 from rfl, nI_mul, nI_add]
theorem m_noteL {d : Nat} (hs : s 13 = nI d) (hd : d < 14) : ∀ (r k n : Nat), k + r = 39 → r < n → g_X8_note_b51 n (mh F s sd (va_up ar 115 (cpk d k (ar 111) (ar 115)))) 107 (nI k) = some (mh F (upd s 13 (nI (d + 1))) sd (va_up ar 115 (cpk d 39 (ar 111) (ar 115)))) := by
  intro r
  induction r with
  | zero =>
    intro k n hk hn
    obtain ⟨n, rfl⟩ : ∃ n', n = n' + 1 := ⟨n - 1, by omega⟩
    obtain rfl : k = 39 := by omega
    rw [g_X8_note_b51, if_pos (show (39 : Int32) ≤ nI 39 from by decide), mh_g13, Option.bind_some, hs, nI_1, mh_p13, Option.bind_some]
  | succ r ih =>
    intro k n hk hn
    obtain ⟨n, rfl⟩ : ∃ n', n = n' + 1 := ⟨n - 1, by omega⟩
    rw [g_X8_note_b51, if_neg (show ¬ (39 : Int32) ≤ nI k from nI_ge (b := 39) (by omega) (by omega)), mh_r12, Option.bind_some, mh_g13, Option.bind_some, hs, mh_r7, Option.bind_some, mh_ld _ _ _ _ (p := 111) (kd := 0) (n := 39) (by omega) rfl rfl (show k < 39 by omega) (by omega), Option.bind_some, idx39, mh_st _ _ _ _ (p := 115) (kd := 0) (n := 546) (by omega) rfl rfl (by omega) (by omega), Option.bind_some, nI_1, va_up_ne _ _ (show 111 ≠ 115 by omega), va_up_self, va_up2, cpk_s]
    exact ih (k + 1) n (by omega) (by omega)
theorem m_noteC {d : Nat} (hs : s 13 = nI d) (hd : d < 14) : g_X8_note_b49 (mh F s sd ar) 107 = some (mh F (upd s 13 (nI (d + 1))) sd (va_up ar 115 (cpk d 39 (ar 111) (ar 115)))) := by
  have g := m_noteL (F := F) (sd := sd) (ar := ar) hs hd 39 0 gF (by omega) (by unfold gF; omega)
  rw [cpk_0, va_up_eta rfl] at g
  exact g
def shk (k : Nat) (f : Nat → Int32) : Nat → Int32 := fun i => if i < k then f (i + 39) else f i
theorem m_noteS (hs : s 13 = nI 14) : ∀ (r k n : Nat), k + r = 507 → r < n → g_X8_note_b11 n (mh F s sd (va_up ar 115 (shk k (ar 115)))) 107 (nI k) = g_X8_note_b49 (mh F (upd s 13 (nI 13)) sd (va_up ar 115 (shk 507 (ar 115)))) 107 := by
  intro r
  induction r with
  | zero =>
    intro k n hk hn
    obtain ⟨n, rfl⟩ : ∃ n', n = n' + 1 := ⟨n - 1, by omega⟩
    obtain rfl : k = 507 := by omega
    rw [g_X8_note_b11, if_pos (show (507 : Int32) ≤ nI 507 from by decide), mh_g13, Option.bind_some, hs, nI_pred, mh_p13, Option.bind_some]
  | succ r ih =>
    intro k n hk hn
    obtain ⟨n, rfl⟩ : ∃ n', n = n' + 1 := ⟨n - 1, by omega⟩
    have e1 : shk k (ar 115) (k + 39) = ar 115 (k + 39) := by
      unfold shk
      rw [if_neg (by omega)]
    have e2 : upd (shk k (ar 115)) k (ar 115 (k + 39)) = shk (k + 1) (ar 115) := by
      funext i
      by_cases q : i = k
      · subst q
        rw [upd_s]
        unfold shk
        rw [if_pos (by omega)]
      · rw [upd_n _ _ q]
        unfold shk
        by_cases q2 : i < k
        · rw [if_pos q2, if_pos (by omega)]
        · rw [if_neg q2, if_neg (by omega)]
    rw [g_X8_note_b11, if_neg (show ¬ (507 : Int32) ≤ nI k from nI_ge (b := 507) (by omega) (by omega)), mh_r12, Option.bind_some, Option.bind_some, show nI k + 39 = nI (k + 39) from nI_add k 39, mh_ld _ _ _ _ (p := 115) (kd := 0) (n := 546) (by omega) rfl rfl (by omega) (by omega), Option.bind_some, mh_st _ _ _ _ (p := 115) (kd := 0) (n := 546) (by omega) rfl rfl (show k < 546 by omega) (by omega), Option.bind_some, nI_1, va_up_self, va_up2, e1, e2]
    exact ih (k + 1) n (by omega) (by omega)
theorem MB_cpk {B d : Nat} {f : Nat → Int32} {G' : Nat → Nat → Int32} (hd : d < 14) (hW : WS B N T c G) (hB : MB s ar N T c G) (hf : ∀ j, j < d → Eqv (G' (2 + j)) (fun i => f (39 * j + i)) ∧ Wf B (G' (2 + j))) (hG : ∀ k, k < 2 ∨ 16 ≤ k → G' k = G k) : MB (upd s 13 (nI (d + 1))) (va_up ar 115 (cpk d 39 (ar 111) f)) (va_up N 2 (d + 1)) T c (va_up G' (2 + d) (G 1)) := by
  obtain ⟨⟨a1, a2, a3, a4, a5⟩, ⟨b1, b2, b3, b4⟩, r1, r2, r3, r4, r5⟩ := hB
  have hw := hW.2.2.2.2.2.2.2.1
  refine ⟨⟨a1, a2, rfl, a4, a5⟩, ⟨b1, b2, b3, b4⟩, ?_, ?_, r3, fun j hj => ?_, fun i hi hk => ?_⟩
  · rw [va_up_ne _ _ (by omega), hG _ (by omega)]; exact r1
  · rw [va_up_ne _ _ (by omega), hG _ (by omega)]; exact r2
  · have hj' : j < d + 1 := hj
    rw [va_up_self]
    by_cases q : j = d
    · subst q
      rw [va_up_self]
      refine Eqv_trans r1 (Eqv_39 (Wf_Lw (Wf_eqv r1 hw)) (fun i hi => ?_))
      show ar 111 i = cpk j 39 (ar 111) f (39 * j + i)
      unfold cpk
      rw [if_pos (by omega), show 39 * j + i - 39 * j = i by omega]
    · rw [va_up_ne _ _ (by omega)]
      obtain ⟨f1, f2⟩ := hf j (by omega)
      refine Eqv_trans f1 (Eqv_39 (Wf_Lw (Wf_eqv f1 f2)) (fun i hi => ?_))
      show f (39 * j + i) = cpk d 39 (ar 111) f (39 * j + i)
      unfold cpk
      rw [if_neg (by omega)]
  · rw [va_up_ne _ _ (by omega), hG _ (by omega)]
    exact r5 i hi hk
theorem m_note {B : Nat} (hW : WS B N T c G) (hB : MB s ar N T c G) : ∃ s' ar', g_X8_note (mh F s sd ar) 107 = some (mh F s' sd ar') ∧ MB s' ar' (va_up N 2 (pN (N 2))) T c (psh (N 2) G) := by
  have h14 := hW.2.2.1
  have a3 := hB.1.2.2.1
  by_cases hn : N 2 < 14
  · refine ⟨upd s 13 (nI (N 2 + 1)), va_up ar 115 (cpk (N 2) 39 (ar 111) (ar 115)), ?_, ?_⟩
    rotate_left
    · rw [pN, if_pos hn, psh, if_pos hn]
      exact MB_cpk (f := ar 115) hn hW hB (fun j hj => ⟨hB.2.2.2.2.2.1 j hj, hW.2.2.2.2.2.2.2.2.1 j hj⟩) (fun k hk => rfl)
    · rw [g_X8_note, mh_g13, Option.bind_some, a3, if_neg (show ¬ nI (N 2) = 14 from fun q => by have := (nI_eq (a := N 2) (b := 14) (by omega) (by omega)).mp q; omega)]
      exact m_noteC a3 hn
  · have e : N 2 = 14 := by omega
    refine ⟨upd s 13 (nI (13 + 1)), va_up ar 115 (cpk 13 39 (ar 111) (shk 507 (ar 115))), ?_, ?_⟩
    rotate_left
    · rw [pN, if_neg hn, psh, if_neg hn]
      refine MB_cpk (d := 13) (f := shk 507 (ar 115)) (G' := fgt G) (by omega) hW hB (fun j hj => ?_) (fun k hk => by unfold fgt; rw [if_neg (by omega)])
      have g1 := hB.2.2.2.2.2.1 (j + 1) (by omega)
      have g2 := hW.2.2.2.2.2.2.2.2.1 (j + 1) (by omega)
      unfold fgt
      rw [if_pos (by omega)]
      refine ⟨Eqv_trans g1 (Eqv_39 (Wf_Lw (Wf_eqv g1 g2)) (fun i hi => ?_)), g2⟩
      show ar 115 (39 * (j + 1) + i) = shk 507 (ar 115) (39 * j + i)
      unfold shk
      rw [if_pos (by omega), show 39 * (j + 1) + i = 39 * j + i + 39 by omega]
    · have g := m_noteS (F := F) (sd := sd) (ar := ar) (s := s) (by rw [a3, e]) 507 0 gF (by omega) (by unfold gF; omega)
      rw [show shk 0 (ar 115) = ar 115 from by funext i; unfold shk; rw [if_neg (by omega)], va_up_eta rfl] at g
      have g2 := m_noteC (F := F) (sd := sd) (s := upd s 13 (nI 13)) (ar := va_up ar 115 (shk 507 (ar 115))) (d := 13) (upd_s _ _ _) (by omega)
      rw [upd_upd, va_up_ne _ _ (show 111 ≠ 115 by omega), va_up_self, va_up2] at g2
      rw [g_X8_note, mh_g13, Option.bind_some, a3, if_pos (show nI (N 2) = 14 by rw [e]; rfl)]
      rw [show g_X8_note_b11 gF (mh F s sd ar) 107 0 = _ from g, g2]
end AB
