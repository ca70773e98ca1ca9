/-! link: the program's side -/
section LC
variable {N : Nat → Nat} {T : Nat → Nat → Int32} {c : Nat → Nat} {G : Nat → Nat → Int32} {sd : Int64}
theorem c_fig {H : Hp} {p : Nat} (h8 : N 0 ≤ 80) (hp : p < N 0) (h1 : H 1 = .inr (6, [.ref 2, .int (nI (N 0))])) (h2 : H 2 = .inl (0, 80, .inl (T 0))) : g_X6_figureAt H 1 (nI p) = some (T 0 p - 48, H) := by
  have ho : isO H 1 6 = true := by simp [isO, h1]
  rw [g_X6_figureAt, ckO_t ho, c_sign h8 hp h1 h2, bnd2_s]
theorem c_side3 {F : Hp} {v : Nat → Int32} {e p : Nat} (he : e = 0 ∨ e = 1) (h8 : N 0 ≤ 80) (hp : p + 2 < N 0) (h1 : F 1 = .inr (6, [.ref 2, .int (nI (N 0))])) (h2 : F 2 = .inl (0, 80, .inl (T 0))) : g_X2_readSide (dz F 4 1 v) (4 + 1 + 2 * e) 1 (nI p) = some (dz F 4 1 (upd (upd (upd v (11 + 14 * e) (T 0 p - 48)) (11 + 14 * e + 1) (T 0 (p + 1) - 48)) (11 + 14 * e + 2) (T 0 (p + 2) - 48))) := by
  have k1 : ∀ v, dz F 4 1 v 1 = .inr (6, [.ref 2, .int (nI (N 0))]) := fun v => by rw [dz_n (by omega)]; exact h1
  have k2 : ∀ v, dz F 4 1 v 2 = .inl (0, 80, .inl (T 0)) := fun v => by rw [dz_n (by omega)]; exact h2
  have ho : ∀ v, isO (dz F 4 1 v) 1 6 = true := fun v => by simp [isO, k1]
  rw [g_X2_readSide, ckO_t (ho _), c_fig h8 (by omega) (k1 _) (k2 _), bnd2_s, dz_sp0 _ _ _ _ he, Option.bind_some, ckO_t (ho _), nI_1, c_fig h8 (by omega) (k1 _) (k2 _), bnd2_s, dz_sp1 _ _ _ _ he, Option.bind_some, ckO_t (ho _), nI_p2, c_fig h8 (by omega) (k1 _) (k2 _), bnd2_s, dz_sp2 _ _ _ _ he, Option.bind_some]
theorem c_b96 {M : Nat} (hM : N 0 = 9 + M) (h8 : N 0 ≤ 80) : ∀ (r i n : Nat) (H : Hp), i + r = M → r < n → H 1 = .inr (6, [.ref 2, .int (nI (N 0))]) → H 2 = .inl (0, 80, .inl (T 0)) → H 3 = .inr (2, [.ref 4, .ref 9, .int (nI i)]) → (∃ f, H 9 = .inl (0, 71, .inl f) ∧ ∀ k, k < i → f k = T 0 (9 + k)) → ∃ H', g_X2_become_b96 n H 3 1 (nI i) = some H' ∧ H' 3 = .inr (2, [.ref 4, .ref 9, .int (nI M)]) ∧ (∃ f, H' 9 = .inl (0, 71, .inl f) ∧ ∀ k, k < M → f k = T 0 (9 + k)) ∧ ∀ k, k ≠ 3 → k ≠ 9 → H' k = H k := by
  intro r
  induction r with
  | zero =>
    intro i n H hi hn h1 h2 h3 h9
    obtain ⟨n, rfl⟩ : ∃ n', n = n' + 1 := ⟨n - 1, by omega⟩
    obtain rfl : i = M := by omega
    refine ⟨H, ?_, h3, h9, fun _ _ _ => rfl⟩
    obtain ⟨f, hf, -⟩ := h9
    have g1 : gR H 3 2 1 = some 9 := by simp only [gR, gV, h3]; rfl
    have n9 : aN H 9 = some (nI 71) := by simp only [aN, hf]; rfl
    have t1 : gI H 1 6 1 = some (nI (N 0)) := by simp only [gI, gV, h1]; rfl
    rw [g_X2_become_b96, g1, Option.bind_some, n9, Option.bind_some]
    by_cases q : 71 ≤ i
    · rw [if_pos (nI_le q (by omega))]
    · rw [if_neg (nI_ge (by omega) (by omega)), t1, Option.bind_some, show (9 + nI i : Int32) = nI (9 + i) from nI_add 9 i, if_pos (nI_le (by omega) (by omega))]
  | succ r ih =>
    intro i n H hi hn h1 h2 h3 h9
    obtain ⟨n, rfl⟩ : ∃ n', n = n' + 1 := ⟨n - 1, by omega⟩
    obtain ⟨f, hf, hk⟩ := h9
    have g1 : gR H 3 2 1 = some 9 := by simp only [gR, gV, h3]; rfl
    have n9 : aN H 9 = some (nI 71) := by simp only [aN, hf]; rfl
    have t1 : gI H 1 6 1 = some (nI (N 0)) := by simp only [gI, gV, h1]; rfl
    have ho : isO H 1 6 = true := by simp [isO, h1]
    have e3 : va_up H 9 (.inl (0, 71, .inl (upd f i (T 0 (9 + i))))) 3 = .inr (2, [.ref 4, .ref 9, .int (nI i)]) := by rw [va_up_ne _ _ (by omega)]; exact h3
    have g2 : gI (va_up H 9 (.inl (0, 71, .inl (upd f i (T 0 (9 + i)))))) 3 2 2 = some (nI i) := by simp only [gI, gV, e3]; rfl
    have pp : pV (va_up H 9 (.inl (0, 71, .inl (upd f i (T 0 (9 + i)))))) 3 2 2 (.int (nI (i + 1))) = some (va_up (va_up H 9 (.inl (0, 71, .inl (upd f i (T 0 (9 + i)))))) 3 (.inr (2, [.ref 4, .ref 9, .int (nI (i + 1))]))) := by
      simp only [pV, e3]
      rfl
    obtain ⟨H', i1, i2, i3, i4⟩ := ih (i + 1) n (va_up (va_up H 9 (.inl (0, 71, .inl (upd f i (T 0 (9 + i)))))) 3 (.inr (2, [.ref 4, .ref 9, .int (nI (i + 1))]))) (by omega) (by omega) (by rw [va_up_ne _ _ (by omega), va_up_ne _ _ (by omega)]; exact h1) (by rw [va_up_ne _ _ (by omega), va_up_ne _ _ (by omega)]; exact h2) (va_up_self _ _ _) ⟨_, by rw [va_up_ne _ _ (by omega), va_up_self], fun k k1 => by
      by_cases q : k = i
      · subst q
        rw [upd_s]
      · rw [upd_n _ _ q]
        exact hk k (by omega)⟩
    refine ⟨H', ?_, i2, i3, fun k k1 k2 => by rw [i4 k k1 k2, va_up_ne _ _ k1, va_up_ne _ _ k2]⟩
    rw [g_X2_become_b96, g1, Option.bind_some, n9, Option.bind_some, if_neg (nI_ge (by omega) (by omega)), t1, Option.bind_some, show (9 + nI i : Int32) = nI (9 + i) from nI_add 9 i, if_neg (nI_ge (by omega) (by omega)), Option.bind_some, ckO_t ho, c_sign h8 (by omega) h1 h2, bnd2_s, arr_st _ hf (by omega) (by omega), Option.bind_some, g2, Option.bind_some, nI_1, pp, Option.bind_some]
    exact i1
theorem c_sbec {F : Hp} {w : Nat → Int32} {M : Nat} (hM : N 0 = 9 + M) (h8 : N 0 ≤ 80) (hd : isDz F 4 1 w) (h1 : F 1 = .inr (6, [.ref 2, .int (nI (N 0))])) (h2 : F 2 = .inl (0, 80, .inl (T 0))) (hS : SC F (N 1) c) : ∃ FB, g_X2_become F 3 1 = some FB ∧ FB 3 = .inr (2, [.ref 4, .ref 9, .int (nI M)]) ∧ (∃ f, FB 9 = .inl (0, 71, .inl f) ∧ ∀ k, k < M → f k = T 0 (9 + k)) ∧ isDz FB 4 1 (cw w (T 0)) ∧ ∀ k, k < 3 ∨ 10 ≤ k → FB k = F k := by
  have k1 : ∀ v, dz F 4 1 v 1 = .inr (6, [.ref 2, .int (nI (N 0))]) := fun v => by rw [dz_n (by omega)]; exact h1
  have k2 : ∀ v, dz F 4 1 v 2 = .inl (0, 80, .inl (T 0)) := fun v => by rw [dz_n (by omega)]; exact h2
  have k3 : ∀ v, dz F 4 1 v 3 = .inr (2, [.ref 4, .ref 9, .int (nI (N 1))]) := fun v => by rw [dz_n (by omega)]; exact hS.1
  have ho : ∀ v, isO (dz F 4 1 v) 1 6 = true := fun v => by simp [isO, k1]
  have r0 : ∀ v, gR (dz F 4 1 v) 3 2 0 = some 4 := fun v => by simp only [gR, gV, k3]; rfl
  have f1 : ∀ v, g_X6_figureAt (dz F 4 1 v) 1 1 = some (T 0 1 - 48, dz F 4 1 v) := fun v => c_fig (p := 1) h8 (by omega) (k1 _) (k2 _)
  have f2 : ∀ v, g_X6_figureAt (dz F 4 1 v) 1 2 = some (T 0 2 - 48, dz F 4 1 v) := fun v => c_fig (p := 2) h8 (by omega) (k1 _) (k2 _)
  have rs0 : ∀ v, g_X2_readSide (dz F 4 1 v) (4 + 1) 1 3 = _ := fun v => c_side3 (F := F) (v := v) (e := 0) (p := 3) (Or.inl rfl) h8 (by omega) h1 h2
  have rs1 : ∀ v, g_X2_readSide (dz F 4 1 v) (4 + 3) 1 6 = _ := fun v => c_side3 (F := F) (v := v) (e := 1) (p := 6) (Or.inr rfl) h8 (by omega) h1 h2
  have a0 : ∀ v, gI (dz F 4 1 v) (4 + 1) 3 0 = some (v (11 + 14 * 0)) := fun v => dz_sg0 F 4 1 v (e := 0) (Or.inl rfl)
  have a1 : ∀ v, gI (dz F 4 1 v) (4 + 3) 3 0 = some (v (11 + 14 * 1)) := fun v => dz_sg0 F 4 1 v (e := 1) (Or.inr rfl)
  have b0 : ∀ v x, pV (dz F 4 1 v) (4 + 1) 3 3 (.int x) = some (dz F 4 1 (upd v (11 + 14 * 0 + 3) x)) := fun v x => dz_sp3 F 4 1 v (e := 0) (Or.inl rfl) x
  have b1 : ∀ v x, pV (dz F 4 1 v) (4 + 3) 3 3 (.int x) = some (dz F 4 1 (upd v (11 + 14 * 1 + 3) x)) := fun v x => dz_sp3 F 4 1 v (e := 1) (Or.inr rfl) x
  have pp : ∀ v, pV (dz F 4 1 v) 3 2 2 (.int 0) = some (va_up (dz F 4 1 v) 3 (.inr (2, [.ref 4, .ref 9, .int (nI 0)]))) := fun v => by
    simp only [pV, k3]
    rfl
  obtain ⟨f9, hf9, -⟩ := hS.2.1
  obtain ⟨FB, g1, g2, g3, g4⟩ := c_b96 (N := N) (T := T) hM h8 M 0 gF (va_up (dz F 4 1 (cw w (T 0))) 3 (.inr (2, [.ref 4, .ref 9, .int (nI 0)]))) (by omega) (by unfold gF; omega) (by rw [va_up_ne _ _ (by omega)]; exact k1 _) (by rw [va_up_ne _ _ (by omega)]; exact k2 _) (va_up_self _ _ _) ⟨f9, by rw [va_up_ne _ _ (by omega), dz_n (by omega)]; exact hf9, fun k hk => absurd hk (by omega)⟩
  refine ⟨FB, ?_, g2, g3, isDz_fr (isDz_dz F 4 1 (cw w (T 0))) (fun k q1 q2 => by rw [g4 k (by omega) (by omega), va_up_ne _ _ (by omega)]), fun k hk => by rw [g4 k (by omega) (by omega), va_up_ne _ _ (by omega), dz_n (by omega)]⟩
  have main : g_X2_become (dz F 4 1 w) 3 1 = some FB := by
    rw [g_X2_become, r0, Option.bind_some, ckO_t (ho _), f1, bnd2_s, dz_p3, Option.bind_some, r0, Option.bind_some, ckO_t (ho _), f2, bnd2_s, dz_p4, Option.bind_some, r0, Option.bind_some, dz_g0, Option.bind_some, rs0, Option.bind_some, r0, Option.bind_some, dz_g1, Option.bind_some, rs1, Option.bind_some, r0, Option.bind_some, dz_g0, Option.bind_some, Option.bind_some, dz_g1, Option.bind_some, a1, Option.bind_some, b0, Option.bind_some, r0, Option.bind_some, dz_g1, Option.bind_some, Option.bind_some, dz_g0, Option.bind_some, a0, Option.bind_some, b1, Option.bind_some, pp, Option.bind_some]
    exact g1
  rw [hd] at main
  exact main
end LC
