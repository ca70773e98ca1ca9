/-! the start: the row of acts -/
def IH (F H : Hp) (j : Nat) : Prop := H 20 = .inr (0, [.ref 21, .int 0]) ∧ (∃ r, H 21 = .inl (2, 14, .inr (.inr (.inr (.inr r)))) ∧ ∀ i, i < j → r i = some (22 + 5 * i)) ∧ (∀ i, i < j → isDz H (22 + 5 * i) 1 fpg) ∧ ∀ k, k < 20 ∨ 92 ≤ k → H k = F k
theorem i_st {F H : Hp} {j a b : Nat} {ij : Int32} (h : IH F H j) (hj : j < 14) (ha : a = 22 + 5 * j) (hb : b = a + 1) (hi : ij = nI j) : ∃ H', IH F H' (j + 1) ∧ ∀ K : Hp → Option Hp, ((gR H 20 0 0).bind fun q3 => (aN H q3).bind fun x4 => if x4 ≤ ij then none else (gR H 20 0 0).bind fun q6 => letH (va_up H a (.inr (1, [.null, .null, .int 0, .int 0, .int 0, .int 0, .int 0, .int 0, .int 0, .int 0, .int 0, .int 0, .int 0, .int 0]))) fun F7 => (g_X1_init b F7 a).bind fun F8 => (sQ F8 q6 ij a).bind K) = K H' := by
  obtain ⟨h1, ⟨r, h2, h3⟩, h4, h5⟩ := h
  subst ha hi
  have g0 : gR H 20 0 0 = some 21 := by simp only [gR, gV, h1]; rfl
  have n0 : aN H 21 = some (nI 14) := by simp only [aN, h2]; rfl
  have e : dz H (22 + 5 * j) 1 fpg = rwF (dz H (22 + 5 * j) 1 fpg) r := by
    unfold rwF
    exact (va_up_eta (by rw [dz_n (by omega)]; exact h2)).symm
  have sq := rw_s (F := dz H (22 + 5 * j) 1 fpg) (r := r) (j := j) (v := 22 + 5 * j) hj (by omega) (dz_isO _ _ _ _)
  rw [← e] at sq
  refine ⟨rwF (dz H (22 + 5 * j) 1 fpg) (va_up r j (some (22 + 5 * j))), ⟨?_, ⟨_, va_up_self _ _ _, fun i hi => ?_⟩, fun i hi => ?_, fun k hk => ?_⟩, fun K => ?_⟩
  · unfold rwF
    rw [va_up_ne _ _ (by omega), dz_n (by omega)]
    exact h1
  · by_cases q : i = j
    · subst q
      rw [va_up_self]
    · rw [va_up_ne _ _ q]
      exact h3 i (by omega)
  · by_cases q : i = j
    · subst q
      exact isDz_fr (isDz_dz H (22 + 5 * i) 1 fpg) (fun k k1 k2 => by unfold rwF; rw [va_up_ne _ _ (by omega)])
    · exact isDz_fr (h4 i (by omega)) (fun k k1 k2 => by unfold rwF; rw [va_up_ne _ _ (by omega), dz_n (by omega)])
  · unfold rwF
    rw [va_up_ne _ _ (by omega), dz_n (by omega)]
    exact h5 k hk
  · rw [g0, Option.bind_some, n0, Option.bind_some, if_neg (nI_ge hj (by omega)), Option.bind_some, letH, c_newDz b hb, Option.bind_some, sq, Option.bind_some]
theorem i_X0 (F : Hp) : ∃ H, g_X0_init 21 (va_up F 20 (.inr (0, [.null, .int 0]))) 20 = some H ∧ IH F H 14 := by
  obtain ⟨H0, a1, a2, a3⟩ := pV_x (H := va_up (va_up F 20 (.inr (0, [.null, .int 0]))) 21 (.inl (2, 14, .inr (.inr (.inr (.inr (fun _ => none))))))) (a := 20) (ci := 0) (k := 0) (fs := [.null, .int 0]) (.ref 21) (by rw [va_up_ne _ _ (by omega), va_up_self]) (by decide)
  have i0 : IH F H0 0 := ⟨a2, ⟨_, by rw [a3 21 (by omega)]; exact va_up_self _ _ _, fun i hi => absurd hi (by omega)⟩, fun i hi => absurd hi (by omega), fun k hk => by rw [a3 k (by omega), va_up_ne _ _ (by omega), va_up_ne _ _ (by omega)]⟩
  rw [g_X0_init, letH, a1, Option.bind_some]
  obtain ⟨H1, i1, k1⟩ := i_st (a := 21 + 1) (b := 21 + 2) (ij := 0) i0 (by omega) rfl rfl rfl
  obtain ⟨H2, i2, k2⟩ := i_st (a := 21 + 6) (b := 21 + 7) (ij := (0 + 1)) i1 (by omega) rfl rfl rfl
  obtain ⟨H3, i3, k3⟩ := i_st (a := 21 + 11) (b := 21 + 12) (ij := ((0 + 1) + 1)) i2 (by omega) rfl rfl rfl
  obtain ⟨H4, i4, k4⟩ := i_st (a := 21 + 16) (b := 21 + 17) (ij := (((0 + 1) + 1) + 1)) i3 (by omega) rfl rfl rfl
  obtain ⟨H5, i5, k5⟩ := i_st (a := 21 + 21) (b := 21 + 22) (ij := ((((0 + 1) + 1) + 1) + 1)) i4 (by omega) rfl rfl rfl
  obtain ⟨H6, i6, k6⟩ := i_st (a := 21 + 26) (b := 21 + 27) (ij := (((((0 + 1) + 1) + 1) + 1) + 1)) i5 (by omega) rfl rfl rfl
  obtain ⟨H7, i7, k7⟩ := i_st (a := 21 + 31) (b := 21 + 32) (ij := ((((((0 + 1) + 1) + 1) + 1) + 1) + 1)) i6 (by omega) rfl rfl rfl
  obtain ⟨H8, i8, k8⟩ := i_st (a := 21 + 36) (b := 21 + 37) (ij := (((((((0 + 1) + 1) + 1) + 1) + 1) + 1) + 1)) i7 (by omega) rfl rfl rfl
  obtain ⟨H9, i9, k9⟩ := i_st (a := 21 + 41) (b := 21 + 42) (ij := ((((((((0 + 1) + 1) + 1) + 1) + 1) + 1) + 1) + 1)) i8 (by omega) rfl rfl rfl
  obtain ⟨H10, i10, k10⟩ := i_st (a := 21 + 46) (b := 21 + 47) (ij := (((((((((0 + 1) + 1) + 1) + 1) + 1) + 1) + 1) + 1) + 1)) i9 (by omega) rfl rfl rfl
  obtain ⟨H11, i11, k11⟩ := i_st (a := 21 + 51) (b := 21 + 52) (ij := ((((((((((0 + 1) + 1) + 1) + 1) + 1) + 1) + 1) + 1) + 1) + 1)) i10 (by omega) rfl rfl rfl
  obtain ⟨H12, i12, k12⟩ := i_st (a := 21 + 56) (b := 21 + 57) (ij := (((((((((((0 + 1) + 1) + 1) + 1) + 1) + 1) + 1) + 1) + 1) + 1) + 1)) i11 (by omega) rfl rfl rfl
  obtain ⟨H13, i13, k13⟩ := i_st (a := 21 + 61) (b := 21 + 62) (ij := ((((((((((((0 + 1) + 1) + 1) + 1) + 1) + 1) + 1) + 1) + 1) + 1) + 1) + 1)) i12 (by omega) rfl rfl rfl
  obtain ⟨H14, i14, k14⟩ := i_st (a := 21 + 66) (b := 21 + 67) (ij := (((((((((((((0 + 1) + 1) + 1) + 1) + 1) + 1) + 1) + 1) + 1) + 1) + 1) + 1) + 1)) i13 (by omega) rfl rfl rfl
  rw [k1, k2, k3, k4, k5, k6, k7, k8, k9, k10, k11, k12, k13, k14]
  obtain ⟨h1, ⟨r, h2, h3⟩, h4, h5⟩ := i14
  have g0 : gR H14 20 0 0 = some 21 := by simp only [gR, gV, h1]; rfl
  have n0 : aN H14 21 = some (nI 14) := by simp only [aN, h2]; rfl
  obtain ⟨H, b1, b2, b3⟩ := pV_x (k := 1) (.int 0) h1 (by simp)
  refine ⟨H, ?_, b2, ⟨r, by rw [b3 21 (by omega)]; exact h2, h3⟩, fun i hi => isDz_fr (h4 i hi) (fun k k1 k2 => b3 k (by omega)), fun k hk => by rw [b3 k (by omega)]; exact h5 k hk⟩
  rw [g0, Option.bind_some, n0, Option.bind_some, if_pos (show nI 14 ≤ ((((((((((((((0 + 1) + 1) + 1) + 1) + 1) + 1) + 1) + 1) + 1) + 1) + 1) + 1) + 1) + 1) by decide), b1, Option.bind_some]
