/-! the start: the reference's object -/
theorem i_X8 (F : Hp) (h0 : F 107 = .inr (8, [.int 0, .null, .int 0, .int 0, .null, .null, .int 0, .null, .null, .null, .int 0, .null, .null, .int 0, .null, .null, .int 0, .null, .null, .long 0, .null, .int 0])) : g_X8_init 108 F 107 = some (mh F (fun i => if i = 21 then 7 else 0) 0 (va_up (va_up (fun _ _ => 0) 111 (frst (fun _ => 0))) 112 (frst (fun _ => 0)))) := by
  obtain ⟨F1, a1, b1, c1⟩ := pV_x (H := va_up F 108 (.inl (0, 80, .inl (fun _ => 0)))) (a := 107) (ci := 8) (k := 1) (fs := [.int 0, .null, .int 0, .int 0, .null, .null, .int 0, .null, .null, .null, .int 0, .null, .null, .int 0, .null, .null, .int 0, .null, .null, .long 0, .null, .int 0]) (.ref 108) (by rw [va_up_ne _ _ (by omega)]; exact h0) (by simp)
  obtain ⟨F2, a2, b2, c2⟩ := pV_x (H := va_up F1 (108 + 1) (.inl (0, 39, .inl (fun _ => 0)))) (a := 107) (ci := 8) (k := 4) (fs := [.int 0, .ref 108, .int 0, .int 0, .null, .null, .int 0, .null, .null, .null, .int 0, .null, .null, .int 0, .null, .null, .int 0, .null, .null, .long 0, .null, .int 0]) (.ref (108 + 1)) (by rw [va_up_ne _ _ (by omega)]; exact b1) (by simp)
  obtain ⟨F3, a3, b3, c3⟩ := pV_x (H := va_up F2 (108 + 2) (.inl (0, 80, .inl (fun _ => 0)))) (a := 107) (ci := 8) (k := 5) (fs := [.int 0, .ref 108, .int 0, .int 0, .ref 109, .null, .int 0, .null, .null, .null, .int 0, .null, .null, .int 0, .null, .null, .int 0, .null, .null, .long 0, .null, .int 0]) (.ref (108 + 2)) (by rw [va_up_ne _ _ (by omega)]; exact b2) (by simp)
  obtain ⟨F4, a4, b4, c4⟩ := pV_x (H := va_up F3 (108 + 3) (.inl (0, 39, .inl (fun _ => 0)))) (a := 107) (ci := 8) (k := 7) (fs := [.int 0, .ref 108, .int 0, .int 0, .ref 109, .ref 110, .int 0, .null, .null, .null, .int 0, .null, .null, .int 0, .null, .null, .int 0, .null, .null, .long 0, .null, .int 0]) (.ref (108 + 3)) (by rw [va_up_ne _ _ (by omega)]; exact b3) (by simp)
  obtain ⟨F5, a5, b5, c5⟩ := pV_x (H := va_up F4 (108 + 4) (.inl (0, 39, .inl (fun _ => 0)))) (a := 107) (ci := 8) (k := 8) (fs := [.int 0, .ref 108, .int 0, .int 0, .ref 109, .ref 110, .int 0, .ref 111, .null, .null, .int 0, .null, .null, .int 0, .null, .null, .int 0, .null, .null, .long 0, .null, .int 0]) (.ref (108 + 4)) (by rw [va_up_ne _ _ (by omega)]; exact b4) (by simp)
  obtain ⟨F6, a6, b6, c6⟩ := pV_x (H := va_up F5 (108 + 5) (.inl (0, 80, .inl (fun _ => 0)))) (a := 107) (ci := 8) (k := 9) (fs := [.int 0, .ref 108, .int 0, .int 0, .ref 109, .ref 110, .int 0, .ref 111, .ref 112, .null, .int 0, .null, .null, .int 0, .null, .null, .int 0, .null, .null, .long 0, .null, .int 0]) (.ref (108 + 5)) (by rw [va_up_ne _ _ (by omega)]; exact b5) (by simp)
  obtain ⟨F7, a7, b7, c7⟩ := pV_x (H := va_up F6 (108 + 6) (.inl (0, 39, .inl (fun _ => 0)))) (a := 107) (ci := 8) (k := 11) (fs := [.int 0, .ref 108, .int 0, .int 0, .ref 109, .ref 110, .int 0, .ref 111, .ref 112, .ref 113, .int 0, .null, .null, .int 0, .null, .null, .int 0, .null, .null, .long 0, .null, .int 0]) (.ref (108 + 6)) (by rw [va_up_ne _ _ (by omega)]; exact b6) (by simp)
  obtain ⟨F8, a8, b8, c8⟩ := pV_x (H := va_up F7 (108 + 7) (.inl (0, 546, .inl (fun _ => 0)))) (a := 107) (ci := 8) (k := 12) (fs := [.int 0, .ref 108, .int 0, .int 0, .ref 109, .ref 110, .int 0, .ref 111, .ref 112, .ref 113, .int 0, .ref 114, .null, .int 0, .null, .null, .int 0, .null, .null, .long 0, .null, .int 0]) (.ref (108 + 7)) (by rw [va_up_ne _ _ (by omega)]; exact b7) (by simp)
  obtain ⟨F9, a9, b9, c9⟩ := pV_x (H := va_up F8 (108 + 8) (.inl (0, 78, .inl (fun _ => 0)))) (a := 107) (ci := 8) (k := 14) (fs := [.int 0, .ref 108, .int 0, .int 0, .ref 109, .ref 110, .int 0, .ref 111, .ref 112, .ref 113, .int 0, .ref 114, .ref 115, .int 0, .null, .null, .int 0, .null, .null, .long 0, .null, .int 0]) (.ref (108 + 8)) (by rw [va_up_ne _ _ (by omega)]; exact b8) (by simp)
  obtain ⟨F10, a10, b10, c10⟩ := pV_x (H := va_up F9 (108 + 9) (.inl (1, 2, .inl (fun _ => 0)))) (a := 107) (ci := 8) (k := 15) (fs := [.int 0, .ref 108, .int 0, .int 0, .ref 109, .ref 110, .int 0, .ref 111, .ref 112, .ref 113, .int 0, .ref 114, .ref 115, .int 0, .ref 116, .null, .int 0, .null, .null, .long 0, .null, .int 0]) (.ref (108 + 9)) (by rw [va_up_ne _ _ (by omega)]; exact b9) (by simp)
  obtain ⟨F11, a11, b11, c11⟩ := pV_x (H := va_up F10 (108 + 10) (.inl (0, 6, .inl (fun _ => 0)))) (a := 107) (ci := 8) (k := 17) (fs := [.int 0, .ref 108, .int 0, .int 0, .ref 109, .ref 110, .int 0, .ref 111, .ref 112, .ref 113, .int 0, .ref 114, .ref 115, .int 0, .ref 116, .ref 117, .int 0, .null, .null, .long 0, .null, .int 0]) (.ref (108 + 10)) (by rw [va_up_ne _ _ (by omega)]; exact b10) (by simp)
  obtain ⟨F12, a12, b12, c12⟩ := pV_x (H := va_up F11 (108 + 11) (.inl (0, 6, .inl (fun _ => 0)))) (a := 107) (ci := 8) (k := 18) (fs := [.int 0, .ref 108, .int 0, .int 0, .ref 109, .ref 110, .int 0, .ref 111, .ref 112, .ref 113, .int 0, .ref 114, .ref 115, .int 0, .ref 116, .ref 117, .int 0, .ref 118, .null, .long 0, .null, .int 0]) (.ref (108 + 11)) (by rw [va_up_ne _ _ (by omega)]; exact b11) (by simp)
  obtain ⟨F13, a13, b13, c13⟩ := pV_x (H := va_up F12 (108 + 12) (.inl (0, 100, .inl (fun _ => 0)))) (a := 107) (ci := 8) (k := 20) (fs := [.int 0, .ref 108, .int 0, .int 0, .ref 109, .ref 110, .int 0, .ref 111, .ref 112, .ref 113, .int 0, .ref 114, .ref 115, .int 0, .ref 116, .ref 117, .int 0, .ref 118, .ref 119, .long 0, .null, .int 0]) (.ref (108 + 12)) (by rw [va_up_ne _ _ (by omega)]; exact b12) (by simp)
  obtain ⟨F14, a14, b14, c14⟩ := pV_x (H := F13) (a := 107) (ci := 8) (k := 21) (fs := [.int 0, .ref 108, .int 0, .int 0, .ref 109, .ref 110, .int 0, .ref 111, .ref 112, .ref 113, .int 0, .ref 114, .ref 115, .int 0, .ref 116, .ref 117, .int 0, .ref 118, .ref 119, .long 0, .ref 120, .int 0]) (.int 7) b13 (by simp)
  have z0 : F14 108 = (.inl (0, 80, .inl (fun _ => 0))) := by
    rw [c14 108 (by omega), c13 108 (by omega), va_up_ne _ _ (by omega), c12 108 (by omega), va_up_ne _ _ (by omega), c11 108 (by omega), va_up_ne _ _ (by omega), c10 108 (by omega), va_up_ne _ _ (by omega), c9 108 (by omega), va_up_ne _ _ (by omega), c8 108 (by omega), va_up_ne _ _ (by omega), c7 108 (by omega), va_up_ne _ _ (by omega), c6 108 (by omega), va_up_ne _ _ (by omega), c5 108 (by omega), va_up_ne _ _ (by omega), c4 108 (by omega), va_up_ne _ _ (by omega), c3 108 (by omega), va_up_ne _ _ (by omega), c2 108 (by omega), va_up_ne _ _ (by omega), c1 108 (by omega)]
    exact va_up_self _ _ _
  have z1 : F14 109 = (.inl (0, 39, .inl (fun _ => 0))) := by
    rw [c14 109 (by omega), c13 109 (by omega), va_up_ne _ _ (by omega), c12 109 (by omega), va_up_ne _ _ (by omega), c11 109 (by omega), va_up_ne _ _ (by omega), c10 109 (by omega), va_up_ne _ _ (by omega), c9 109 (by omega), va_up_ne _ _ (by omega), c8 109 (by omega), va_up_ne _ _ (by omega), c7 109 (by omega), va_up_ne _ _ (by omega), c6 109 (by omega), va_up_ne _ _ (by omega), c5 109 (by omega), va_up_ne _ _ (by omega), c4 109 (by omega), va_up_ne _ _ (by omega), c3 109 (by omega), va_up_ne _ _ (by omega), c2 109 (by omega)]
    exact va_up_self _ _ _
  have z2 : F14 110 = (.inl (0, 80, .inl (fun _ => 0))) := by
    rw [c14 110 (by omega), c13 110 (by omega), va_up_ne _ _ (by omega), c12 110 (by omega), va_up_ne _ _ (by omega), c11 110 (by omega), va_up_ne _ _ (by omega), c10 110 (by omega), va_up_ne _ _ (by omega), c9 110 (by omega), va_up_ne _ _ (by omega), c8 110 (by omega), va_up_ne _ _ (by omega), c7 110 (by omega), va_up_ne _ _ (by omega), c6 110 (by omega), va_up_ne _ _ (by omega), c5 110 (by omega), va_up_ne _ _ (by omega), c4 110 (by omega), va_up_ne _ _ (by omega), c3 110 (by omega)]
    exact va_up_self _ _ _
  have z3 : F14 111 = (.inl (0, 39, .inl (fun _ => 0))) := by
    rw [c14 111 (by omega), c13 111 (by omega), va_up_ne _ _ (by omega), c12 111 (by omega), va_up_ne _ _ (by omega), c11 111 (by omega), va_up_ne _ _ (by omega), c10 111 (by omega), va_up_ne _ _ (by omega), c9 111 (by omega), va_up_ne _ _ (by omega), c8 111 (by omega), va_up_ne _ _ (by omega), c7 111 (by omega), va_up_ne _ _ (by omega), c6 111 (by omega), va_up_ne _ _ (by omega), c5 111 (by omega), va_up_ne _ _ (by omega), c4 111 (by omega)]
    exact va_up_self _ _ _
  have z4 : F14 112 = (.inl (0, 39, .inl (fun _ => 0))) := by
    rw [c14 112 (by omega), c13 112 (by omega), va_up_ne _ _ (by omega), c12 112 (by omega), va_up_ne _ _ (by omega), c11 112 (by omega), va_up_ne _ _ (by omega), c10 112 (by omega), va_up_ne _ _ (by omega), c9 112 (by omega), va_up_ne _ _ (by omega), c8 112 (by omega), va_up_ne _ _ (by omega), c7 112 (by omega), va_up_ne _ _ (by omega), c6 112 (by omega), va_up_ne _ _ (by omega), c5 112 (by omega)]
    exact va_up_self _ _ _
  have z5 : F14 113 = (.inl (0, 80, .inl (fun _ => 0))) := by
    rw [c14 113 (by omega), c13 113 (by omega), va_up_ne _ _ (by omega), c12 113 (by omega), va_up_ne _ _ (by omega), c11 113 (by omega), va_up_ne _ _ (by omega), c10 113 (by omega), va_up_ne _ _ (by omega), c9 113 (by omega), va_up_ne _ _ (by omega), c8 113 (by omega), va_up_ne _ _ (by omega), c7 113 (by omega), va_up_ne _ _ (by omega), c6 113 (by omega)]
    exact va_up_self _ _ _
  have z6 : F14 114 = (.inl (0, 39, .inl (fun _ => 0))) := by
    rw [c14 114 (by omega), c13 114 (by omega), va_up_ne _ _ (by omega), c12 114 (by omega), va_up_ne _ _ (by omega), c11 114 (by omega), va_up_ne _ _ (by omega), c10 114 (by omega), va_up_ne _ _ (by omega), c9 114 (by omega), va_up_ne _ _ (by omega), c8 114 (by omega), va_up_ne _ _ (by omega), c7 114 (by omega)]
    exact va_up_self _ _ _
  have z7 : F14 115 = (.inl (0, 546, .inl (fun _ => 0))) := by
    rw [c14 115 (by omega), c13 115 (by omega), va_up_ne _ _ (by omega), c12 115 (by omega), va_up_ne _ _ (by omega), c11 115 (by omega), va_up_ne _ _ (by omega), c10 115 (by omega), va_up_ne _ _ (by omega), c9 115 (by omega), va_up_ne _ _ (by omega), c8 115 (by omega)]
    exact va_up_self _ _ _
  have z8 : F14 116 = (.inl (0, 78, .inl (fun _ => 0))) := by
    rw [c14 116 (by omega), c13 116 (by omega), va_up_ne _ _ (by omega), c12 116 (by omega), va_up_ne _ _ (by omega), c11 116 (by omega), va_up_ne _ _ (by omega), c10 116 (by omega), va_up_ne _ _ (by omega), c9 116 (by omega)]
    exact va_up_self _ _ _
  have z9 : F14 117 = (.inl (1, 2, .inl (fun _ => 0))) := by
    rw [c14 117 (by omega), c13 117 (by omega), va_up_ne _ _ (by omega), c12 117 (by omega), va_up_ne _ _ (by omega), c11 117 (by omega), va_up_ne _ _ (by omega), c10 117 (by omega)]
    exact va_up_self _ _ _
  have z10 : F14 118 = (.inl (0, 6, .inl (fun _ => 0))) := by
    rw [c14 118 (by omega), c13 118 (by omega), va_up_ne _ _ (by omega), c12 118 (by omega), va_up_ne _ _ (by omega), c11 118 (by omega)]
    exact va_up_self _ _ _
  have z11 : F14 119 = (.inl (0, 6, .inl (fun _ => 0))) := by
    rw [c14 119 (by omega), c13 119 (by omega), va_up_ne _ _ (by omega), c12 119 (by omega)]
    exact va_up_self _ _ _
  have z12 : F14 120 = (.inl (0, 100, .inl (fun _ => 0))) := by
    rw [c14 120 (by omega), c13 120 (by omega)]
    exact va_up_self _ _ _
  have zo : ∀ k, k < 107 ∨ 121 ≤ k → F14 k = F k := fun k hk => by
    rw [c14 k (by omega), c13 k (by omega), va_up_ne _ _ (by omega), c12 k (by omega), va_up_ne _ _ (by omega), c11 k (by omega), va_up_ne _ _ (by omega), c10 k (by omega), va_up_ne _ _ (by omega), c9 k (by omega), va_up_ne _ _ (by omega), c8 k (by omega), va_up_ne _ _ (by omega), c7 k (by omega), va_up_ne _ _ (by omega), c6 k (by omega), va_up_ne _ _ (by omega), c5 k (by omega), va_up_ne _ _ (by omega), c4 k (by omega), va_up_ne _ _ (by omega), c3 k (by omega), va_up_ne _ _ (by omega), c2 k (by omega), va_up_ne _ _ (by omega), c1 k (by omega), va_up_ne _ _ (by omega)]
  have hm : F14 = mh F (fun i => if i = 21 then 7 else 0) 0 (fun _ _ => 0) := by
    funext k
    by_cases q : k < 107 ∨ 121 ≤ k
    · rw [zo k q, mh_n (by omega)]
    · rcases (show k = 107 ∨ k = 108 ∨ k = 109 ∨ k = 110 ∨ k = 111 ∨ k = 112 ∨ k = 113 ∨ k = 114 ∨ k = 115 ∨ k = 116 ∨ k = 117 ∨ k = 118 ∨ k = 119 ∨ k = 120 by omega) with rfl | rfl | rfl | rfl | rfl | rfl | rfl | rfl | rfl | rfl | rfl | rfl | rfl | rfl
      · rw [mh_o]
        exact b14
      · rw [mh_a _ _ _ _ (by omega) (by omega)]
        exact z0
      · rw [mh_a _ _ _ _ (by omega) (by omega)]
        exact z1
      · rw [mh_a _ _ _ _ (by omega) (by omega)]
        exact z2
      · rw [mh_a _ _ _ _ (by omega) (by omega)]
        exact z3
      · rw [mh_a _ _ _ _ (by omega) (by omega)]
        exact z4
      · rw [mh_a _ _ _ _ (by omega) (by omega)]
        exact z5
      · rw [mh_a _ _ _ _ (by omega) (by omega)]
        exact z6
      · rw [mh_a _ _ _ _ (by omega) (by omega)]
        exact z7
      · rw [mh_a _ _ _ _ (by omega) (by omega)]
        exact z8
      · rw [mh_a _ _ _ _ (by omega) (by omega)]
        exact z9
      · rw [mh_a _ _ _ _ (by omega) (by omega)]
        exact z10
      · rw [mh_a _ _ _ _ (by omega) (by omega)]
        exact z11
      · rw [mh_a _ _ _ _ (by omega) (by omega)]
        exact z12
  rw [g_X8_init, letH, a1, Option.bind_some, letH, a2, Option.bind_some, letH, a3, Option.bind_some, letH, a4, Option.bind_some, letH, a5, Option.bind_some, letH, a6, Option.bind_some, letH, a7, Option.bind_some, letH, a8, Option.bind_some, letH, a9, Option.bind_some, letH, a10, Option.bind_some, letH, a11, Option.bind_some, letH, a12, Option.bind_some, letH, a13, Option.bind_some, a14, Option.bind_some, hm, mh_r7, Option.bind_some, m_layFirst (by omega), Option.bind_some, mh_r8, Option.bind_some, m_layFirst (by omega), Option.bind_some, va_up_ne _ _ (show 112 ≠ 111 by omega)]
