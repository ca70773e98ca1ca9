/-! a Doze becomes another; many ticks; going on till it rests -/
def isDz (F : Hp) (a : Nat) (mg : Int32) (w : Nat → Int32) : Prop := dz F a mg w = F
theorem dz_ind {F G : Hp} {a : Nat} {mg : Int32} {w : Nat → Int32} {k : Nat} (h1 : a ≤ k) (h2 : k < a + 5) : dz F a mg w k = dz G a mg w k := by
  unfold dz
  by_cases c0 : k = a
  · rw [if_pos c0, if_pos c0]
  · rw [if_neg c0, if_neg c0]
    by_cases c1 : k = a + 1
    · rw [if_pos c1, if_pos c1]
    · rw [if_neg c1, if_neg c1]
      by_cases c2 : k = a + 2
      · rw [if_pos c2, if_pos c2]
      · rw [if_neg c2, if_neg c2]
        by_cases c3 : k = a + 3
        · rw [if_pos c3, if_pos c3]
        · rw [if_neg c3, if_neg c3]
          have c4 : k = a + 4 := by omega
          rw [if_pos c4, if_pos c4]
theorem dz_dz (F : Hp) (a : Nat) (mg mg' : Int32) (w w' : Nat → Int32) : dz (dz F a mg w) a mg' w' = dz F a mg' w' := by
  funext k
  by_cases h : k < a ∨ a + 5 ≤ k
  · rw [dz_n h, dz_n h, dz_n h]
  · exact dz_ind (by omega) (by omega)
theorem isDz_dz (F : Hp) (a : Nat) (mg : Int32) (w : Nat → Int32) : isDz (dz F a mg w) a mg w := dz_dz F a mg mg w w
theorem isDz_fr {F F1 : Hp} {a : Nat} {mg : Int32} {w : Nat → Int32} (h : isDz F a mg w) (hf : ∀ k, a ≤ k → k < a + 5 → F1 k = F k) : isDz F1 a mg w := by
  funext k
  by_cases hk : k < a ∨ a + 5 ≤ k
  · exact dz_n hk
  · rw [hf k (by omega) (by omega), ← congrFun h k]
    exact dz_ind (by omega) (by omega)
theorem isDz_ot {F : Hp} {a b : Nat} {mg mg' : Int32} {w w' : Nat → Int32} (h : isDz F b mg' w') (hd : a + 5 ≤ b ∨ b + 5 ≤ a) : isDz (dz F a mg w) b mg' w' := isDz_fr h (fun k h1 h2 => dz_n (by omega))
/-- the part of end e of a page comes out of another page -/
def bc (e k : Nat) (w' w : Nat → Int32) : Nat → Int32 := fun i => if 11 + 14 * e ≤ i ∧ i < 16 + 14 * e + k then w' i else w i
theorem bc_upd {e : Nat} {w' w : Nat → Int32} {j : Nat} (k : Nat) (hj : j = 16 + 14 * e + k) : upd (bc e k w' w) j (w' j) = bc e (k + 1) w' w := by
  funext i
  by_cases hi : i = j
  · subst hi
    rw [upd_s]
    unfold bc
    rw [if_pos (by omega)]
  · rw [upd_n _ _ hi]
    unfold bc
    by_cases hc : 11 + 14 * e ≤ i ∧ i < 16 + 14 * e + k
    · rw [if_pos hc, if_pos (by omega)]
    · rw [if_neg hc, if_neg (by omega)]
section BEC
variable {F : Hp} {a b : Nat} {mg mg' : Int32} {w w' : Nat → Int32} {e h : Nat}
theorem c_becL (hb : isDz F b mg' w') (hd : a + 5 ≤ b ∨ b + 5 ≤ a) (he : e = 0 ∨ e = 1) (hh : w' (15 + 14 * e) = nI h) (h9 : h ≤ 9) : ∀ (r k n : Nat), k + r = h → r < n → g_X3_become_b42 n (dz F a mg (bc e k w' w)) (a + 1 + 2 * e) (b + 1 + 2 * e) (nI k) = some (dz F a mg (bc e h w' w)) := by
  intro r
  induction r with
  | zero =>
    intro k n hk hn
    obtain ⟨n, rfl⟩ : ∃ n', n = n' + 1 := ⟨n - 1, by omega⟩
    have e15 : bc e k w' w (15 + 14 * e) = nI h := by unfold bc; rw [if_pos (by omega)]; exact hh
    rw [g_X3_become_b42, dz_sg4 _ _ _ _ he, Option.bind_some, show 11 + 14 * e + 4 = 15 + 14 * e by omega, e15, if_pos (nI_le (by omega) (by omega)), show k = h by omega]
  | succ r ih =>
    intro k n hk hn
    obtain ⟨n, rfl⟩ : ∃ n', n = n' + 1 := ⟨n - 1, by omega⟩
    have e15 : bc e k w' w (15 + 14 * e) = nI h := by unfold bc; rw [if_pos (by omega)]; exact hh
    have ho := isDz_ot (mg := mg) (w := bc e k w' w) hb hd
    have g1 := dz_sg5 (dz F a mg (bc e k w' w)) b mg' w' he
    have g2 := dz_len (dz F a mg (bc e k w' w)) b mg' w' he
    have g3 := dz_ld (dz F a mg (bc e k w' w)) b mg' w' he (k := k) (by omega)
    rw [ho] at g1 g2 g3
    rw [g_X3_become_b42, dz_sg4 _ _ _ _ he, Option.bind_some, show 11 + 14 * e + 4 = 15 + 14 * e by omega, e15, if_neg (nI_ge (by omega) (by omega)), dz_sg5 _ _ _ _ he, Option.bind_some, dz_len _ _ _ _ he, Option.bind_some, if_neg (nI_ge (b := 9) (by omega) (by omega)), g1, Option.bind_some, g2, Option.bind_some, if_neg (nI_ge (b := 9) (by omega) (by omega)), Option.bind_some, Option.bind_some, g3, Option.bind_some, dz_st _ _ _ _ he (by omega), Option.bind_some, bc_upd k rfl, nI_1]
    exact ih (k + 1) n (by omega) (by omega)
theorem c_sbecome (hb : isDz F b mg' w') (hd : a + 5 ≤ b ∨ b + 5 ≤ a) (he : e = 0 ∨ e = 1) (hh : w' (15 + 14 * e) = nI h) (h9 : h ≤ 9) : g_X3_become (dz F a mg w) (a + 1 + 2 * e) (b + 1 + 2 * e) = some (dz F a mg (bc e h w' w)) := by
  have g0 : ∀ w, gI (dz F a mg w) (b + 1 + 2 * e) 3 0 = some (w' (11 + 14 * e)) := fun w => by
    have := dz_sg0 (dz F a mg w) b mg' w' he
    rw [isDz_ot hb hd] at this
    exact this
  have g1 : ∀ w, gI (dz F a mg w) (b + 1 + 2 * e) 3 1 = some (w' (11 + 14 * e + 1)) := fun w => by
    have := dz_sg1 (dz F a mg w) b mg' w' he
    rw [isDz_ot hb hd] at this
    exact this
  have g2 : ∀ w, gI (dz F a mg w) (b + 1 + 2 * e) 3 2 = some (w' (11 + 14 * e + 2)) := fun w => by
    have := dz_sg2 (dz F a mg w) b mg' w' he
    rw [isDz_ot hb hd] at this
    exact this
  have g3 : ∀ w, gI (dz F a mg w) (b + 1 + 2 * e) 3 3 = some (w' (11 + 14 * e + 3)) := fun w => by
    have := dz_sg3 (dz F a mg w) b mg' w' he
    rw [isDz_ot hb hd] at this
    exact this
  have g4 : ∀ w, gI (dz F a mg w) (b + 1 + 2 * e) 3 4 = some (w' (11 + 14 * e + 4)) := fun w => by
    have := dz_sg4 (dz F a mg w) b mg' w' he
    rw [isDz_ot hb hd] at this
    exact this
  unfold g_X3_become
  rw [g0, Option.bind_some, dz_sp0 _ _ _ _ he, Option.bind_some, g1, Option.bind_some, dz_sp1 _ _ _ _ he, Option.bind_some, g2, Option.bind_some, dz_sp2 _ _ _ _ he, Option.bind_some, g3, Option.bind_some, dz_sp3 _ _ _ _ he, Option.bind_some, g4, Option.bind_some, dz_sp4 _ _ _ _ he, Option.bind_some]
  have e0 : upd (upd (upd (upd (upd w (11 + 14 * e) (w' (11 + 14 * e))) (11 + 14 * e + 1) (w' (11 + 14 * e + 1))) (11 + 14 * e + 2) (w' (11 + 14 * e + 2))) (11 + 14 * e + 3) (w' (11 + 14 * e + 3))) (11 + 14 * e + 4) (w' (11 + 14 * e + 4)) = bc e 0 w' w := by
    funext i
    unfold bc
    by_cases i4 : i = 11 + 14 * e + 4
    · subst i4; rw [upd_s, if_pos (by omega)]
    · rw [upd_n _ _ i4]
      by_cases i3 : i = 11 + 14 * e + 3
      · subst i3; rw [upd_s, if_pos (by omega)]
      · rw [upd_n _ _ i3]
        by_cases i2 : i = 11 + 14 * e + 2
        · subst i2; rw [upd_s, if_pos (by omega)]
        · rw [upd_n _ _ i2]
          by_cases i1 : i = 11 + 14 * e + 1
          · subst i1; rw [upd_s, if_pos (by omega)]
          · rw [upd_n _ _ i1]
            by_cases i0 : i = 11 + 14 * e
            · subst i0; rw [upd_s, if_pos (by omega)]
            · rw [upd_n _ _ i0, if_neg (by omega)]
  rw [e0]
  exact c_becL hb hd he hh h9 h 0 gF (by omega) (by unfold gF; omega)
theorem c_become {C : Nat} (hb : isDz F b mg' w') (hd : a + 5 ≤ b ∨ b + 5 ≤ a) (hm : mg' = 0 ∨ mg' = 1) (hw : Lw C w') : ∃ w'', g_X1_become (dz F a mg w) a b = some (dz F a mg' w'') ∧ Eqv w' w'' := by
  obtain ⟨n0, h90, hh0, -⟩ := hw.2 0 (Or.inl rfl)
  obtain ⟨n1, h91, hh1, -⟩ := hw.2 1 (Or.inr rfl)
  have rd : ∀ mg w, isDz (dz F a mg w) b mg' w' := fun mg w => isDz_ot hb hd
  have r0 : ∀ mg w, gR (dz F a mg w) b 1 0 = some (b + 1) := fun mg w => by
    have := dz_g0 (dz F a mg w) b mg' w'
    rw [rd] at this
    exact this
  have r1 : ∀ mg w, gR (dz F a mg w) b 1 1 = some (b + 3) := fun mg w => by
    have := dz_g1 (dz F a mg w) b mg' w'
    rw [rd] at this
    exact this
  have r2 : ∀ mg w, gI (dz F a mg w) b 1 2 = some mg' := fun mg w => by
    have := dz_g2 (dz F a mg w) b mg' w'
    rw [rd] at this
    exact this
  have r3 : ∀ mg w, gI (dz F a mg w) b 1 3 = some (w' 9) := fun mg w => by
    have := dz_g3 (dz F a mg w) b mg' w'
    rw [rd] at this
    exact this
  have r4 : ∀ mg w, gI (dz F a mg w) b 1 4 = some (w' 10) := fun mg w => by
    have := dz_g4 (dz F a mg w) b mg' w'
    rw [rd] at this
    exact this
  have r5 : ∀ mg w, gI (dz F a mg w) b 1 5 = some (w' 0) := fun mg w => by
    have := dz_g5 (dz F a mg w) b mg' w'
    rw [rd] at this
    exact this
  have r6 : ∀ mg w, gI (dz F a mg w) b 1 6 = some (w' 1) := fun mg w => by
    have := dz_g6 (dz F a mg w) b mg' w'
    rw [rd] at this
    exact this
  have r7 : ∀ mg w, gI (dz F a mg w) b 1 7 = some (w' 2) := fun mg w => by
    have := dz_g7 (dz F a mg w) b mg' w'
    rw [rd] at this
    exact this
  have r8 : ∀ mg w, gI (dz F a mg w) b 1 8 = some (w' 3) := fun mg w => by
    have := dz_g8 (dz F a mg w) b mg' w'
    rw [rd] at this
    exact this
  have r9 : ∀ mg w, gI (dz F a mg w) b 1 9 = some (w' 4) := fun mg w => by
    have := dz_g9 (dz F a mg w) b mg' w'
    rw [rd] at this
    exact this
  have r10 : ∀ mg w, gI (dz F a mg w) b 1 10 = some (w' 5) := fun mg w => by
    have := dz_g10 (dz F a mg w) b mg' w'
    rw [rd] at this
    exact this
  have r11 : ∀ mg w, gI (dz F a mg w) b 1 11 = some (w' 6) := fun mg w => by
    have := dz_g11 (dz F a mg w) b mg' w'
    rw [rd] at this
    exact this
  have r12 : ∀ mg w, gI (dz F a mg w) b 1 12 = some (w' 7) := fun mg w => by
    have := dz_g12 (dz F a mg w) b mg' w'
    rw [rd] at this
    exact this
  have r13 : ∀ mg w, gI (dz F a mg w) b 1 13 = some (w' 8) := fun mg w => by
    have := dz_g13 (dz F a mg w) b mg' w'
    rw [rd] at this
    exact this
  have s0 : g_X3_become (dz F a mg w) (a + 1) (b + 1) = some (dz F a mg (bc 0 n0 w' w)) := c_sbecome (e := 0) hb hd (Or.inl rfl) hh0 h90
  have s1 : ∀ w, g_X3_become (dz F a mg w) (a + 3) (b + 3) = some (dz F a mg (bc 1 n1 w' w)) := fun w => c_sbecome (e := 1) hb hd (Or.inr rfl) hh1 h91
  refine ⟨_, by
    unfold g_X1_become
    rw [dz_g0, Option.bind_some, r0, Option.bind_some, ckO_t (dz_isS F a mg w (e := 0) (Or.inl rfl)), s0, Option.bind_some, dz_g1, Option.bind_some, r1, Option.bind_some, ckO_t (dz_isS F a mg _ (e := 1) (Or.inr rfl)), s1, Option.bind_some, r2, Option.bind_some, dz_pZ _ _ _ _ _ hm, Option.bind_some, r3, Option.bind_some, dz_p3, Option.bind_some, r4, Option.bind_some, dz_p4, Option.bind_some, r5, Option.bind_some, dz_p5, Option.bind_some, r6, Option.bind_some, dz_p6, Option.bind_some, r7, Option.bind_some, dz_p7, Option.bind_some, r8, Option.bind_some, dz_p8, Option.bind_some, r9, Option.bind_some, dz_p9, Option.bind_some, r10, Option.bind_some, dz_p10, Option.bind_some, r11, Option.bind_some, dz_p11, Option.bind_some, r12, Option.bind_some, dz_p12, Option.bind_some, r13, Option.bind_some, dz_p13, Option.bind_some], ?_⟩
  have hi : ∀ i, 11 ≤ i → i < 30 → i < 16 + n0 ∨ (25 ≤ i) → bc 1 n1 w' (bc 0 n0 w' w) i = w' i := by
    intro i h1 h2 h3
    unfold bc
    by_cases c : 11 + 14 * 1 ≤ i ∧ i < 16 + 14 * 1 + n1
    · rw [if_pos c]
    · rw [if_neg c, if_pos (by omega)]
  refine ⟨fun i hi2 => ?_, fun e he k hk => ?_⟩
  · unfold upd
    by_cases c8 : i = 8
    · subst c8; rfl
    · rw [if_neg c8]
      by_cases c7 : i = 7
      · subst c7; rfl
      · rw [if_neg c7]
        by_cases c6 : i = 6
        · subst c6; rfl
        · rw [if_neg c6]
          by_cases c5 : i = 5
          · subst c5; rfl
          · rw [if_neg c5]
            by_cases c4 : i = 4
            · subst c4; rfl
            · rw [if_neg c4]
              by_cases c3 : i = 3
              · subst c3; rfl
              · rw [if_neg c3]
                by_cases c2 : i = 2
                · subst c2; rfl
                · rw [if_neg c2]
                  by_cases c1 : i = 1
                  · subst c1; rfl
                  · rw [if_neg c1]
                    by_cases c0 : i = 0
                    · subst c0; rfl
                    · rw [if_neg c0]
                      by_cases c10 : i = 10
                      · subst c10; rfl
                      · rw [if_neg c10]
                        by_cases c9 : i = 9
                        · subst c9; rfl
                        · rw [if_neg c9]
                          exact (hi i (by omega) (by omega) (by omega)).symm
  · rw [upd_n _ _ (by omega), upd_n _ _ (by omega), upd_n _ _ (by omega), upd_n _ _ (by omega), upd_n _ _ (by omega), upd_n _ _ (by omega), upd_n _ _ (by omega), upd_n _ _ (by omega), upd_n _ _ (by omega), upd_n _ _ (by omega), upd_n _ _ (by omega)]
    unfold bc
    rcases he with rfl | rfl
    · have hk2 : k < n0 := by rw [← hN_of hh0 h90]; exact hk
      rw [if_neg (by omega), if_pos (by omega)]
    · have hk2 : k < n1 := by rw [← hN_of hh1 h91]; exact hk
      rw [if_pos (by omega)]
end BEC
/-! many ticks -/
def tkN (mg u0 u1 : Bool) : Nat → (Nat → Int32) → (Nat → Int32)
  | 0, w => w
  | n + 1, w => tkN mg u0 u1 n (tk mg u0 u1 w)
def rest (mg : Bool) (w : Nat → Int32) : Bool := emp w && (decide (w 0 = 2) || !mg)
def stl (mg u0 u1 : Bool) : Nat → (Nat → Int32) → (Nat → Int32)
  | 0, w => w
  | n + 1, w => if rest mg w = true then w else stl mg u0 u1 n (tk mg u0 u1 w)
/-- in how many ticks it is quiet -/
def qui : Nat → Nat → (Nat → Int32) → Int32
  | 0, _, _ => -9
  | n + 1, k, w => if rest true w = true then nI k else qui n (k + 1) (tk true true true w)
theorem Wf_tkN {mg u0 u1 : Bool} : ∀ {n C : Nat} {w : Nat → Int32}, C + n < 100000000 → Wf C w → Wf (C + n) (tkN mg u0 u1 n w)
  | 0, C, w, _, h => h
  | n + 1, C, w, hC, h => by
    have := Wf_tkN (n := n) (C := C + 1) (mg := mg) (u0 := u0) (u1 := u1) (by omega) (Wf_tk mg u0 u1 (by omega) h)
    rw [tkN, show C + (n + 1) = C + 1 + n by omega]
    exact this
theorem Eqv_tkN {mg u0 u1 : Bool} : ∀ {n C : Nat} {w w' : Nat → Int32}, C + n < 100000000 → Wf C w → Eqv w w' → Eqv (tkN mg u0 u1 n w) (tkN mg u0 u1 n w')
  | 0, C, w, w', _, _, h => h
  | n + 1, C, w, w', hC, hw, h => Eqv_tkN (n := n) (C := C + 1) (by omega) (Wf_tk mg u0 u1 (by omega) hw) (Eqv_tk mg u0 u1 (by omega) hw h)
theorem md_tkN {mg u0 u1 : Bool} : ∀ {n C : Nat} {w : Nat → Int32}, C + n < 100000000 → Wf C w → tkN mg true true n (md u0 u1 w) = md u0 u1 (tkN mg u0 u1 n w)
  | 0, C, w, _, _ => rfl
  | n + 1, C, w, hC, hw => by
    rw [tkN, tkN, md_tk mg (by omega) hw]
    exact md_tkN (n := n) (C := C + 1) (by omega) (Wf_tk mg u0 u1 (by omega) hw)
theorem tkN_add {mg u0 u1 : Bool} : ∀ (m n : Nat) (w : Nat → Int32), tkN mg u0 u1 (m + n) w = tkN mg u0 u1 n (tkN mg u0 u1 m w)
  | 0, n, w => by rw [Nat.zero_add]; rfl
  | m + 1, n, w => by
    rw [show m + 1 + n = (m + n) + 1 by omega, tkN, tkN, tkN_add m n]
theorem Eqv_rest {mg : Bool} {w w' : Nat → Int32} (h : Eqv w w') : rest mg w' = rest mg w := by
  unfold rest emp
  rw [← h.1 15 (by omega), ← h.1 29 (by omega), ← h.1 0 (by omega)]
theorem md_rest {mg u0 u1 : Bool} {w : Nat → Int32} : rest mg (md u0 u1 w) = rest mg w := by
  unfold rest emp
  rw [md_n (i := 15) (by omega) (by omega), md_n (i := 29) (by omega) (by omega), md_n (i := 0) (by omega) (by omega)]
theorem Wf_stl {mg u0 u1 : Bool} : ∀ {n C : Nat} {w : Nat → Int32}, C + n < 100000000 → Wf C w → Wf (C + n) (stl mg u0 u1 n w)
  | 0, C, w, _, h => h
  | n + 1, C, w, hC, h => by
    rw [stl]
    split
    · exact Wf_mono (by omega) h
    · have := Wf_stl (n := n) (C := C + 1) (mg := mg) (u0 := u0) (u1 := u1) (by omega) (Wf_tk mg u0 u1 (by omega) h)
      rw [show C + (n + 1) = C + 1 + n by omega]
      exact this
theorem Eqv_stl {mg u0 u1 : Bool} : ∀ {n C : Nat} {w w' : Nat → Int32}, C + n < 100000000 → Wf C w → Eqv w w' → Eqv (stl mg u0 u1 n w) (stl mg u0 u1 n w')
  | 0, C, w, w', _, _, h => h
  | n + 1, C, w, w', hC, hw, h => by
    rw [stl, stl, Eqv_rest h]
    split
    · exact h
    · exact Eqv_stl (n := n) (C := C + 1) (by omega) (Wf_tk mg u0 u1 (by omega) hw) (Eqv_tk mg u0 u1 (by omega) hw h)
theorem md_stl {mg u0 u1 : Bool} : ∀ {n C : Nat} {w : Nat → Int32}, C + n < 100000000 → Wf C w → stl mg true true n (md u0 u1 w) = md u0 u1 (stl mg u0 u1 n w)
  | 0, C, w, _, _ => rfl
  | n + 1, C, w, hC, hw => by
    rw [stl, stl, md_rest]
    split
    · rfl
    · rw [md_tk mg (by omega) hw]
      exact md_stl (n := n) (C := C + 1) (by omega) (Wf_tk mg u0 u1 (by omega) hw)
theorem Eqv_qui : ∀ {n C : Nat} (k : Nat) {w w' : Nat → Int32}, C + n < 100000000 → Wf C w → Eqv w w' → qui n k w' = qui n k w
  | 0, C, k, w, w', _, _, h => rfl
  | n + 1, C, k, w, w', hC, hw, h => by
    rw [qui, qui, Eqv_rest h, Eqv_qui (n := n) (C := C + 1) (k + 1) (by omega) (Wf_tk true true true (by omega) hw) (Eqv_tk true true true (by omega) hw h)]
section CEL
variable {F : Hp} {a : Nat} {mg : Int32}
theorem c_elL {m : Nat} (hm : m < 2 ^ 31) : ∀ (r k n C : Nat) (w : Nat → Int32), k + r = m → r < n → C + r < 100000000 → Wf C w → g_X1_elapse_b2 n (dz F a mg w) a (nI m) (nI k) = some (dz F a mg (tkN (decide (¬ mg = 0)) true true r w)) := by
  intro r
  induction r with
  | zero =>
    intro k n C w hk hn hC hw
    obtain ⟨n, rfl⟩ : ∃ n', n = n' + 1 := ⟨n - 1, by omega⟩
    rw [g_X1_elapse_b2, if_pos (nI_le (by omega) (by omega))]
    rfl
  | succ r ih =>
    intro k n C w hk hn hC hw
    obtain ⟨n, rfl⟩ : ∃ n', n = n' + 1 := ⟨n - 1, by omega⟩
    rw [g_X1_elapse_b2, if_neg (nI_ge (by omega) (by omega)), ckO_t (dz_isO _ _ _ _), c_tick (by omega) hw, Option.bind_some, nI_1]
    exact ih (k + 1) n (C + 1) _ (by omega) (by omega) (by omega) (Wf_tk _ _ _ (by omega) hw)
theorem c_elapse {m C : Nat} {w : Nat → Int32} (hm : m < 1000) (hC : C + m < 100000000) (hw : Wf C w) : g_X1_elapse (dz F a mg w) a (nI m) = some (dz F a mg (tkN (decide (¬ mg = 0)) true true m w)) :=
  c_elL (by omega) m 0 gF C w (by omega) (by unfold gF; omega) hC hw
theorem c_elapse0 {w : Nat → Int32} {x : Int32} (hx : x ≤ 0) : g_X1_elapse (dz F a mg w) a x = some (dz F a mg w) := by
  unfold g_X1_elapse
  rw [show gF = 999 + 1 from rfl, g_X1_elapse_b2, if_pos hx]
theorem c_isAtRest {w : Nat → Int32} (hm : mg = 0 ∨ mg = 1) : g_X1_isAtRest (dz F a mg w) a = some (if rest (decide (¬ mg = 0)) w = true then 1 else 0, dz F a mg w) := by
  unfold g_X1_isAtRest g_X1_isAtRest_b22 rest
  rw [ckO_t (dz_isO _ _ _ _), c_holdsNone, bnd2_s, dz_g5, Option.bind_some, dz_g2, Option.bind_some]
  cases hE : emp w with
  | false => simp
  | true =>
    rw [if_neg (by decide)]
    by_cases c : w 0 = 2
    · simp [c]
    · rw [if_neg c]
      rcases hm with rfl | rfl
      · simp
      · simp [c]
theorem c_stlL (hm : mg = 0 ∨ mg = 1) : ∀ (r k n C : Nat) (w : Nat → Int32), k + r = 99 → r < n → C + r < 100000000 → Wf C w → g_X1_settle_b2 n (dz F a mg w) a (nI k) = some (dz F a mg (stl (decide (¬ mg = 0)) true true r w)) := by
  intro r
  induction r with
  | zero =>
    intro k n C w hk hn hC hw
    obtain ⟨n, rfl⟩ : ∃ n', n = n' + 1 := ⟨n - 1, by omega⟩
    rw [g_X1_settle_b2, if_pos (show (99 : Int32) ≤ nI k from nI_le (a := 99) (by omega) (by omega))]
    rfl
  | succ r ih =>
    intro k n C w hk hn hC hw
    obtain ⟨n, rfl⟩ : ∃ n', n = n' + 1 := ⟨n - 1, by omega⟩
    rw [g_X1_settle_b2, if_neg (show ¬ (99 : Int32) ≤ nI k from nI_ge (b := 99) (by omega) (by omega)), ckO_t (dz_isO _ _ _ _), c_isAtRest hm, bnd2_s, ckO_t (dz_isO _ _ _ _), c_tick (by omega) hw, Option.bind_some, nI_1, ih (k + 1) n (C + 1) _ (by omega) (by omega) (by omega) (Wf_tk _ _ _ (by omega) hw), stl]
    cases rest (decide (¬ mg = 0)) w with
    | true => simp
    | false => simp
theorem c_settle {C : Nat} {w : Nat → Int32} (hm : mg = 0 ∨ mg = 1) (hC : C + 99 < 100000000) (hw : Wf C w) : g_X1_settle (dz F a mg w) a = some (dz F a mg (stl (decide (¬ mg = 0)) true true 99 w)) :=
  c_stlL hm 99 0 gF C w (by omega) (by unfold gF; omega) hC hw
/-- what is told of a link -/
def fig (i : Int32) (w : Nat → Int32) : Int32 := if i = 3 then wk w else if i = 0 then w 0 else if i = 1 then w 1 else if i = 2 then w 2 else w (i.toNatClampNeg - 1)
theorem c_figure {C : Nat} {w : Nat → Int32} {j : Nat} (hj : j ≤ 9) (hw : Wf C w) : g_X1_figure (dz F a mg w) a (nI j) = some (fig (nI j) w, dz F a mg w) := by
  have hk := c_wakeTime (F := F) (a := a) (mg := mg) (w := w) (fun i hi => by
    obtain ⟨v, -, hv, e⟩ := hw.2.2.2.2.2.1 i (by omega)
    exact ⟨v, hv, e⟩)
  unfold g_X1_figure fig
  rw [ckO_t (dz_isO _ _ _ _), hk, bnd2_s, dz_g5, dz_g6, dz_g7, dz_g8, dz_g9, dz_g10, dz_g11, dz_g12, dz_g13]
  simp only [Option.bind_some]
  rcases (show j = 0 ∨ j = 1 ∨ j = 2 ∨ j = 3 ∨ j = 4 ∨ j = 5 ∨ j = 6 ∨ j = 7 ∨ j = 8 ∨ j = 9 by omega) with rfl | rfl | rfl | rfl | rfl | rfl | rfl | rfl | rfl | rfl <;> rfl
theorem c_price {w : Nat → Int32} : g_X1_price (dz F a mg w) a = some (w 4 + w 6 + 20 * w 8, dz F a mg w) := by
  unfold g_X1_price
  rw [dz_g9, Option.bind_some, dz_g11, Option.bind_some, dz_g13, Option.bind_some]
end CEL
